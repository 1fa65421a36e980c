/-! The reference: sum (loops by hand, the rest by program). -/
def mBase (pr bi : Int32) : Int32 := (1 - bi) - (pr - 1)
def mN (f : Int64) (p b : Int32) : Nat := uL f * 2 ^ (p - b).toInt.toNat
theorem mBase_b {pr bi : Int32} (hpr : 1 ≤ pr.toInt ∧ pr.toInt ≤ 64) (hbi : 0 ≤ bi.toInt ∧ bi.toInt ≤ 1023) : -5000 ≤ (mBase pr bi).toInt ∧ (mBase pr bi).toInt ≤ 5000 := by
  obtain ⟨P, hP, rfl⟩ := iI_of pr
  obtain ⟨B, hB, rfl⟩ := iI_of bi
  rw [iI_toInt hP] at hpr
  rw [iI_toInt hB] at hbi
  unfold mBase
  rw [show (1 : Int32) = iI 1 from rfl, iI_sub, iI_sub, iI_sub, iI_toInt ⟨by omega, by omega⟩]
  omega
theorem mN_lt {f : Int64} {p b : Int32} (hf : uL f < 2 ^ 53) (h : (p - b).toInt ≤ 2136) : mN f p b < 2 ^ 2189 := by
  unfold mN
  have h2 : 2 ^ (p - b).toInt.toNat ≤ 2 ^ 2136 := z_pow_le (by omega)
  have h3 : uL f * 2 ^ (p - b).toInt.toNat < 2 ^ 53 * 2 ^ (p - b).toInt.toNat := Nat.mul_lt_mul_of_pos_right hf (z_p _)
  refine Nat.lt_of_lt_of_le h3 ?_
  rw [← Nat.pow_add]
  exact z_pow_le (by omega)
theorem mN_0 {f : Int64} {p b : Int32} (h : mN f p b = 0) : f = 0 := by
  unfold mN at h
  have h2 : uL f = 0 := by
    rcases Nat.mul_eq_zero.1 h with g | g
    · exact g
    · exact absurd g (Nat.ne_of_gt (z_p _))
  rw [lN_uL f, h2]
  rfl
theorem bR_hi {N k : Nat} (h : k < 2200) : bR N (nI k).toNatClampNeg = nI (N / 2 ^ k % 2) := by
  rw [nI_cl h]
  rfl
theorem nI_and1 {n : Nat} (h : n < 2 ^ 31) : nI n &&& 1 = nI (n % 2) := pk_andN (by omega) 1 (by decide)
theorem nI_shr1 {n : Nat} (h : n < 2 ^ 31) : nI n >>> ((1 : Int32) &&& 31) = nI (n / 2) := by
  have := pk_shrN h ((1 : Int32) &&& 31) 1 (by decide)
  rw [this, Nat.pow_one]
theorem sub_bit : ∀ u, u < 2 → ∀ v, v < 2 → ∀ b, b < 2 → (nI u - nI v - nI b) &&& 1 = nI ((u + v + b) % 2) ∧ (0 ≤ (nI u - nI v - nI b) ↔ ¬ u < v + b) := by decide +kernel
theorem cmp_bit : ∀ u, u < 2 → ∀ v, v < 2 → ((nI u - nI v = 0 ↔ u = v) ∧ (0 < nI u - nI v ↔ v < u) ∧ (nI u - nI v < 0 ↔ u < v)) := by decide +kernel
theorem zbor_le (X Y k : Nat) : zbor X Y k < 2 := by
  unfold zbor
  split <;> decide
def C_M_sum_104 (md fl9 sx px py : Int32) (fx fy : Int64) (pr bi k1 : Int32) : Int64 × Int32 × (Nat → Int32) × (Nat → Int32) :=
  if sx = k1 then ((C_M_rounded md fl9 pr bi k1 (mBase pr bi) false (mN fx px (mBase pr bi) + mN fy py (mBase pr bi))).1, (C_M_rounded md fl9 pr bi k1 (mBase pr bi) false (mN fx px (mBase pr bi) + mN fy py (mBase pr bi))).2, bR (mN fx px (mBase pr bi) + mN fy py (mBase pr bi)), bR (mN fy py (mBase pr bi)))
  else if mN fx px (mBase pr bi) = mN fy py (mBase pr bi) then (C_M_made pr (if md = 3 then 1 else 0) 0 0, fl9, bR (mN fx px (mBase pr bi)), bR (mN fy py (mBase pr bi)))
  else if mN fy py (mBase pr bi) < mN fx px (mBase pr bi) then ((C_M_rounded md fl9 pr bi sx (mBase pr bi) false (mN fx px (mBase pr bi) - mN fy py (mBase pr bi))).1, (C_M_rounded md fl9 pr bi sx (mBase pr bi) false (mN fx px (mBase pr bi) - mN fy py (mBase pr bi))).2, bR (mN fx px (mBase pr bi) - mN fy py (mBase pr bi)), bR (mN fy py (mBase pr bi)))
  else ((C_M_rounded md fl9 pr bi k1 (mBase pr bi) false (mN fy py (mBase pr bi) - mN fx px (mBase pr bi))).1, (C_M_rounded md fl9 pr bi k1 (mBase pr bi) false (mN fy py (mBase pr bi) - mN fx px (mBase pr bi))).2, bR (mN fy py (mBase pr bi) - mN fx px (mBase pr bi)), bR (mN fy py (mBase pr bi)))
def C_M_sum (md : Int32) (fl : Int32) (kx : Int32) (ky : Int32) (sx : Int32) (px : Int32) (py : Int32) (fx : Int64) (fy : Int64) (pr : Int32) (bi : Int32) (row : Nat → Int32) (oth : Nat → Int32) (k1 : Int32) : Int64 × Int32 × (Nat → Int32) × (Nat → Int32) :=
  if kx = 1 then
    if ky = 1 then
      if sx = k1 then
        (C_M_endless pr bi sx, fl, row, oth)
      else
        ((C_M_invalid fl pr bi).1, (C_M_invalid fl pr bi).2, row, oth)
    else
      (C_M_endless pr bi sx, fl, row, oth)
  else
    if ky = 1 then
      (C_M_endless pr bi k1, fl, row, oth)
    else
      if fx = 0 then
        if fy = 0 then
          if sx = k1 then
            (C_M_made pr k1 0 0, fl, row, oth)
          else
            if md = 3 then
              (C_M_made pr 1 0 0, fl, row, oth)
            else
              (C_M_made pr 0 0 0, fl, row, oth)
        else
          C_M_sum_104 md fl sx px py fx fy pr bi k1
      else
        C_M_sum_104 md fl sx px py fx fy pr bi k1
abbrev rmM_sum : Room := { frames := 3, cells := 0, slots := 0, locals := 81 }
theorem cwM_sum {R : Room} {s : State} {args : Array Value} {w0 : Cond} {own : String} {idx : Nat} (hts : ∀ w ∈ (w0 :: bigW), w.before args s = true) (hl : Cond.methodLink own idx yM_sum ∈ bigW) (hR : rmM_sum.frames + 1 ≤ R.frames ∧ 8 + (7 + 11) + rmM_sum.locals ≤ R.locals) : CallW R s args own "FloatUnitModel" idx yM_sum cM_sum 7 (some .long) (wsM yM_sum cM_sum 7 (some .long)) rmM_sum 0 0 1 :=
  cwV 1 hts (big_V hl w_459 sel_M_sum w_2 w_460) rfl rfl rfl ⟨rfl, by decide, by decide, by decide +kernel⟩ hR
set_option maxRecDepth 100000 in
set_option maxHeartbeats 8000000 in
theorem c_M_sum (l : Launch) (D : va_G) (cI cL : ClassId) (m0 ra rb rc : Nat) (md fl er kx ky sx sy px py : Int32) (fx fy : Int64) (pr bi : Int32) (row oth : Nat → Int32) (rg : Nat → Int64) (k1 : Int32) (hX : 0 ≤ (px - mBase pr bi).toInt ∧ (px - mBase pr bi).toInt ≤ 2136) (hY : 0 ≤ (py - mBase pr bi).toInt ∧ (py - mBase pr bi).toInt ≤ 2136) (hfx : uL fx < 2 ^ 53) (hfy : uL fy < 2 ^ 53) (hpr : 1 ≤ pr.toInt ∧ pr.toInt ≤ 64) (hbi : 0 ≤ bi.toInt ∧ bi.toInt ≤ 1023) : MoM l D cI cL m0 ra rb rc yM_sum (wsM yM_sum cM_sum 7 (some .long)) rmM_sum [.int k1] ((md, fl, er, kx, ky, sx, sy, px, py), (fx, fy), (pr, bi), row, oth, rg) (some (.long ((C_M_sum md fl kx ky sx px py fx fy pr bi row oth k1).1))) ((md, ((C_M_sum md fl kx ky sx px py fx fy pr bi row oth k1).2.1), er, kx, ky, sx, sy, px, py), (fx, fy), (pr, bi), ((C_M_sum md fl kx ky sx px py fx fy pr bi row oth k1).2.2.1), ((C_M_sum md fl kx ky sx px py fx fy pr bi row oth k1).2.2.2), rg) := by
  refine mo_ofL (cc := cM_sum) (maxL := 7) (by decide) rfl (Nat.le_of_ble_eq_true rfl) ?_
  intro p e s m args below meth c Q hx hb hml hown hts H locs hS hw hret ls hl
  have hl : lv_has ls 7 [(0, .ref m0), (1, .int k1)] := hl
  have J104 : ∀ (ls : Array Slot), ¬ (fx = 0 ∧ fy = 0) → lv_has ls 7 [(0, .ref m0), (1, .int k1)] → MOw D cI cL m0 ra rb rc ((md, fl, er, kx, ky, sx, sy, px, py), (fx, fy), (pr, bi), row, oth, rg) s H → va_S (mA m0 ra rb rc) s.heap H locs → C_M_sum_104 md fl sx px py fx fy pr bi k1 = C_M_sum md fl kx ky sx px py fx fy pr bi row oth k1 → W p l e rmM_sum s m args below meth c H locs 0 0 Q (F0 m 104 ls []) := by
    intro ls hnz hl hw hS he
    have hXl : mN fx px (mBase pr bi) < 2 ^ 2189 := mN_lt hfx hX.2
    have hYl : mN fy py (mBase pr bi) < 2 ^ 2189 := mN_lt hfy hY.2
    have hnz2 : ¬ (mN fx px (mBase pr bi) = 0 ∧ mN fy py (mBase pr bi) = 0) := fun q => hnz ⟨mN_0 q.1, mN_0 q.2⟩
    have hXe : bR (uL fx * 2 ^ (px - mBase pr bi).toInt.toNat) = bR (mN fx px (mBase pr bi)) := rfl
    have hYe : bR (uL fy * 2 ^ (py - mBase pr bi).toInt.toNat) = bR (mN fy py (mBase pr bi)) := rfl
    unfold C_M_sum_104 at he
    generalize hXg : mN fx px (mBase pr bi) = X at hXl hnz2 hXe he
    generalize hYg : mN fy py (mBase pr bi) = Y at hYl hnz2 hYe he
    have p1 : 2 ^ 2189 + 2 ^ 2189 ≤ 2 ^ 2200 := by rw [← Nat.two_mul, Nat.mul_comm, ← Nat.pow_succ]; exact z_pow_le (by decide)
    generalize hpe : 2 ^ 2200 = p2200 at p1
    have hX2 : X < p2200 := by omega
    have hY2 : Y < p2200 := by omega
    have loopA : ∀ (n k : Nat) (cc9 : Int32) (row9 : Nat → Int32) (ls : Array Slot) (H : Heap) (locs : List Loc), 0 < cc9 → Y < X → ¬ sx = k1 → k + n = 2200 → lv_has ls 7 [(0, .ref m0), (1, .int k1), (2, .int (mBase pr bi)), (3, .int cc9), (4, .int (nI (zbor X Y k))), (5, .int (nI k))] → MOw D cI cL m0 ra rb rc ((md, fl, er, kx, ky, sx, sy, px, py), (fx, fy), (pr, bi), row9, (bR Y), rg) s H → va_S (mA m0 ra rb rc) s.heap H locs → (∀ j, j < 2200 → row9 j = if j < k then nI ((X - Y) / 2 ^ j % 2) else nI (X / 2 ^ j % 2)) → W p l e rmM_sum s m args below meth c H locs 0 0 Q (F0 m 327 ls []) := by
      intro n
      induction n with
      | zero =>
        intro k cc9 row9 ls H locs hc huv hsk hk hl hw hS hr
        obtain rfl : k = 2200 := by omega
        refine lv_iload (pc := 327) hx hb dM_sum_327 (lv_at hl 5 rfl) ?_
        refine lv_aload_n (pc := 329) hx hb dM_sum_329 rfl (lv_at hl 0 rfl) ?_
        refine mo_g_row (pc := 330) hx hb hts hown hw w_356 dM_sum_330 ?_
        refine mo_rn (pc := 333) hx hb hw dM_sum_333 ?_
        refine lv_icmp_ge (tgt := 411) (pc := 334) hx hb dM_sum_334 (by decide) (fun _ => ?_) (fun h => absurd (Int32.le_refl _) h)
        have hw : MOw D cI cL m0 ra rb rc ((md, fl, er, kx, ky, sx, sy, px, py), (fx, fy), (pr, bi), (bR (X - Y)), (bR Y), rg) s H := mo_rc hw (fun j hj => by rw [hr j hj, if_pos hj]; rfl)
        refine lv_aload_n (pc := 411) hx hb dM_sum_411 rfl (lv_at hl 0 rfl) ?_
        refine lv_iload_n (pc := 412) hx hb dM_sum_412 rfl (lv_at hl 3 rfl) ?_
        refine lv_if_le (tgt := 423) (pc := 413) hx hb dM_sum_413 (by decide) (fun h => absurd hc (Int32.not_lt.2 h)) (fun _ => ?_)
        refine lv_aload_n (pc := 416) hx hb dM_sum_416 rfl (lv_at hl 0 rfl) ?_
        refine mo_g_signX (pc := 417) hx hb hts hown hw w_364 dM_sum_417 ?_
        refine lv_goto (tgt := 424) (pc := 420) hx hb dM_sum_420 (by decide) ?_
        refine lv_iload_n (pc := 424) hx hb dM_sum_424 rfl (lv_at hl 2 rfl) ?_
        refine lv_iconst (v := 0) (pc := 425) hx hb dM_sum_425 (by decide) ?_
        refine mo_V (pc := 426) (rest := []) ⟨hx, hb, hml, hown, hts⟩ (c_M_rounded l D cI cL m0 ra rb rc md fl er kx ky sx sy px py fx fy pr bi row (bR Y) rg sx (mBase pr bi) false (X - Y) (by omega) (by rw [hpe]; omega) hpr hbi (mBase_b hpr hbi)) (cwM_rounded hts w_477 ⟨by decide, by decide⟩) hw hS rfl hl.1 rfl (Nat.le_of_ble_eq_true rfl) dM_sum_426 ⟨Nat.zero_le _, Nat.zero_le _⟩ (fun H locs hw hS => ?_)
        rw [if_neg hsk, if_neg (by omega), if_pos huv] at he
        exact hret _ _ _ _ _ _ (congrArg Prod.fst he) (by rw [← he]) hw hS dM_sum_429
      | succ n ih =>
        intro k cc9 row9 ls H locs hc huv hsk hk hl hw hS hr
        have hrk : row9 (nI k).toNatClampNeg = nI (X / 2 ^ k % 2) := by rw [nI_cl (by omega), hr k (by omega), if_neg (by omega)]
        refine lv_iload (pc := 327) hx hb dM_sum_327 (lv_at hl 5 rfl) ?_
        refine lv_aload_n (pc := 329) hx hb dM_sum_329 rfl (lv_at hl 0 rfl) ?_
        refine mo_g_row (pc := 330) hx hb hts hown hw w_356 dM_sum_330 ?_
        refine mo_rn (pc := 333) hx hb hw dM_sum_333 ?_
        refine lv_icmp_ge (tgt := 411) (pc := 334) hx hb dM_sum_334 (by decide) (fun h => absurd h (nI_ge (by omega) (by decide))) (fun _ => ?_)
        obtain ⟨sb1, sb2⟩ := sub_bit _ (z_b2 X k) _ (z_b2 Y k) _ (zbor_le X Y k)
        have K380 : ∀ d9 : Int32, d9 = (nI (X / 2 ^ k % 2)) - (nI (Y / 2 ^ k % 2)) - (nI (zbor X Y k)) → W p l e rmM_sum s m args below meth c H locs 0 0 Q (F0 m 380 ls [.int d9]) := by
          intro d9 hd9
          refine lv_istore (lv' := [(6, .int d9), (0, .ref m0), (1, .int k1), (2, .int (mBase pr bi)), (3, .int cc9), (4, .int (nI (zbor X Y k))), (5, .int (nI k))]) (pc := 380) hx hb dM_sum_380 hl (by decide) rfl (fun ls hl => ?_)
          refine lv_iload (pc := 382) hx hb dM_sum_382 (lv_at hl 0 rfl) ?_
          have K392 : ∀ b9 : Int32, b9 = nI (zbor X Y (k + 1)) → W p l e rmM_sum s m args below meth c H locs 0 0 Q (F0 m 392 ls [.int b9]) := by
            intro b9 hb9
            subst hb9
            refine lv_istore (lv' := [(4, .int (nI (zbor X Y (k + 1)))), (6, .int d9), (0, .ref m0), (1, .int k1), (2, .int (mBase pr bi)), (3, .int cc9), (5, .int (nI k))]) (pc := 392) hx hb dM_sum_392 hl (by decide) rfl (fun ls hl => ?_)
            refine lv_aload_n (pc := 394) hx hb dM_sum_394 rfl (lv_at hl 2 rfl) ?_
            refine mo_g_row (pc := 395) hx hb hts hown hw w_356 dM_sum_395 ?_
            refine lv_iload (pc := 398) hx hb dM_sum_398 (lv_at hl 6 rfl) ?_
            refine lv_iload (pc := 400) hx hb dM_sum_400 (lv_at hl 1 rfl) ?_
            refine lv_iconst (v := 1) (pc := 402) hx hb dM_sum_402 (by decide) ?_
            refine lv_iand (pc := 403) hx hb dM_sum_403 ?_
            refine mo_rs (pc := 404) hx hb hw hS (vp_in_nI (by omega) (by decide)) dM_sum_404 (fun H locs hw hS => ?_)
            refine lv_iinc (k := 6) (v := nI (k + 1)) (lv' := [(5, .int (nI (k + 1))), (4, .int (nI (zbor X Y (k + 1)))), (6, .int d9), (0, .ref m0), (1, .int k1), (2, .int (mBase pr bi)), (3, .int cc9)]) (pc := 405) hx hb dM_sum_405 hl rfl (nI_inc _) (by decide) rfl (fun ls hl => ?_)
            refine lv_goto (tgt := 327) (pc := 408) hx hb dM_sum_408 (by decide) ?_
            refine ih (k + 1) cc9 _ ls H locs hc huv hsk (by omega) (lv_sub hl [3, 4, 5, 6, 1, 0] rfl) hw hS (fun j hj => ?_)
            rw [nI_cl (by omega), upd_at]
            by_cases hjk : j = k
            · subst hjk
              rw [if_pos rfl, if_pos (by omega), hd9, sb1, ← z_sub_bit (Nat.le_of_lt huv)]
            · rw [if_neg hjk, hr j hj]
              by_cases g : j < k
              · rw [if_pos g, if_pos (by omega)]
              · rw [if_neg g, if_neg (by omega)]
          refine lv_if_ge (tgt := 391) (pc := 384) hx hb dM_sum_384 (by decide) (fun h => ?_) (fun h => ?_)
          · rw [hd9, sb2] at h
            refine lv_iconst (v := 0) (pc := 391) hx hb dM_sum_391 (by decide) ?_
            exact K392 _ (by rw [z_borrow, if_neg h]; rfl)
          · rw [hd9, sb2] at h
            refine lv_iconst (v := 1) (pc := 387) hx hb dM_sum_387 (by decide) ?_
            refine lv_goto (tgt := 392) (pc := 388) hx hb dM_sum_388 (by decide) ?_
            exact K392 _ (by rw [z_borrow, if_pos (Decidable.not_not.1 h)]; rfl)
        refine lv_iload_n (pc := 337) hx hb dM_sum_337 rfl (lv_at hl 3 rfl) ?_
        refine lv_if_le (tgt := 362) (pc := 338) hx hb dM_sum_338 (by decide) (fun h => absurd hc (Int32.not_lt.2 h)) (fun _ => ?_)
        refine lv_aload_n (pc := 341) hx hb dM_sum_341 rfl (lv_at hl 0 rfl) ?_
        refine mo_g_row (pc := 342) hx hb hts hown hw w_356 dM_sum_342 ?_
        refine lv_iload (pc := 345) hx hb dM_sum_345 (lv_at hl 5 rfl) ?_
        refine mo_rl (pc := 347) hx hb hw (vp_in_nI (by omega) (by decide)) dM_sum_347 ?_
        refine lv_topi (fun v501 e501 => ?_)
        obtain rfl : v501 = nI (X / 2 ^ k % 2) := e501.trans hrk
        refine lv_aload_n (pc := 348) hx hb dM_sum_348 rfl (lv_at hl 0 rfl) ?_
        refine mo_g_other (pc := 349) hx hb hts hown hw w_357 dM_sum_349 ?_
        refine lv_iload (pc := 352) hx hb dM_sum_352 (lv_at hl 5 rfl) ?_
        refine mo_ol (pc := 354) hx hb hw (vp_in_nI (by omega) (by decide)) dM_sum_354 ?_
        refine lv_topi (fun v502 e502 => ?_)
        obtain rfl : v502 = nI (Y / 2 ^ k % 2) := e502.trans (bR_hi (by omega))
        refine lv_isub (pc := 355) hx hb dM_sum_355 ?_
        refine lv_iload (pc := 356) hx hb dM_sum_356 (lv_at hl 4 rfl) ?_
        refine lv_isub (pc := 358) hx hb dM_sum_358 ?_
        refine lv_goto (tgt := 380) (pc := 359) hx hb dM_sum_359 (by decide) ?_
        exact K380 _ rfl
    have loopB : ∀ (n k : Nat) (cc9 : Int32) (row9 : Nat → Int32) (ls : Array Slot) (H : Heap) (locs : List Loc), ¬ 0 < cc9 → X < Y → ¬ sx = k1 → k + n = 2200 → lv_has ls 7 [(0, .ref m0), (1, .int k1), (2, .int (mBase pr bi)), (3, .int cc9), (4, .int (nI (zbor Y X k))), (5, .int (nI k))] → MOw D cI cL m0 ra rb rc ((md, fl, er, kx, ky, sx, sy, px, py), (fx, fy), (pr, bi), row9, (bR Y), rg) s H → va_S (mA m0 ra rb rc) s.heap H locs → (∀ j, j < 2200 → row9 j = if j < k then nI ((Y - X) / 2 ^ j % 2) else nI (X / 2 ^ j % 2)) → W p l e rmM_sum s m args below meth c H locs 0 0 Q (F0 m 327 ls []) := by
      intro n
      induction n with
      | zero =>
        intro k cc9 row9 ls H locs hc huv hsk hk hl hw hS hr
        obtain rfl : k = 2200 := by omega
        refine lv_iload (pc := 327) hx hb dM_sum_327 (lv_at hl 5 rfl) ?_
        refine lv_aload_n (pc := 329) hx hb dM_sum_329 rfl (lv_at hl 0 rfl) ?_
        refine mo_g_row (pc := 330) hx hb hts hown hw w_356 dM_sum_330 ?_
        refine mo_rn (pc := 333) hx hb hw dM_sum_333 ?_
        refine lv_icmp_ge (tgt := 411) (pc := 334) hx hb dM_sum_334 (by decide) (fun _ => ?_) (fun h => absurd (Int32.le_refl _) h)
        have hw : MOw D cI cL m0 ra rb rc ((md, fl, er, kx, ky, sx, sy, px, py), (fx, fy), (pr, bi), (bR (Y - X)), (bR Y), rg) s H := mo_rc hw (fun j hj => by rw [hr j hj, if_pos hj]; rfl)
        refine lv_aload_n (pc := 411) hx hb dM_sum_411 rfl (lv_at hl 0 rfl) ?_
        refine lv_iload_n (pc := 412) hx hb dM_sum_412 rfl (lv_at hl 3 rfl) ?_
        refine lv_if_le (tgt := 423) (pc := 413) hx hb dM_sum_413 (by decide) (fun _ => ?_) (fun h => absurd (Int32.not_lt.1 hc) h)
        refine lv_iload_n (pc := 423) hx hb dM_sum_423 rfl (lv_at hl 1 rfl) ?_
        refine lv_iload_n (pc := 424) hx hb dM_sum_424 rfl (lv_at hl 2 rfl) ?_
        refine lv_iconst (v := 0) (pc := 425) hx hb dM_sum_425 (by decide) ?_
        refine mo_V (pc := 426) (rest := []) ⟨hx, hb, hml, hown, hts⟩ (c_M_rounded l D cI cL m0 ra rb rc md fl er kx ky sx sy px py fx fy pr bi row (bR Y) rg k1 (mBase pr bi) false (Y - X) (by omega) (by rw [hpe]; omega) hpr hbi (mBase_b hpr hbi)) (cwM_rounded hts w_477 ⟨by decide, by decide⟩) hw hS rfl hl.1 rfl (Nat.le_of_ble_eq_true rfl) dM_sum_426 ⟨Nat.zero_le _, Nat.zero_le _⟩ (fun H locs hw hS => ?_)
        rw [if_neg hsk, if_neg (by omega), if_neg (by omega)] at he
        exact hret _ _ _ _ _ _ (congrArg Prod.fst he) (by rw [← he]) hw hS dM_sum_429
      | succ n ih =>
        intro k cc9 row9 ls H locs hc huv hsk hk hl hw hS hr
        have hrk : row9 (nI k).toNatClampNeg = nI (X / 2 ^ k % 2) := by rw [nI_cl (by omega), hr k (by omega), if_neg (by omega)]
        refine lv_iload (pc := 327) hx hb dM_sum_327 (lv_at hl 5 rfl) ?_
        refine lv_aload_n (pc := 329) hx hb dM_sum_329 rfl (lv_at hl 0 rfl) ?_
        refine mo_g_row (pc := 330) hx hb hts hown hw w_356 dM_sum_330 ?_
        refine mo_rn (pc := 333) hx hb hw dM_sum_333 ?_
        refine lv_icmp_ge (tgt := 411) (pc := 334) hx hb dM_sum_334 (by decide) (fun h => absurd h (nI_ge (by omega) (by decide))) (fun _ => ?_)
        obtain ⟨sb1, sb2⟩ := sub_bit _ (z_b2 Y k) _ (z_b2 X k) _ (zbor_le Y X k)
        have K380 : ∀ d9 : Int32, d9 = (nI (Y / 2 ^ k % 2)) - (nI (X / 2 ^ k % 2)) - (nI (zbor Y X k)) → W p l e rmM_sum s m args below meth c H locs 0 0 Q (F0 m 380 ls [.int d9]) := by
          intro d9 hd9
          refine lv_istore (lv' := [(6, .int d9), (0, .ref m0), (1, .int k1), (2, .int (mBase pr bi)), (3, .int cc9), (4, .int (nI (zbor Y X k))), (5, .int (nI k))]) (pc := 380) hx hb dM_sum_380 hl (by decide) rfl (fun ls hl => ?_)
          refine lv_iload (pc := 382) hx hb dM_sum_382 (lv_at hl 0 rfl) ?_
          have K392 : ∀ b9 : Int32, b9 = nI (zbor Y X (k + 1)) → W p l e rmM_sum s m args below meth c H locs 0 0 Q (F0 m 392 ls [.int b9]) := by
            intro b9 hb9
            subst hb9
            refine lv_istore (lv' := [(4, .int (nI (zbor Y X (k + 1)))), (6, .int d9), (0, .ref m0), (1, .int k1), (2, .int (mBase pr bi)), (3, .int cc9), (5, .int (nI k))]) (pc := 392) hx hb dM_sum_392 hl (by decide) rfl (fun ls hl => ?_)
            refine lv_aload_n (pc := 394) hx hb dM_sum_394 rfl (lv_at hl 2 rfl) ?_
            refine mo_g_row (pc := 395) hx hb hts hown hw w_356 dM_sum_395 ?_
            refine lv_iload (pc := 398) hx hb dM_sum_398 (lv_at hl 6 rfl) ?_
            refine lv_iload (pc := 400) hx hb dM_sum_400 (lv_at hl 1 rfl) ?_
            refine lv_iconst (v := 1) (pc := 402) hx hb dM_sum_402 (by decide) ?_
            refine lv_iand (pc := 403) hx hb dM_sum_403 ?_
            refine mo_rs (pc := 404) hx hb hw hS (vp_in_nI (by omega) (by decide)) dM_sum_404 (fun H locs hw hS => ?_)
            refine lv_iinc (k := 6) (v := nI (k + 1)) (lv' := [(5, .int (nI (k + 1))), (4, .int (nI (zbor Y X (k + 1)))), (6, .int d9), (0, .ref m0), (1, .int k1), (2, .int (mBase pr bi)), (3, .int cc9)]) (pc := 405) hx hb dM_sum_405 hl rfl (nI_inc _) (by decide) rfl (fun ls hl => ?_)
            refine lv_goto (tgt := 327) (pc := 408) hx hb dM_sum_408 (by decide) ?_
            refine ih (k + 1) cc9 _ ls H locs hc huv hsk (by omega) (lv_sub hl [3, 4, 5, 6, 1, 0] rfl) hw hS (fun j hj => ?_)
            rw [nI_cl (by omega), upd_at]
            by_cases hjk : j = k
            · subst hjk
              rw [if_pos rfl, if_pos (by omega), hd9, sb1, ← z_sub_bit (Nat.le_of_lt huv)]
            · rw [if_neg hjk, hr j hj]
              by_cases g : j < k
              · rw [if_pos g, if_pos (by omega)]
              · rw [if_neg g, if_neg (by omega)]
          refine lv_if_ge (tgt := 391) (pc := 384) hx hb dM_sum_384 (by decide) (fun h => ?_) (fun h => ?_)
          · rw [hd9, sb2] at h
            refine lv_iconst (v := 0) (pc := 391) hx hb dM_sum_391 (by decide) ?_
            exact K392 _ (by rw [z_borrow, if_neg h]; rfl)
          · rw [hd9, sb2] at h
            refine lv_iconst (v := 1) (pc := 387) hx hb dM_sum_387 (by decide) ?_
            refine lv_goto (tgt := 392) (pc := 388) hx hb dM_sum_388 (by decide) ?_
            exact K392 _ (by rw [z_borrow, if_pos (Decidable.not_not.1 h)]; rfl)
        refine lv_iload_n (pc := 337) hx hb dM_sum_337 rfl (lv_at hl 3 rfl) ?_
        refine lv_if_le (tgt := 362) (pc := 338) hx hb dM_sum_338 (by decide) (fun _ => ?_) (fun h => absurd (Int32.not_lt.1 hc) h)
        refine lv_aload_n (pc := 362) hx hb dM_sum_362 rfl (lv_at hl 0 rfl) ?_
        refine mo_g_other (pc := 363) hx hb hts hown hw w_357 dM_sum_363 ?_
        refine lv_iload (pc := 366) hx hb dM_sum_366 (lv_at hl 5 rfl) ?_
        refine mo_ol (pc := 368) hx hb hw (vp_in_nI (by omega) (by decide)) dM_sum_368 ?_
        refine lv_topi (fun v503 e503 => ?_)
        obtain rfl : v503 = nI (Y / 2 ^ k % 2) := e503.trans (bR_hi (by omega))
        refine lv_aload_n (pc := 369) hx hb dM_sum_369 rfl (lv_at hl 0 rfl) ?_
        refine mo_g_row (pc := 370) hx hb hts hown hw w_356 dM_sum_370 ?_
        refine lv_iload (pc := 373) hx hb dM_sum_373 (lv_at hl 5 rfl) ?_
        refine mo_rl (pc := 375) hx hb hw (vp_in_nI (by omega) (by decide)) dM_sum_375 ?_
        refine lv_topi (fun v504 e504 => ?_)
        obtain rfl : v504 = nI (X / 2 ^ k % 2) := e504.trans hrk
        refine lv_isub (pc := 376) hx hb dM_sum_376 ?_
        refine lv_iload (pc := 377) hx hb dM_sum_377 (lv_at hl 4 rfl) ?_
        refine lv_isub (pc := 379) hx hb dM_sum_379 ?_
        exact K380 _ rfl
    have K297 : ∀ (c9 : Int32) (ls : Array Slot) (H : Heap) (locs : List Loc), ¬ sx = k1 → ((c9 = 0 ∧ X = Y) ∨ (0 < c9 ∧ Y < X) ∨ (c9 < 0 ∧ X < Y)) → lv_has ls 7 [(0, .ref m0), (1, .int k1), (2, .int (mBase pr bi)), (3, .int c9)] → MOw D cI cL m0 ra rb rc ((md, fl, er, kx, ky, sx, sy, px, py), (fx, fy), (pr, bi), (bR X), (bR Y), rg) s H → va_S (mA m0 ra rb rc) s.heap H locs → W p l e rmM_sum s m args below meth c H locs 0 0 Q (F0 m 297 ls []) := by
      intro c9 ls H locs hsk hc hl hw hS
      refine lv_iload_n (pc := 297) hx hb dM_sum_297 rfl (lv_at hl 3 rfl) ?_
      refine lv_if_ne (tgt := 321) (pc := 298) hx hb dM_sum_298 (by decide) (fun h => ?_) (fun h => ?_)
      · refine lv_iconst (v := 0) (pc := 321) hx hb dM_sum_321 (by decide) ?_
        refine lv_istore (lv' := [(4, .int 0), (0, .ref m0), (1, .int k1), (2, .int (mBase pr bi)), (3, .int c9)]) (pc := 322) hx hb dM_sum_322 hl (by decide) rfl (fun ls hl => ?_)
        refine lv_iconst (v := 0) (pc := 324) hx hb dM_sum_324 (by decide) ?_
        refine lv_istore (lv' := [(5, .int 0), (4, .int 0), (0, .ref m0), (1, .int k1), (2, .int (mBase pr bi)), (3, .int c9)]) (pc := 325) hx hb dM_sum_325 hl (by decide) rfl (fun ls hl => ?_)
        rcases hc with hc | hc | hc
        · exact absurd hc.1 h
        · exact loopA 2200 0 c9 (bR X) ls H locs hc.1 hc.2 hsk (by omega) (by rw [z_bor0]; exact lv_sub hl [2, 3, 4, 5, 1, 0] rfl) hw hS (fun j hj => by rw [if_neg (by omega)]; rfl)
        · exact loopB 2200 0 c9 (bR X) ls H locs (Int32.not_lt.2 (Int32.le_of_lt hc.1)) hc.2 hsk (by omega) (by rw [z_bor0]; exact lv_sub hl [2, 3, 4, 5, 1, 0] rfl) hw hS (fun j hj => by rw [if_neg (by omega)]; rfl)
      · have hXY : X = Y := by
          rcases hc with hc | hc | hc
          · exact hc.2
          · rw [h] at hc
            exact absurd hc.1 (by decide)
          · rw [h] at hc
            exact absurd hc.1 (by decide)
        rw [if_neg hsk, if_pos hXY] at he
        have K315 : ∀ v9 : Int32, v9 = (if md = 3 then 1 else 0) → W p l e rmM_sum s m args below meth c H locs 0 0 Q (F0 m 315 ls [.int v9, .ref m0]) := by
          intro v9 hv9
          subst hv9
          refine lv_lconst (v := 0) (pc := 315) hx hb dM_sum_315 (by decide) ?_
          refine lv_lconst (v := 0) (pc := 316) hx hb dM_sum_316 (by decide) ?_
          refine mo_V (pc := 317) (rest := []) ⟨hx, hb, hml, hown, hts⟩ (c_M_made l D cI cL m0 ra rb rc md fl er kx ky sx sy px py fx fy pr bi (bR X) (bR Y) rg (if md = 3 then 1 else 0) 0 0) (cwM_made hts w_453 ⟨by decide, by decide⟩) hw hS rfl hl.1 rfl (Nat.le_of_ble_eq_true rfl) dM_sum_317 ⟨Nat.zero_le _, Nat.zero_le _⟩ (fun H locs hw hS => ?_)
          exact hret _ _ _ _ _ _ (congrArg Prod.fst he) (by rw [← he]) hw hS dM_sum_320
        refine lv_aload_n (pc := 301) hx hb dM_sum_301 rfl (lv_at hl 0 rfl) ?_
        refine lv_aload_n (pc := 302) hx hb dM_sum_302 rfl (lv_at hl 0 rfl) ?_
        refine mo_g_mode (pc := 303) hx hb hts hown hw w_359 dM_sum_303 ?_
        refine lv_iconst (v := 3) (pc := 306) hx hb dM_sum_306 (by decide) ?_
        refine lv_icmp_ne (tgt := 314) (pc := 307) hx hb dM_sum_307 (by decide) (fun g => ?_) (fun g => ?_)
        · refine lv_iconst (v := 0) (pc := 314) hx hb dM_sum_314 (by decide) ?_
          exact K315 _ (by rw [if_neg g])
        · refine lv_iconst (v := 1) (pc := 310) hx hb dM_sum_310 (by decide) ?_
          refine lv_goto (tgt := 315) (pc := 311) hx hb dM_sum_311 (by decide) ?_
          exact K315 _ (by rw [if_pos g])
    have loopC : ∀ (n : Nat) (ls : Array Slot) (H : Heap) (locs : List Loc), ¬ sx = k1 → n ≤ 2200 → X / 2 ^ n = Y / 2 ^ n → lv_has ls 7 [(0, .ref m0), (1, .int k1), (2, .int (mBase pr bi)), (3, .int 0), (4, .int (iI ((n : Int) - 1)))] → MOw D cI cL m0 ra rb rc ((md, fl, er, kx, ky, sx, sy, px, py), (fx, fy), (pr, bi), (bR X), (bR Y), rg) s H → va_S (mA m0 ra rb rc) s.heap H locs → W p l e rmM_sum s m args below meth c H locs 0 0 Q (F0 m 266 ls []) := by
      intro n
      induction n with
      | zero =>
        intro ls H locs hsk hn hd hl hw hS
        refine lv_iload (pc := 266) hx hb dM_sum_266 (lv_at hl 4 rfl) ?_
        refine lv_if_lt (tgt := 297) (pc := 268) hx hb dM_sum_268 (by decide) (fun _ => ?_) (fun h => absurd (by decide) h)
        rw [Nat.pow_zero, Nat.div_one, Nat.div_one] at hd
        exact K297 0 ls H locs hsk (Or.inl ⟨rfl, hd⟩) (lv_sub hl [0, 1, 2, 3] rfl) hw hS
      | succ n ih =>
        intro ls H locs hsk hn hd hl hw hS
        have en : iI (((n + 1 : Nat) : Int) - 1) = nI n := by rw [iI_nI, show (((n + 1 : Nat) : Int) - 1) = (n : Int) by omega]
        rw [en] at hl
        refine lv_iload (pc := 266) hx hb dM_sum_266 (lv_at hl 4 rfl) ?_
        refine lv_if_lt (tgt := 297) (pc := 268) hx hb dM_sum_268 (by decide) (fun h => absurd h (nI_pos (by omega))) (fun _ => ?_)
        refine lv_iload_n (pc := 271) hx hb dM_sum_271 rfl (lv_at hl 3 rfl) ?_
        refine lv_if_ne (tgt := 297) (pc := 272) hx hb dM_sum_272 (by decide) (fun h => absurd rfl h) (fun _ => ?_)
        refine lv_aload_n (pc := 275) hx hb dM_sum_275 rfl (lv_at hl 0 rfl) ?_
        refine mo_g_row (pc := 276) hx hb hts hown hw w_356 dM_sum_276 ?_
        refine lv_iload (pc := 279) hx hb dM_sum_279 (lv_at hl 4 rfl) ?_
        refine mo_rl (pc := 281) hx hb hw (vp_in_nI (by omega) (by decide)) dM_sum_281 ?_
        refine lv_topi (fun v505 e505 => ?_)
        obtain rfl : v505 = nI (X / 2 ^ n % 2) := e505.trans (bR_hi (by omega))
        refine lv_aload_n (pc := 282) hx hb dM_sum_282 rfl (lv_at hl 0 rfl) ?_
        refine mo_g_other (pc := 283) hx hb hts hown hw w_357 dM_sum_283 ?_
        refine lv_iload (pc := 286) hx hb dM_sum_286 (lv_at hl 4 rfl) ?_
        refine mo_ol (pc := 288) hx hb hw (vp_in_nI (by omega) (by decide)) dM_sum_288 ?_
        refine lv_topi (fun v506 e506 => ?_)
        obtain rfl : v506 = nI (Y / 2 ^ n % 2) := e506.trans (bR_hi (by omega))
        refine lv_isub (pc := 289) hx hb dM_sum_289 ?_
        refine lv_istore_n (lv' := [(3, .int ((nI (X / 2 ^ n % 2)) - (nI (Y / 2 ^ n % 2)))), (0, .ref m0), (1, .int k1), (2, .int (mBase pr bi)), (4, .int (nI n))]) (pc := 290) hx hb dM_sum_290 rfl hl (by decide) rfl (fun ls hl => ?_)
        obtain ⟨cb0, cb1, cb2⟩ := cmp_bit _ (z_b2 X n) _ (z_b2 Y n)
        rw [z_ds, z_ds] at hd
        refine lv_iinc (k := 4) (v := iI ((n : Int) - 1)) (lv' := [(4, .int (iI ((n : Int) - 1))), (3, .int ((nI (X / 2 ^ n % 2)) - (nI (Y / 2 ^ n % 2)))), (0, .ref m0), (1, .int k1), (2, .int (mBase pr bi))]) (pc := 291) hx hb dM_sum_291 hl rfl (by rw [iI_nI]; exact iI_dec _) (by decide) rfl (fun ls hl => ?_)
        refine lv_goto (tgt := 266) (pc := 294) hx hb dM_sum_294 (by decide) ?_
        by_cases hxy : X / 2 ^ n % 2 = Y / 2 ^ n % 2
        · refine ih ls H locs hsk (by omega) (by omega) ?_ hw hS
          have e0 : nI (X / 2 ^ n % 2) - nI (Y / 2 ^ n % 2) = 0 := cb0.2 hxy
          rw [← e0]
          exact lv_sub hl [2, 3, 4, 1, 0] rfl
        · have hne : ¬ nI (X / 2 ^ n % 2) - nI (Y / 2 ^ n % 2) = 0 := fun q => hxy (cb0.1 q)
          have hcc : ((nI (X / 2 ^ n % 2) - nI (Y / 2 ^ n % 2) = 0 ∧ X = Y) ∨ (0 < nI (X / 2 ^ n % 2) - nI (Y / 2 ^ n % 2) ∧ Y < X) ∨ (nI (X / 2 ^ n % 2) - nI (Y / 2 ^ n % 2) < 0 ∧ X < Y)) := by
            have hx2 := z_b2 X n
            have hy2 := z_b2 Y n
            rcases Nat.lt_or_ge (Y / 2 ^ n % 2) (X / 2 ^ n % 2) with g | g
            · refine Or.inr (Or.inl ⟨cb1.2 g, ?_⟩)
              rcases Nat.lt_or_ge Y X with q | q
              · exact q
              · have := Nat.div_le_div_right (c := 2 ^ n) q
                omega
            · refine Or.inr (Or.inr ⟨cb2.2 (by omega), ?_⟩)
              rcases Nat.lt_or_ge X Y with q | q
              · exact q
              · have := Nat.div_le_div_right (c := 2 ^ n) q
                omega
          refine lv_iload (pc := 266) hx hb dM_sum_266 (lv_at hl 0 rfl) ?_
          refine lv_if_lt (tgt := 297) (pc := 268) hx hb dM_sum_268 (by decide) (fun _ => K297 _ ls H locs hsk hcc (lv_sub hl [2, 3, 4, 1] rfl) hw hS) (fun _ => ?_)
          refine lv_iload_n (pc := 271) hx hb dM_sum_271 rfl (lv_at hl 1 rfl) ?_
          exact lv_if_ne (tgt := 297) (pc := 272) hx hb dM_sum_272 (by decide) (fun _ => K297 _ ls H locs hsk hcc (lv_sub hl [2, 3, 4, 1] rfl) hw hS) (fun h => absurd h hne)
    have loopP : ∀ (n k : Nat) (row9 : Nat → Int32) (ls : Array Slot) (H : Heap) (locs : List Loc), sx = k1 → k + n = 2200 → lv_has ls 7 [(0, .ref m0), (1, .int k1), (2, .int (mBase pr bi)), (3, .int (nI ((X % 2 ^ k + Y % 2 ^ k) / 2 ^ k))), (4, .int (nI k))] → MOw D cI cL m0 ra rb rc ((md, fl, er, kx, ky, sx, sy, px, py), (fx, fy), (pr, bi), row9, (bR Y), rg) s H → va_S (mA m0 ra rb rc) s.heap H locs → (∀ j, j < 2200 → row9 j = if j < k then nI ((X + Y) / 2 ^ j % 2) else nI (X / 2 ^ j % 2)) → W p l e rmM_sum s m args below meth c H locs 0 0 Q (F0 m 196 ls []) := by
      intro n
      induction n with
      | zero =>
        intro k row9 ls H locs hsk hk hl hw hS hr
        obtain rfl : k = 2200 := by omega
        refine lv_iload (pc := 196) hx hb dM_sum_196 (lv_at hl 4 rfl) ?_
        refine lv_aload_n (pc := 198) hx hb dM_sum_198 rfl (lv_at hl 0 rfl) ?_
        refine mo_g_row (pc := 199) hx hb hts hown hw w_356 dM_sum_199 ?_
        refine mo_rn (pc := 202) hx hb hw dM_sum_202 ?_
        refine lv_icmp_ge (tgt := 247) (pc := 203) hx hb dM_sum_203 (by decide) (fun _ => ?_) (fun h => absurd (Int32.le_refl _) h)
        have hw : MOw D cI cL m0 ra rb rc ((md, fl, er, kx, ky, sx, sy, px, py), (fx, fy), (pr, bi), (bR (X + Y)), (bR Y), rg) s H := mo_rc hw (fun j hj => by rw [hr j hj, if_pos hj]; rfl)
        refine lv_aload_n (pc := 247) hx hb dM_sum_247 rfl (lv_at hl 0 rfl) ?_
        refine lv_iload_n (pc := 248) hx hb dM_sum_248 rfl (lv_at hl 1 rfl) ?_
        refine lv_iload_n (pc := 249) hx hb dM_sum_249 rfl (lv_at hl 2 rfl) ?_
        refine lv_iconst (v := 0) (pc := 250) hx hb dM_sum_250 (by decide) ?_
        rw [if_pos hsk] at he
        refine mo_V (pc := 251) (rest := []) ⟨hx, hb, hml, hown, hts⟩ (c_M_rounded l D cI cL m0 ra rb rc md fl er kx ky sx sy px py fx fy pr bi row (bR Y) rg k1 (mBase pr bi) false (X + Y) (by omega) (by rw [hpe]; omega) hpr hbi (mBase_b hpr hbi)) (cwM_rounded hts w_477 ⟨by decide, by decide⟩) hw hS rfl hl.1 rfl (Nat.le_of_ble_eq_true rfl) dM_sum_251 ⟨Nat.zero_le _, Nat.zero_le _⟩ (fun H locs hw hS => ?_)
        exact hret _ _ _ _ _ _ (congrArg Prod.fst he) (by rw [← he]) hw hS dM_sum_254
      | succ n ih =>
        intro k row9 ls H locs hsk hk hl hw hS hr
        have hrk : row9 (nI k).toNatClampNeg = nI (X / 2 ^ k % 2) := by rw [nI_cl (by omega), hr k (by omega), if_neg (by omega)]
        refine lv_iload (pc := 196) hx hb dM_sum_196 (lv_at hl 4 rfl) ?_
        refine lv_aload_n (pc := 198) hx hb dM_sum_198 rfl (lv_at hl 0 rfl) ?_
        refine mo_g_row (pc := 199) hx hb hts hown hw w_356 dM_sum_199 ?_
        refine mo_rn (pc := 202) hx hb hw dM_sum_202 ?_
        refine lv_icmp_ge (tgt := 247) (pc := 203) hx hb dM_sum_203 (by decide) (fun h => absurd h (nI_ge (by omega) (by decide))) (fun _ => ?_)
        refine lv_aload_n (pc := 206) hx hb dM_sum_206 rfl (lv_at hl 0 rfl) ?_
        refine mo_g_row (pc := 207) hx hb hts hown hw w_356 dM_sum_207 ?_
        refine lv_iload (pc := 210) hx hb dM_sum_210 (lv_at hl 4 rfl) ?_
        refine mo_rl (pc := 212) hx hb hw (vp_in_nI (by omega) (by decide)) dM_sum_212 ?_
        refine lv_topi (fun v507 e507 => ?_)
        obtain rfl : v507 = nI (X / 2 ^ k % 2) := e507.trans hrk
        refine lv_aload_n (pc := 213) hx hb dM_sum_213 rfl (lv_at hl 0 rfl) ?_
        refine mo_g_other (pc := 214) hx hb hts hown hw w_357 dM_sum_214 ?_
        refine lv_iload (pc := 217) hx hb dM_sum_217 (lv_at hl 4 rfl) ?_
        refine mo_ol (pc := 219) hx hb hw (vp_in_nI (by omega) (by decide)) dM_sum_219 ?_
        refine lv_topi (fun v508 e508 => ?_)
        obtain rfl : v508 = nI (Y / 2 ^ k % 2) := e508.trans (bR_hi (by omega))
        refine lv_iadd (pc := 220) hx hb dM_sum_220 ?_
        refine lv_iload_n (pc := 221) hx hb dM_sum_221 rfl (lv_at hl 3 rfl) ?_
        refine lv_iadd (pc := 222) hx hb dM_sum_222 ?_
        refine lv_topi (fun v1 e1 => ?_)
        obtain rfl : v1 = nI (X / 2 ^ k % 2 + Y / 2 ^ k % 2 + (X % 2 ^ k + Y % 2 ^ k) / 2 ^ k) := e1.trans (by rw [nI_add, nI_add])
        have hsm : X / 2 ^ k % 2 + Y / 2 ^ k % 2 + (X % 2 ^ k + Y % 2 ^ k) / 2 ^ k < 4 := by
          have := z_b2 X k
          have := z_b2 Y k
          have := z_carry_le X Y k
          omega
        refine lv_istore (lv' := [(5, .int (nI (X / 2 ^ k % 2 + Y / 2 ^ k % 2 + (X % 2 ^ k + Y % 2 ^ k) / 2 ^ k))), (0, .ref m0), (1, .int k1), (2, .int (mBase pr bi)), (3, .int (nI ((X % 2 ^ k + Y % 2 ^ k) / 2 ^ k))), (4, .int (nI k))]) (pc := 223) hx hb dM_sum_223 hl (by decide) rfl (fun ls hl => ?_)
        refine lv_aload_n (pc := 225) hx hb dM_sum_225 rfl (lv_at hl 1 rfl) ?_
        refine mo_g_row (pc := 226) hx hb hts hown hw w_356 dM_sum_226 ?_
        refine lv_iload (pc := 229) hx hb dM_sum_229 (lv_at hl 5 rfl) ?_
        refine lv_iload (pc := 231) hx hb dM_sum_231 (lv_at hl 0 rfl) ?_
        refine lv_iconst (v := 1) (pc := 233) hx hb dM_sum_233 (by decide) ?_
        refine lv_iand (pc := 234) hx hb dM_sum_234 ?_
        refine mo_rs (pc := 235) hx hb hw hS (vp_in_nI (by omega) (by decide)) dM_sum_235 (fun H locs hw hS => ?_)
        refine lv_iload (pc := 236) hx hb dM_sum_236 (lv_at hl 0 rfl) ?_
        refine lv_iconst (v := 1) (pc := 238) hx hb dM_sum_238 (by decide) ?_
        refine lv_ishr (pc := 239) hx hb dM_sum_239 ?_
        refine lv_topi (fun v2 e2 => ?_)
        obtain rfl : v2 = nI ((X % 2 ^ (k + 1) + Y % 2 ^ (k + 1)) / 2 ^ (k + 1)) := e2.trans (by rw [nI_shr1 (by omega), z_carry])
        refine lv_istore_n (lv' := [(3, .int (nI ((X % 2 ^ (k + 1) + Y % 2 ^ (k + 1)) / 2 ^ (k + 1)))), (5, .int (nI (X / 2 ^ k % 2 + Y / 2 ^ k % 2 + (X % 2 ^ k + Y % 2 ^ k) / 2 ^ k))), (0, .ref m0), (1, .int k1), (2, .int (mBase pr bi)), (4, .int (nI k))]) (pc := 240) hx hb dM_sum_240 rfl hl (by decide) rfl (fun ls hl => ?_)
        refine lv_iinc (k := 5) (v := nI (k + 1)) (lv' := [(4, .int (nI (k + 1))), (3, .int (nI ((X % 2 ^ (k + 1) + Y % 2 ^ (k + 1)) / 2 ^ (k + 1)))), (5, .int (nI (X / 2 ^ k % 2 + Y / 2 ^ k % 2 + (X % 2 ^ k + Y % 2 ^ k) / 2 ^ k))), (0, .ref m0), (1, .int k1), (2, .int (mBase pr bi))]) (pc := 241) hx hb dM_sum_241 hl rfl (nI_inc _) (by decide) rfl (fun ls hl => ?_)
        refine lv_goto (tgt := 196) (pc := 244) hx hb dM_sum_244 (by decide) ?_
        refine ih (k + 1) _ ls H locs hsk (by omega) (lv_sub hl [3, 4, 5, 1, 0] rfl) hw hS (fun j hj => ?_)
        rw [nI_cl (by omega), upd_at]
        by_cases hjk : j = k
        · subst hjk
          rw [if_pos rfl, if_pos (by omega), nI_and1 (by omega), z_add_bit]
        · rw [if_neg hjk, hr j hj]
          by_cases g : j < k
          · rw [if_pos g, if_pos (by omega)]
          · rw [if_neg g, if_neg (by omega)]
    have K165 : ∀ (ls : Array Slot) (H : Heap) (locs : List Loc), lv_has ls 7 [(0, .ref m0), (1, .int k1), (2, .int (mBase pr bi))] → MOw D cI cL m0 ra rb rc ((md, fl, er, kx, ky, sx, sy, px, py), (fx, fy), (pr, bi), (bR Y), (bR Y), rg) s H → va_S (mA m0 ra rb rc) s.heap H locs → W p l e rmM_sum s m args below meth c H locs 0 0 Q (F0 m 165 ls []) := by
      intro ls H locs hl hw hS
      refine lv_aload_n (pc := 165) hx hb dM_sum_165 rfl (lv_at hl 0 rfl) ?_
      refine mo_V (pc := 166) (rest := []) ⟨hx, hb, hml, hown, hts⟩ (c_M_clear l D cI cL m0 ra rb rc md fl er kx ky sx sy px py fx fy pr bi (bR Y) (bR Y) rg) (cwM_clear hts w_469 ⟨by decide, by decide⟩) hw hS rfl hl.1 rfl (Nat.le_of_ble_eq_true rfl) dM_sum_166 ⟨Nat.zero_le _, Nat.zero_le _⟩ (fun H locs hw hS => ?_)
      refine W.eq (g2 := F0 m 169 ls []) rfl ?_
      refine lv_aload_n (pc := 169) hx hb dM_sum_169 rfl (lv_at hl 0 rfl) ?_
      refine lv_aload_n (pc := 170) hx hb dM_sum_170 rfl (lv_at hl 0 rfl) ?_
      refine mo_g_partX (pc := 171) hx hb hts hown hw w_368 dM_sum_171 ?_
      refine lv_aload_n (pc := 174) hx hb dM_sum_174 rfl (lv_at hl 0 rfl) ?_
      refine mo_g_powerX (pc := 175) hx hb hts hown hw w_366 dM_sum_175 ?_
      refine lv_iload_n (pc := 178) hx hb dM_sum_178 rfl (lv_at hl 2 rfl) ?_
      refine lv_isub (pc := 179) hx hb dM_sum_179 ?_
      refine mo_V (pc := 180) (rest := []) ⟨hx, hb, hml, hown, hts⟩ (c_M_lay l D cI cL m0 ra rb rc md fl er kx ky sx sy px py fx fy pr bi row (bR Y) rg fx (px - mBase pr bi) hX.1 hX.2) (cwM_lay hts w_473 ⟨by decide, by decide⟩) hw hS rfl hl.1 rfl (Nat.le_of_ble_eq_true rfl) dM_sum_180 ⟨Nat.zero_le _, Nat.zero_le _⟩ (fun H locs hw hS => ?_)
      rw [hXe] at hw
      refine W.eq (g2 := F0 m 183 ls []) rfl ?_
      refine lv_aload_n (pc := 183) hx hb dM_sum_183 rfl (lv_at hl 0 rfl) ?_
      refine mo_g_signX (pc := 184) hx hb hts hown hw w_364 dM_sum_184 ?_
      refine lv_iload_n (pc := 187) hx hb dM_sum_187 rfl (lv_at hl 1 rfl) ?_
      refine lv_icmp_ne (tgt := 255) (pc := 188) hx hb dM_sum_188 (by decide) (fun h => ?_) (fun h => ?_)
      · refine lv_iconst (v := 0) (pc := 255) hx hb dM_sum_255 (by decide) ?_
        refine lv_istore_n (lv' := [(3, .int 0), (0, .ref m0), (1, .int k1), (2, .int (mBase pr bi))]) (pc := 256) hx hb dM_sum_256 rfl hl (by decide) rfl (fun ls hl => ?_)
        refine lv_aload_n (pc := 257) hx hb dM_sum_257 rfl (lv_at hl 1 rfl) ?_
        refine mo_g_row (pc := 258) hx hb hts hown hw w_356 dM_sum_258 ?_
        refine mo_rn (pc := 261) hx hb hw dM_sum_261 ?_
        refine lv_iconst (v := 1) (pc := 262) hx hb dM_sum_262 (by decide) ?_
        refine lv_isub (pc := 263) hx hb dM_sum_263 ?_
        refine lv_topi (fun v1 e1 => ?_)
        obtain rfl : v1 = iI (((2200 : Nat) : Int) - 1) := e1.trans (by decide)
        refine lv_istore (lv' := [(4, .int (iI (((2200 : Nat) : Int) - 1))), (3, .int 0), (0, .ref m0), (1, .int k1), (2, .int (mBase pr bi))]) (pc := 264) hx hb dM_sum_264 hl (by decide) rfl (fun ls hl => ?_)
        exact loopC 2200 ls H locs h (by omega) (by rw [Nat.div_eq_of_lt (by rw [hpe]; exact hX2), Nat.div_eq_of_lt (by rw [hpe]; exact hY2)]) (lv_sub hl [2, 3, 4, 1, 0] rfl) hw hS
      · refine lv_iconst (v := 0) (pc := 191) hx hb dM_sum_191 (by decide) ?_
        refine lv_istore_n (lv' := [(3, .int 0), (0, .ref m0), (1, .int k1), (2, .int (mBase pr bi))]) (pc := 192) hx hb dM_sum_192 rfl hl (by decide) rfl (fun ls hl => ?_)
        refine lv_iconst (v := 0) (pc := 193) hx hb dM_sum_193 (by decide) ?_
        refine lv_istore (lv' := [(4, .int 0), (3, .int 0), (0, .ref m0), (1, .int k1), (2, .int (mBase pr bi))]) (pc := 194) hx hb dM_sum_194 hl (by decide) rfl (fun ls hl => ?_)
        exact loopP 2200 0 (bR X) ls H locs h (by omega) (by rw [Nat.pow_zero, Nat.mod_one, Nat.mod_one]; exact lv_sub hl [2, 3, 4, 1, 0] rfl) hw hS (fun j hj => by rw [if_neg (by omega)]; rfl)
    have loopO : ∀ (n k : Nat) (oth9 : Nat → Int32) (ls : Array Slot) (H : Heap) (locs : List Loc), k + n = 2200 → lv_has ls 7 [(0, .ref m0), (1, .int k1), (2, .int (mBase pr bi)), (3, .int (nI k))] → MOw D cI cL m0 ra rb rc ((md, fl, er, kx, ky, sx, sy, px, py), (fx, fy), (pr, bi), (bR Y), oth9, rg) s H → va_S (mA m0 ra rb rc) s.heap H locs → (∀ j, j < k → oth9 j = bR Y j) → W p l e rmM_sum s m args below meth c H locs 0 0 Q (F0 m 138 ls []) := by
      intro n
      induction n with
      | zero =>
        intro k oth9 ls H locs hk hl hw hS hr
        obtain rfl : k = 2200 := by omega
        refine lv_iload_n (pc := 138) hx hb dM_sum_138 rfl (lv_at hl 3 rfl) ?_
        refine lv_aload_n (pc := 139) hx hb dM_sum_139 rfl (lv_at hl 0 rfl) ?_
        refine mo_g_row (pc := 140) hx hb hts hown hw w_356 dM_sum_140 ?_
        refine mo_rn (pc := 143) hx hb hw dM_sum_143 ?_
        refine lv_icmp_ge (tgt := 165) (pc := 144) hx hb dM_sum_144 (by decide) (fun _ => ?_) (fun h => absurd (Int32.le_refl _) h)
        exact K165 ls H locs (lv_sub hl [0, 1, 2] rfl) (mo_oc hw hr) hS
      | succ n ih =>
        intro k oth9 ls H locs hk hl hw hS hr
        refine lv_iload_n (pc := 138) hx hb dM_sum_138 rfl (lv_at hl 3 rfl) ?_
        refine lv_aload_n (pc := 139) hx hb dM_sum_139 rfl (lv_at hl 0 rfl) ?_
        refine mo_g_row (pc := 140) hx hb hts hown hw w_356 dM_sum_140 ?_
        refine mo_rn (pc := 143) hx hb hw dM_sum_143 ?_
        refine lv_icmp_ge (tgt := 165) (pc := 144) hx hb dM_sum_144 (by decide) (fun h => absurd h (nI_ge (by omega) (by decide))) (fun _ => ?_)
        refine lv_aload_n (pc := 147) hx hb dM_sum_147 rfl (lv_at hl 0 rfl) ?_
        refine mo_g_other (pc := 148) hx hb hts hown hw w_357 dM_sum_148 ?_
        refine lv_iload_n (pc := 151) hx hb dM_sum_151 rfl (lv_at hl 3 rfl) ?_
        refine lv_aload_n (pc := 152) hx hb dM_sum_152 rfl (lv_at hl 0 rfl) ?_
        refine mo_g_row (pc := 153) hx hb hts hown hw w_356 dM_sum_153 ?_
        refine lv_iload_n (pc := 156) hx hb dM_sum_156 rfl (lv_at hl 3 rfl) ?_
        refine mo_rl (pc := 157) hx hb hw (vp_in_nI (by omega) (by decide)) dM_sum_157 ?_
        refine lv_topi (fun v509 e509 => ?_)
        obtain rfl : v509 = nI (Y / 2 ^ k % 2) := e509.trans (bR_hi (by omega))
        refine mo_os (pc := 158) hx hb hw hS (vp_in_nI (by omega) (by decide)) dM_sum_158 (fun H locs hw hS => ?_)
        refine lv_iinc (k := 3) (v := nI (k + 1)) (lv' := [(3, .int (nI (k + 1))), (0, .ref m0), (1, .int k1), (2, .int (mBase pr bi))]) (pc := 159) hx hb dM_sum_159 hl rfl (nI_inc _) (by decide) rfl (fun ls hl => ?_)
        refine lv_goto (tgt := 138) (pc := 162) hx hb dM_sum_162 (by decide) ?_
        refine ih (k + 1) _ ls H locs (by omega) (lv_sub hl [1, 2, 3, 0] rfl) hw hS (fun j hj => ?_)
        rw [nI_cl (by omega), upd_at]
        by_cases hjk : j = k
        · subst hjk
          rw [if_pos rfl]
          rfl
        · rw [if_neg hjk]
          exact hr j (by omega)
    refine lv_iconst (v := 1) (pc := 104) hx hb dM_sum_104 (by decide) ?_
    refine lv_aload_n (pc := 105) hx hb dM_sum_105 rfl (lv_at hl 0 rfl) ?_
    refine mo_g_bias (pc := 106) hx hb hts hown hw w_371 dM_sum_106 ?_
    refine lv_isub (pc := 109) hx hb dM_sum_109 ?_
    refine lv_aload_n (pc := 110) hx hb dM_sum_110 rfl (lv_at hl 0 rfl) ?_
    refine mo_g_precision (pc := 111) hx hb hts hown hw w_370 dM_sum_111 ?_
    refine lv_iconst (v := 1) (pc := 114) hx hb dM_sum_114 (by decide) ?_
    refine lv_isub (pc := 115) hx hb dM_sum_115 ?_
    refine lv_isub (pc := 116) hx hb dM_sum_116 ?_
    refine lv_topi (fun v1 e1 => ?_)
    obtain rfl : v1 = mBase pr bi := e1
    refine lv_istore_n (lv' := [(2, .int (mBase pr bi)), (0, .ref m0), (1, .int k1)]) (pc := 117) hx hb dM_sum_117 rfl hl (by decide) rfl (fun ls hl => ?_)
    refine lv_aload_n (pc := 118) hx hb dM_sum_118 rfl (lv_at hl 1 rfl) ?_
    refine mo_V (pc := 119) (rest := []) ⟨hx, hb, hml, hown, hts⟩ (c_M_clear l D cI cL m0 ra rb rc md fl er kx ky sx sy px py fx fy pr bi row oth rg) (cwM_clear hts w_469 ⟨by decide, by decide⟩) hw hS rfl hl.1 rfl (Nat.le_of_ble_eq_true rfl) dM_sum_119 ⟨Nat.zero_le _, Nat.zero_le _⟩ (fun H locs hw hS => ?_)
    refine W.eq (g2 := F0 m 122 ls []) rfl ?_
    refine lv_aload_n (pc := 122) hx hb dM_sum_122 rfl (lv_at hl 1 rfl) ?_
    refine lv_aload_n (pc := 123) hx hb dM_sum_123 rfl (lv_at hl 1 rfl) ?_
    refine mo_g_partY (pc := 124) hx hb hts hown hw w_369 dM_sum_124 ?_
    refine lv_aload_n (pc := 127) hx hb dM_sum_127 rfl (lv_at hl 1 rfl) ?_
    refine mo_g_powerY (pc := 128) hx hb hts hown hw w_367 dM_sum_128 ?_
    refine lv_iload_n (pc := 131) hx hb dM_sum_131 rfl (lv_at hl 0 rfl) ?_
    refine lv_isub (pc := 132) hx hb dM_sum_132 ?_
    refine mo_V (pc := 133) (rest := []) ⟨hx, hb, hml, hown, hts⟩ (c_M_lay l D cI cL m0 ra rb rc md fl er kx ky sx sy px py fx fy pr bi row oth rg fy (py - mBase pr bi) hY.1 hY.2) (cwM_lay hts w_473 ⟨by decide, by decide⟩) hw hS rfl hl.1 rfl (Nat.le_of_ble_eq_true rfl) dM_sum_133 ⟨Nat.zero_le _, Nat.zero_le _⟩ (fun H locs hw hS => ?_)
    rw [hYe] at hw
    refine W.eq (g2 := F0 m 136 ls []) rfl ?_
    refine lv_iconst (v := 0) (pc := 136) hx hb dM_sum_136 (by decide) ?_
    refine lv_istore_n (lv' := [(3, .int 0), (2, .int (mBase pr bi)), (0, .ref m0), (1, .int k1)]) (pc := 137) hx hb dM_sum_137 rfl hl (by decide) rfl (fun ls hl => ?_)
    exact loopO 2200 0 oth ls H locs (by omega) (lv_sub hl [2, 3, 1, 0] rfl) hw hS (fun j hj => by omega)
  refine lv_aload_n (pc := 0) hx hb dM_sum_0 rfl (lv_at hl 0 rfl) ?_
  refine mo_g_kindX (pc := 1) hx hb hts hown hw w_362 dM_sum_1 ?_
  refine lv_iconst (v := 1) (pc := 4) hx hb dM_sum_4 (by decide) ?_
  refine lv_icmp_ne (tgt := 40) (pc := 5) hx hb dM_sum_5 (by decide) (fun h1 => ?_) (fun h1 => ?_)
  · skip
    refine lv_aload_n (pc := 40) hx hb dM_sum_40 rfl (lv_at hl 0 rfl) ?_
    refine mo_g_kindY (pc := 41) hx hb hts hown hw w_363 dM_sum_41 ?_
    refine lv_iconst (v := 1) (pc := 44) hx hb dM_sum_44 (by decide) ?_
    refine lv_icmp_ne (tgt := 54) (pc := 45) hx hb dM_sum_45 (by decide) (fun h2 => ?_) (fun h2 => ?_)
    · skip
      refine lv_aload_n (pc := 54) hx hb dM_sum_54 rfl (lv_at hl 0 rfl) ?_
      refine mo_g_partX (pc := 55) hx hb hts hown hw w_368 dM_sum_55 ?_
      refine lv_lconst (v := 0) (pc := 58) hx hb dM_sum_58 (by decide) ?_
      refine W.lcmp (pc := 59) hx hb dM_sum_59 ?_
      refine lv_if_ne (tgt := 104) (pc := 60) hx hb dM_sum_60 (by decide) (fun h3 => ?_) (fun h3 => ?_)
      · skip
        have h3 : ¬ (fx = 0) := fun q => h3 ((lg_cmp_eq _ _).2 q)
        exact J104 ls (fun q => h3 q.1) (lv_sub hl [0, 1] rfl) hw hS (show C_M_sum_104 md fl sx px py fx fy pr bi k1 = C_M_sum md fl kx ky sx px py fx fy pr bi row oth k1 from by rw [C_M_sum, if_neg h1, if_neg h2, if_neg h3])
      · skip
        have h3 : fx = 0 := (lg_cmp_eq _ _).1 h3
        refine lv_aload_n (pc := 63) hx hb dM_sum_63 rfl (lv_at hl 0 rfl) ?_
        refine mo_g_partY (pc := 64) hx hb hts hown hw w_369 dM_sum_64 ?_
        refine lv_lconst (v := 0) (pc := 67) hx hb dM_sum_67 (by decide) ?_
        refine W.lcmp (pc := 68) hx hb dM_sum_68 ?_
        refine lv_if_ne (tgt := 104) (pc := 69) hx hb dM_sum_69 (by decide) (fun h4 => ?_) (fun h4 => ?_)
        · skip
          have h4 : ¬ (fy = 0) := fun q => h4 ((lg_cmp_eq _ _).2 q)
          exact J104 ls (fun q => h4 q.2) (lv_sub hl [0, 1] rfl) hw hS (show C_M_sum_104 md fl sx px py fx fy pr bi k1 = C_M_sum md fl kx ky sx px py fx fy pr bi row oth k1 from by rw [C_M_sum, if_neg h1, if_neg h2, if_pos h3, if_neg h4])
        · skip
          have h4 : fy = 0 := (lg_cmp_eq _ _).1 h4
          refine lv_aload_n (pc := 72) hx hb dM_sum_72 rfl (lv_at hl 0 rfl) ?_
          refine lv_aload_n (pc := 73) hx hb dM_sum_73 rfl (lv_at hl 0 rfl) ?_
          refine mo_g_signX (pc := 74) hx hb hts hown hw w_364 dM_sum_74 ?_
          refine lv_iload_n (pc := 77) hx hb dM_sum_77 rfl (lv_at hl 1 rfl) ?_
          refine lv_icmp_ne (tgt := 85) (pc := 78) hx hb dM_sum_78 (by decide) (fun h5 => ?_) (fun h5 => ?_)
          · skip
            refine lv_aload_n (pc := 85) hx hb dM_sum_85 rfl (lv_at hl 0 rfl) ?_
            refine mo_g_mode (pc := 86) hx hb hts hown hw w_359 dM_sum_86 ?_
            refine lv_iconst (v := 3) (pc := 89) hx hb dM_sum_89 (by decide) ?_
            refine lv_icmp_ne (tgt := 97) (pc := 90) hx hb dM_sum_90 (by decide) (fun h6 => ?_) (fun h6 => ?_)
            · skip
              refine lv_iconst (v := 0) (pc := 97) hx hb dM_sum_97 (by decide) ?_
              refine lv_lconst (v := 0) (pc := 98) hx hb dM_sum_98 (by decide) ?_
              refine lv_lconst (v := 0) (pc := 99) hx hb dM_sum_99 (by decide) ?_
              refine mo_V (pc := 100) (rest := []) ⟨hx, hb, hml, hown, hts⟩ (c_M_made l D cI cL m0 ra rb rc md fl er kx ky sx sy px py fx fy pr bi row oth rg 0 0 0) (cwM_made hts w_453 ⟨by decide, by decide⟩) hw hS rfl hl.1 rfl (Nat.le_of_ble_eq_true rfl) dM_sum_100 ⟨Nat.zero_le _, Nat.zero_le _⟩ (fun H locs hw hS => ?_)
              refine W.eq (g2 := F0 m 103 ls [.long (C_M_made pr 0 0 0)]) rfl ?_
              have he9 := (show (C_M_made pr 0 0 0, fl, row, oth) = C_M_sum md fl kx ky sx px py fx fy pr bi row oth k1 from by rw [C_M_sum, if_neg h1, if_neg h2, if_pos h3, if_pos h4, if_neg h5, if_neg h6])
              exact hret _ _ _ _ _ _ (congrArg Prod.fst he9) (by rw [← he9]) hw hS dM_sum_103
            · skip
              refine lv_iconst (v := 1) (pc := 93) hx hb dM_sum_93 (by decide) ?_
              refine lv_goto (tgt := 98) (pc := 94) hx hb dM_sum_94 (by decide) ?_
              refine lv_lconst (v := 0) (pc := 98) hx hb dM_sum_98 (by decide) ?_
              refine lv_lconst (v := 0) (pc := 99) hx hb dM_sum_99 (by decide) ?_
              refine mo_V (pc := 100) (rest := []) ⟨hx, hb, hml, hown, hts⟩ (c_M_made l D cI cL m0 ra rb rc md fl er kx ky sx sy px py fx fy pr bi row oth rg 1 0 0) (cwM_made hts w_453 ⟨by decide, by decide⟩) hw hS rfl hl.1 rfl (Nat.le_of_ble_eq_true rfl) dM_sum_100 ⟨Nat.zero_le _, Nat.zero_le _⟩ (fun H locs hw hS => ?_)
              refine W.eq (g2 := F0 m 103 ls [.long (C_M_made pr 1 0 0)]) rfl ?_
              have he9 := (show (C_M_made pr 1 0 0, fl, row, oth) = C_M_sum md fl kx ky sx px py fx fy pr bi row oth k1 from by rw [C_M_sum, if_neg h1, if_neg h2, if_pos h3, if_pos h4, if_neg h5, if_pos h6])
              exact hret _ _ _ _ _ _ (congrArg Prod.fst he9) (by rw [← he9]) hw hS dM_sum_103
          · skip
            refine lv_iload_n (pc := 81) hx hb dM_sum_81 rfl (lv_at hl 1 rfl) ?_
            refine lv_goto (tgt := 98) (pc := 82) hx hb dM_sum_82 (by decide) ?_
            refine lv_lconst (v := 0) (pc := 98) hx hb dM_sum_98 (by decide) ?_
            refine lv_lconst (v := 0) (pc := 99) hx hb dM_sum_99 (by decide) ?_
            refine mo_V (pc := 100) (rest := []) ⟨hx, hb, hml, hown, hts⟩ (c_M_made l D cI cL m0 ra rb rc md fl er kx ky sx sy px py fx fy pr bi row oth rg k1 0 0) (cwM_made hts w_453 ⟨by decide, by decide⟩) hw hS rfl hl.1 rfl (Nat.le_of_ble_eq_true rfl) dM_sum_100 ⟨Nat.zero_le _, Nat.zero_le _⟩ (fun H locs hw hS => ?_)
            refine W.eq (g2 := F0 m 103 ls [.long (C_M_made pr k1 0 0)]) rfl ?_
            have he9 := (show (C_M_made pr k1 0 0, fl, row, oth) = C_M_sum md fl kx ky sx px py fx fy pr bi row oth k1 from by rw [C_M_sum, if_neg h1, if_neg h2, if_pos h3, if_pos h4, if_pos h5])
            exact hret _ _ _ _ _ _ (congrArg Prod.fst he9) (by rw [← he9]) hw hS dM_sum_103
    · skip
      refine lv_aload_n (pc := 48) hx hb dM_sum_48 rfl (lv_at hl 0 rfl) ?_
      refine lv_iload_n (pc := 49) hx hb dM_sum_49 rfl (lv_at hl 1 rfl) ?_
      refine mo_V (pc := 50) (rest := []) ⟨hx, hb, hml, hown, hts⟩ (c_M_endless l D cI cL m0 ra rb rc md fl er kx ky sx sy px py fx fy pr bi row oth rg k1) (cwM_endless hts w_465 ⟨by decide, by decide⟩) hw hS rfl hl.1 rfl (Nat.le_of_ble_eq_true rfl) dM_sum_50 ⟨Nat.zero_le _, Nat.zero_le _⟩ (fun H locs hw hS => ?_)
      refine W.eq (g2 := F0 m 53 ls [.long (C_M_endless pr bi k1)]) rfl ?_
      have he9 := (show (C_M_endless pr bi k1, fl, row, oth) = C_M_sum md fl kx ky sx px py fx fy pr bi row oth k1 from by rw [C_M_sum, if_neg h1, if_pos h2])
      exact hret _ _ _ _ _ _ (congrArg Prod.fst he9) (by rw [← he9]) hw hS dM_sum_53
  · skip
    refine lv_aload_n (pc := 8) hx hb dM_sum_8 rfl (lv_at hl 0 rfl) ?_
    refine mo_g_kindY (pc := 9) hx hb hts hown hw w_363 dM_sum_9 ?_
    refine lv_iconst (v := 1) (pc := 12) hx hb dM_sum_12 (by decide) ?_
    refine lv_icmp_ne (tgt := 31) (pc := 13) hx hb dM_sum_13 (by decide) (fun h7 => ?_) (fun h7 => ?_)
    · skip
      refine lv_aload_n (pc := 31) hx hb dM_sum_31 rfl (lv_at hl 0 rfl) ?_
      refine lv_aload_n (pc := 32) hx hb dM_sum_32 rfl (lv_at hl 0 rfl) ?_
      refine mo_g_signX (pc := 33) hx hb hts hown hw w_364 dM_sum_33 ?_
      refine mo_V (pc := 36) (rest := []) ⟨hx, hb, hml, hown, hts⟩ (c_M_endless l D cI cL m0 ra rb rc md fl er kx ky sx sy px py fx fy pr bi row oth rg sx) (cwM_endless hts w_465 ⟨by decide, by decide⟩) hw hS rfl hl.1 rfl (Nat.le_of_ble_eq_true rfl) dM_sum_36 ⟨Nat.zero_le _, Nat.zero_le _⟩ (fun H locs hw hS => ?_)
      refine W.eq (g2 := F0 m 39 ls [.long (C_M_endless pr bi sx)]) rfl ?_
      have he9 := (show (C_M_endless pr bi sx, fl, row, oth) = C_M_sum md fl kx ky sx px py fx fy pr bi row oth k1 from by rw [C_M_sum, if_pos h1, if_neg h7])
      exact hret _ _ _ _ _ _ (congrArg Prod.fst he9) (by rw [← he9]) hw hS dM_sum_39
    · skip
      refine lv_aload_n (pc := 16) hx hb dM_sum_16 rfl (lv_at hl 0 rfl) ?_
      refine mo_g_signX (pc := 17) hx hb hts hown hw w_364 dM_sum_17 ?_
      refine lv_iload_n (pc := 20) hx hb dM_sum_20 rfl (lv_at hl 1 rfl) ?_
      refine lv_icmp_eq (tgt := 31) (pc := 21) hx hb dM_sum_21 (by decide) (fun h8 => ?_) (fun h8 => ?_)
      · skip
        refine lv_aload_n (pc := 31) hx hb dM_sum_31 rfl (lv_at hl 0 rfl) ?_
        refine lv_aload_n (pc := 32) hx hb dM_sum_32 rfl (lv_at hl 0 rfl) ?_
        refine mo_g_signX (pc := 33) hx hb hts hown hw w_364 dM_sum_33 ?_
        refine mo_V (pc := 36) (rest := []) ⟨hx, hb, hml, hown, hts⟩ (c_M_endless l D cI cL m0 ra rb rc md fl er kx ky sx sy px py fx fy pr bi row oth rg sx) (cwM_endless hts w_465 ⟨by decide, by decide⟩) hw hS rfl hl.1 rfl (Nat.le_of_ble_eq_true rfl) dM_sum_36 ⟨Nat.zero_le _, Nat.zero_le _⟩ (fun H locs hw hS => ?_)
        refine W.eq (g2 := F0 m 39 ls [.long (C_M_endless pr bi sx)]) rfl ?_
        have he9 := (show (C_M_endless pr bi sx, fl, row, oth) = C_M_sum md fl kx ky sx px py fx fy pr bi row oth k1 from by rw [C_M_sum, if_pos h1, if_pos h7, if_pos h8])
        exact hret _ _ _ _ _ _ (congrArg Prod.fst he9) (by rw [← he9]) hw hS dM_sum_39
      · skip
        refine lv_aload_n (pc := 24) hx hb dM_sum_24 rfl (lv_at hl 0 rfl) ?_
        refine mo_V (pc := 25) (rest := []) ⟨hx, hb, hml, hown, hts⟩ (c_M_invalid l D cI cL m0 ra rb rc md fl er kx ky sx sy px py fx fy pr bi row oth rg ) (cwM_invalid hts w_461 ⟨by decide, by decide⟩) hw hS rfl hl.1 rfl (Nat.le_of_ble_eq_true rfl) dM_sum_25 ⟨Nat.zero_le _, Nat.zero_le _⟩ (fun H locs hw hS => ?_)
        refine W.eq (g2 := F0 m 28 ls [.long ((C_M_invalid fl pr bi).1)]) rfl ?_
        refine lv_goto (tgt := 39) (pc := 28) hx hb dM_sum_28 (by decide) ?_
        have he9 := (show ((C_M_invalid fl pr bi).1, (C_M_invalid fl pr bi).2, row, oth) = C_M_sum md fl kx ky sx px py fx fy pr bi row oth k1 from by rw [C_M_sum, if_pos h1, if_pos h7, if_neg h8])
        exact hret _ _ _ _ _ _ (congrArg Prod.fst he9) (by rw [← he9]) hw hS dM_sum_39
