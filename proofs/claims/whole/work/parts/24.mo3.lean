/-! The reference: rounded (loops by hand, the rest by program). -/
def C_M_rounded_455 (fl9 : Int32) (pr : Int32) (bi : Int32) (u1 : Int32) (u7 : Int64) (u13 : Int32) (v14 : Bool) : Int64 × Int32 :=
  if v14 = false then
    (C_M_made pr u1 0 u7, fl9)
  else
    (C_M_made pr u1 ((((u13 + pr) - 1) + bi).toInt64) (u7 - (jShl 1 (pr - 1))), fl9)
def C_M_rounded_431 (fl9 : Int32) (pr : Int32) (bi : Int32) (u1 : Int32) (u7 : Int64) (v11 : Bool) (u13 : Int32) (v14 : Bool) : Int64 × Int32 :=
  if v11 = false then
    if v14 = false then
      C_M_rounded_455 (fl9 ||| 3) pr bi u1 u7 u13 v14
    else
      C_M_rounded_455 (fl9 ||| 1) pr bi u1 u7 u13 v14
  else
    C_M_rounded_455 fl9 pr bi u1 u7 u13 v14
def C_M_rounded_393 (fl9 : Int32) (pr : Int32) (bi : Int32) (u1 : Int32) (v15 : Bool) : Int64 × Int32 :=
  if v15 = false then
    (C_M_endless pr bi u1, fl9)
  else
    (C_M_made pr u1 ((2 * bi).toInt64) ((jShl 1 (pr - 1)) - 1), fl9)
def C_M_rounded_322 (md : Int32) (fl9 : Int32) (pr : Int32) (bi : Int32) (u1 : Int32) (u7 : Int64) (v11 : Bool) (u13 : Int32) (v14 : Bool) : Int64 × Int32 :=
  if v14 = false then
    C_M_rounded_431 fl9 pr bi u1 u7 v11 u13 v14
  else
    if ((u13 + pr) - 1) ≤ bi then
      C_M_rounded_431 fl9 pr bi u1 u7 v11 u13 v14
    else
      if md = 1 then
        C_M_rounded_393 (fl9 ||| 5) pr bi u1 true
      else
        if md = 2 then
          if u1 = 1 then
            C_M_rounded_393 (fl9 ||| 5) pr bi u1 true
          else
            if md = 3 then
              if u1 = 0 then
                C_M_rounded_393 (fl9 ||| 5) pr bi u1 true
              else
                C_M_rounded_393 (fl9 ||| 5) pr bi u1 false
            else
              C_M_rounded_393 (fl9 ||| 5) pr bi u1 false
        else
          if md = 3 then
            if u1 = 0 then
              C_M_rounded_393 (fl9 ||| 5) pr bi u1 true
            else
              C_M_rounded_393 (fl9 ||| 5) pr bi u1 false
          else
            C_M_rounded_393 (fl9 ||| 5) pr bi u1 false
def C_M_rounded_303 (md : Int32) (fl9 : Int32) (pr : Int32) (bi : Int32) (u1 : Int32) (u7 : Int64) (v11 : Bool) (u13 : Int32) : Int64 × Int32 :=
  if u7 < (jShl 1 (pr - 1)) then
    C_M_rounded_322 md fl9 pr bi u1 u7 v11 u13 false
  else
    C_M_rounded_322 md fl9 pr bi u1 u7 v11 u13 true
def C_M_rounded_276 (md : Int32) (fl9 : Int32) (pr : Int32) (bi : Int32) (u1 : Int32) (u2 : Int32) (u6 : Int32) (u7 : Int64) (v11 : Bool) : Int64 × Int32 :=
  if u7 = (jShl 1 pr) then
    C_M_rounded_303 md fl9 pr bi u1 (jShr u7 1) v11 ((u6 + u2) + 1)
  else
    C_M_rounded_303 md fl9 pr bi u1 u7 v11 (u6 + u2)
def C_M_rounded_265 (md : Int32) (fl9 : Int32) (pr : Int32) (bi : Int32) (u1 : Int32) (u2 : Int32) (u6 : Int32) (u7 : Int64) (v11 : Bool) (v12 : Bool) : Int64 × Int32 :=
  if v12 = false then
    C_M_rounded_276 md fl9 pr bi u1 u2 u6 u7 v11
  else
    C_M_rounded_276 md fl9 pr bi u1 u2 u6 (u7 + 1) v11
def C_M_rounded_240 (md : Int32) (fl9 : Int32) (pr : Int32) (bi : Int32) (u1 : Int32) (u2 : Int32) (u6 : Int32) (u7 : Int64) (v11 : Bool) (v12 : Bool) : Int64 × Int32 :=
  if md = 3 then
    if v11 = false then
      if u1 = 1 then
        C_M_rounded_265 md fl9 pr bi u1 u2 u6 u7 v11 true
      else
        C_M_rounded_265 md fl9 pr bi u1 u2 u6 u7 v11 false
    else
      C_M_rounded_265 md fl9 pr bi u1 u2 u6 u7 v11 false
  else
    C_M_rounded_265 md fl9 pr bi u1 u2 u6 u7 v11 v12
def C_M_rounded_216 (md : Int32) (fl9 : Int32) (pr : Int32) (bi : Int32) (u1 : Int32) (u2 : Int32) (u6 : Int32) (u7 : Int64) (v11 : Bool) (v12 : Bool) : Int64 × Int32 :=
  if md = 2 then
    if v11 = false then
      if u1 = 0 then
        C_M_rounded_240 md fl9 pr bi u1 u2 u6 u7 v11 true
      else
        C_M_rounded_240 md fl9 pr bi u1 u2 u6 u7 v11 false
    else
      C_M_rounded_240 md fl9 pr bi u1 u2 u6 u7 v11 false
  else
    C_M_rounded_240 md fl9 pr bi u1 u2 u6 u7 v11 v12
def C_M_rounded_177 (md : Int32) (fl9 : Int32) (pr : Int32) (bi : Int32) (u1 : Int32) (u2 : Int32) (u6 : Int32) (u7 : Int64) (u9 : Int32) (v10 : Bool) (v11 : Bool) : Int64 × Int32 :=
  if md = 0 then
    if u9 = 1 then
      if v10 = false then
        if (u7 &&& 1) = 1 then
          C_M_rounded_216 md fl9 pr bi u1 u2 u6 u7 v11 true
        else
          C_M_rounded_216 md fl9 pr bi u1 u2 u6 u7 v11 false
      else
        C_M_rounded_216 md fl9 pr bi u1 u2 u6 u7 v11 true
    else
      C_M_rounded_216 md fl9 pr bi u1 u2 u6 u7 v11 false
  else
    C_M_rounded_216 md fl9 pr bi u1 u2 u6 u7 v11 false
def C_M_rounded_162 (md : Int32) (fl9 : Int32) (pr : Int32) (bi : Int32) (u1 : Int32) (u2 : Int32) (u6 : Int32) (u7 : Int64) (u9 : Int32) (v10 : Bool) : Int64 × Int32 :=
  if u9 = 0 then
    if v10 = false then
      C_M_rounded_177 md fl9 pr bi u1 u2 u6 u7 u9 v10 true
    else
      C_M_rounded_177 md fl9 pr bi u1 u2 u6 u7 u9 v10 false
  else
    C_M_rounded_177 md fl9 pr bi u1 u2 u6 u7 u9 v10 false
def mLow (N : Nat) (pr bi k2 : Int32) : Int := max ((N.log2 : Int) - (pr.toInt - 1)) (1 - bi.toInt - (pr.toInt - 1) - k2.toInt)
def mHalf (N : Nat) (low : Int) : Nat := if 0 < low then N / 2 ^ (low - 1).toNat % 2 else 0
def mRest (N : Nat) (low : Int) (z : Bool) : Bool := z || decide (N % 2 ^ (low - 1).toNat ≠ 0)
def C_M_rounded (md fl pr bi k1 k2 : Int32) (z3 : Bool) (N : Nat) : Int64 × Int32 :=
  C_M_rounded_162 md fl pr bi k1 k2 (iI (mLow N pr bi k2)) (lN (zq N (mLow N pr bi k2))) (nI (mHalf N (mLow N pr bi k2))) (mRest N (mLow N pr bi k2) z3)
theorem zq_step (N : Nat) (k : Int) : zq N k = 2 * zq N (k + 1) + (if 0 ≤ k then N / 2 ^ k.toNat % 2 else 0) := by
  unfold zq
  by_cases h : 0 ≤ k
  · obtain ⟨n, rfl⟩ := Int.eq_ofNat_of_zero_le h
    rw [if_pos h, show (-(n : Int)).toNat = 0 by omega, show (-((n : Int) + 1)).toNat = 0 by omega, show ((n : Int) + 1).toNat = n + 1 by omega, show ((n : Int)).toNat = n by omega, Nat.pow_zero, Nat.mul_one, z_ds]
    omega
  · obtain ⟨j, rfl⟩ : ∃ j : Nat, k = -((j + 1 : Nat) : Int) := ⟨(-k - 1).toNat, by omega⟩
    rw [if_neg h, show (-(-((j + 1 : Nat) : Int))).toNat = j + 1 by omega, show (-(-((j + 1 : Nat) : Int) + 1)).toNat = j by omega, show (-((j + 1 : Nat) : Int) + 1).toNat = 0 by omega, show (-((j + 1 : Nat) : Int)).toNat = 0 by omega, Nat.pow_zero, Nat.div_one, Nat.div_one, Nat.pow_succ, Nat.add_zero, ← Nat.mul_assoc, Nat.mul_comm]
theorem zq_above {N : Nat} {k : Int} (h : (N.log2 : Int) < k) : zq N k = 0 := by
  unfold zq
  obtain ⟨n, rfl⟩ := Int.eq_ofNat_of_zero_le (show 0 ≤ k by omega)
  rw [show (-(n : Int)).toNat = 0 by omega, show ((n : Int)).toNat = n by omega, Nat.pow_zero, Nat.mul_one]
  refine Nat.div_eq_of_lt ?_
  by_cases h0 : N = 0
  · rw [h0]
    exact z_p n
  · exact (Nat.log2_lt h0).1 (by omega)
theorem q_step (q : Nat) (b : Nat) (hb : b < 2) : (2 : Int64) * lN q + (nI b).toInt64 = lN (2 * q + b) := by
  rw [show (2 : Int64) = lN 2 from rfl, lN_mul, nI_l (by omega), lN_add]
theorem iI_cl {k : Int} (h : 0 ≤ k) (h2 : k < 2200) : (iI k).toNatClampNeg = k.toNat := by
  show (iI k).toInt.toNat = k.toNat
  rw [iI_toInt ⟨by omega, by omega⟩]
theorem iI_in {k : Int} (h : 0 ≤ k) (h2 : k < 2200) : vp_in (iI k) 2200 := by
  rw [vp_in_iff, iI_toInt ⟨by omega, by omega⟩]
  omega
theorem z_b2 (N j : Nat) : N / 2 ^ j % 2 < 2 := Nat.mod_lt _ (by decide)
abbrev rmM_rounded : Room := { frames := 2, cells := 0, slots := 0, locals := 46 }
theorem cwM_rounded {R : Room} {s : State} {args : Array Value} {w0 : Cond} {own : String} {idx : Nat} (hts : ∀ w ∈ (w0 :: bigW), w.before args s = true) (hl : Cond.methodLink own idx yM_rounded ∈ bigW) (hR : rmM_rounded.frames + 1 ≤ R.frames ∧ 8 + (16 + 11) + rmM_rounded.locals ≤ R.locals) : CallW R s args own "FloatUnitModel" idx yM_rounded cM_rounded 16 (some .long) (wsM yM_rounded cM_rounded 16 (some .long)) rmM_rounded 0 0 3 :=
  cwV 3 hts (big_V hl w_479 sel_M_rounded w_2 w_480) rfl rfl rfl ⟨rfl, by decide, by decide, by decide +kernel⟩ hR
set_option maxRecDepth 100000 in
set_option maxHeartbeats 8000000 in
theorem c_M_rounded (l : Launch) (D : va_G) (cI cL : ClassId) (m0 ra rb rc : Nat) (md fl er kx ky sx sy px py : Int32) (fx fy : Int64) (pr bi : Int32) (row oth : Nat → Int32) (rg : Nat → Int64) (k1 : Int32) (k2 : Int32) (z3 : Bool) (N : Nat) (h0 : N ≠ 0) (h1 : N < 2 ^ 2200) (hpr : 1 ≤ pr.toInt ∧ pr.toInt ≤ 64) (hbi : 0 ≤ bi.toInt ∧ bi.toInt ≤ 1023) (hk : -5000 ≤ k2.toInt ∧ k2.toInt ≤ 5000) : MoM l D cI cL m0 ra rb rc yM_rounded (wsM yM_rounded cM_rounded 16 (some .long)) rmM_rounded [.int k1, .int k2, .int (bI z3)] ((md, fl, er, kx, ky, sx, sy, px, py), (fx, fy), (pr, bi), (bR N), oth, rg) (some (.long (C_M_rounded md fl pr bi k1 k2 z3 N).1)) ((md, (C_M_rounded md fl pr bi k1 k2 z3 N).2, er, kx, ky, sx, sy, px, py), (fx, fy), (pr, bi), (bR N), oth, rg) := by
  refine mo_ofL (cc := cM_rounded) (maxL := 16) (by decide) rfl (Nat.le_of_ble_eq_true rfl) ?_
  intro p e s m args below meth c Q hx hb hml hown hts H locs hS hw hret ls hl
  have hl : lv_has ls 16 [(0, .ref m0), (1, .int k1), (2, .int k2), (3, .int (bI z3))] := hl
  obtain ⟨P, hP, rfl⟩ := iI_of pr
  obtain ⟨B, hB, rfl⟩ := iI_of bi
  obtain ⟨E, hE, rfl⟩ := iI_of k2
  rw [iI_toInt hP] at hpr
  rw [iI_toInt hB] at hbi
  rw [iI_toInt hE] at hk
  have hlow : mLow N (iI P) (iI B) (iI E) = max ((N.log2 : Int) - (P - 1)) (1 - B - (P - 1) - E) := by
    unfold mLow
    rw [iI_toInt hP, iI_toInt hB, iI_toInt hE]
  have hlog := z_log_lt h1 h0
  obtain ⟨low, hlowe⟩ : ∃ low, low = max ((N.log2 : Int) - (P - 1)) (1 - B - (P - 1) - E) := ⟨_, rfl⟩
  have hb1 : -10000 ≤ low ∧ low ≤ 10000 := by omega
  have htop : C_M_rounded_162 md fl (iI P) (iI B) k1 (iI E) (iI low) (lN (zq N low)) (nI (mHalf N low)) (mRest N low z3) = C_M_rounded md fl (iI P) (iI B) k1 (iI E) z3 N := by
    rw [C_M_rounded, hlow, ← hlowe]
  have hl : lv_has ls 16 [(0, .ref m0), (1, .int k1), (2, .int (iI E)), (3, .int (bI z3))] := hl
  refine lv_aload_n (pc := 0) hx hb dM_rounded_0 rfl (lv_at hl 0 rfl) ?_
  refine mo_V (pc := 1) (rest := []) ⟨hx, hb, hml, hown, hts⟩ (c_M_highest l D cI cL m0 ra rb rc md fl er kx ky sx sy px py fx fy (iI P) (iI B) row oth rg N h0 h1) (cwM_highest hts w_481 ⟨by decide, by decide⟩) hw hS rfl hl.1 rfl (Nat.le_of_ble_eq_true rfl) dM_rounded_1 ⟨Nat.zero_le _, Nat.zero_le _⟩ (fun H locs hw hS => ?_)
  refine W.eq (g2 := F0 m 4 ls [.int (nI N.log2)]) rfl ?_
  have J455 : ∀ (fl9 : Int32) (u1 : Int32) (u7 : Int64) (u13 : Int32) (v14 : Bool) (ls : Array Slot) (H : Heap) (locs : List Loc), lv_has ls 16 [(0, .ref m0), (1, .int u1), (7, .long u7), (13, .int u13), (14, .int (bI v14))] → MOw D cI cL m0 ra rb rc ((md, fl9, er, kx, ky, sx, sy, px, py), (fx, fy), ((iI P), (iI B)), (bR N), oth, rg) s H → va_S (mA m0 ra rb rc) s.heap H locs → C_M_rounded_455 fl9 (iI P) (iI B) u1 u7 u13 v14 = C_M_rounded md fl (iI P) (iI B) k1 (iI E) z3 N → W p l e rmM_rounded s m args below meth c H locs 0 0 Q (F0 m 455 ls []) := by
    intro fl9 u1 u7 u13 v14 ls H locs hl hw hS he
    refine lv_iload (pc := 455) hx hb dM_rounded_455 (lv_at hl 4 rfl) ?_
    refine lv_if_eq (tgt := 494) (pc := 457) hx hb dM_rounded_457 (by decide) (fun h1001 => ?_) (fun h1001 => ?_)
    · skip
      have h1001 : v14 = false := (bI_0 _).1 h1001
      refine lv_aload_n (pc := 494) hx hb dM_rounded_494 rfl (lv_at hl 0 rfl) ?_
      refine lv_iload_n (pc := 495) hx hb dM_rounded_495 rfl (lv_at hl 1 rfl) ?_
      refine lv_lconst (v := 0) (pc := 496) hx hb dM_rounded_496 (by decide) ?_
      refine lv_lload (pc := 497) hx hb dM_rounded_497 (lv_at hl 2 rfl) ?_
      refine mo_V (pc := 499) (rest := []) ⟨hx, hb, hml, hown, hts⟩ (c_M_made l D cI cL m0 ra rb rc md fl9 er kx ky sx sy px py fx fy (iI P) (iI B) (bR N) oth rg u1 0 u7) (cwM_made hts w_453 ⟨by decide, by decide⟩) hw hS rfl hl.1 rfl (Nat.le_of_ble_eq_true rfl) dM_rounded_499 ⟨Nat.zero_le _, Nat.zero_le _⟩ (fun H locs hw hS => ?_)
      refine W.eq (g2 := F0 m 502 ls [.long (C_M_made (iI P) u1 0 u7)]) rfl ?_
      have he9 := (show (C_M_made (iI P) u1 0 u7, fl9) = C_M_rounded_455 fl9 (iI P) (iI B) u1 u7 u13 v14 from by rw [C_M_rounded_455, if_pos h1001]).trans he
      exact hret _ _ _ _ _ _ (congrArg Prod.fst he9) (by rw [← he9]) hw hS dM_rounded_502
    · skip
      have h1001 : ¬ (v14 = false) := fun q => h1001 ((bI_0 _).2 q)
      refine lv_aload_n (pc := 460) hx hb dM_rounded_460 rfl (lv_at hl 0 rfl) ?_
      refine lv_iload_n (pc := 461) hx hb dM_rounded_461 rfl (lv_at hl 1 rfl) ?_
      refine lv_iload (pc := 462) hx hb dM_rounded_462 (lv_at hl 3 rfl) ?_
      refine lv_aload_n (pc := 464) hx hb dM_rounded_464 rfl (lv_at hl 0 rfl) ?_
      refine mo_g_precision (pc := 465) hx hb hts hown hw w_370 dM_rounded_465 ?_
      refine lv_iadd (pc := 468) hx hb dM_rounded_468 ?_
      refine lv_iconst (v := 1) (pc := 469) hx hb dM_rounded_469 (by decide) ?_
      refine lv_isub (pc := 470) hx hb dM_rounded_470 ?_
      refine lv_aload_n (pc := 471) hx hb dM_rounded_471 rfl (lv_at hl 0 rfl) ?_
      refine mo_g_bias (pc := 472) hx hb hts hown hw w_371 dM_rounded_472 ?_
      refine lv_iadd (pc := 475) hx hb dM_rounded_475 ?_
      refine lv_i2l (v := (((u13 + (iI P)) - 1) + (iI B)).toInt64) (pc := 476) hx hb dM_rounded_476 rfl ?_
      refine lv_lload (pc := 477) hx hb dM_rounded_477 (lv_at hl 2 rfl) ?_
      refine lv_lconst (v := 1) (pc := 479) hx hb dM_rounded_479 (by decide) ?_
      refine lv_aload_n (pc := 480) hx hb dM_rounded_480 rfl (lv_at hl 0 rfl) ?_
      refine mo_g_precision (pc := 481) hx hb hts hown hw w_370 dM_rounded_481 ?_
      refine lv_iconst (v := 1) (pc := 484) hx hb dM_rounded_484 (by decide) ?_
      refine lv_isub (pc := 485) hx hb dM_rounded_485 ?_
      refine lv_lshl (v := jShl 1 ((iI P) - 1)) (pc := 486) hx hb dM_rounded_486 rfl ?_
      refine lv_lsub (pc := 487) hx hb dM_rounded_487 ?_
      refine mo_V (pc := 488) (rest := []) ⟨hx, hb, hml, hown, hts⟩ (c_M_made l D cI cL m0 ra rb rc md fl9 er kx ky sx sy px py fx fy (iI P) (iI B) (bR N) oth rg u1 ((((u13 + (iI P)) - 1) + (iI B)).toInt64) (u7 - (jShl 1 ((iI P) - 1)))) (cwM_made hts w_453 ⟨by decide, by decide⟩) hw hS rfl hl.1 rfl (Nat.le_of_ble_eq_true rfl) dM_rounded_488 ⟨Nat.zero_le _, Nat.zero_le _⟩ (fun H locs hw hS => ?_)
      refine W.eq (g2 := F0 m 491 ls [.long (C_M_made (iI P) u1 ((((u13 + (iI P)) - 1) + (iI B)).toInt64) (u7 - (jShl 1 ((iI P) - 1))))]) rfl ?_
      refine lv_goto (tgt := 502) (pc := 491) hx hb dM_rounded_491 (by decide) ?_
      have he9 := (show (C_M_made (iI P) u1 ((((u13 + (iI P)) - 1) + (iI B)).toInt64) (u7 - (jShl 1 ((iI P) - 1))), fl9) = C_M_rounded_455 fl9 (iI P) (iI B) u1 u7 u13 v14 from by rw [C_M_rounded_455, if_neg h1001]).trans he
      exact hret _ _ _ _ _ _ (congrArg Prod.fst he9) (by rw [← he9]) hw hS dM_rounded_502
  have J431 : ∀ (fl9 : Int32) (u1 : Int32) (u7 : Int64) (v11 : Bool) (u13 : Int32) (v14 : Bool) (ls : Array Slot) (H : Heap) (locs : List Loc), lv_has ls 16 [(0, .ref m0), (1, .int u1), (7, .long u7), (11, .int (bI v11)), (13, .int u13), (14, .int (bI v14))] → MOw D cI cL m0 ra rb rc ((md, fl9, er, kx, ky, sx, sy, px, py), (fx, fy), ((iI P), (iI B)), (bR N), oth, rg) s H → va_S (mA m0 ra rb rc) s.heap H locs → C_M_rounded_431 fl9 (iI P) (iI B) u1 u7 v11 u13 v14 = C_M_rounded md fl (iI P) (iI B) k1 (iI E) z3 N → W p l e rmM_rounded s m args below meth c H locs 0 0 Q (F0 m 431 ls []) := by
    intro fl9 u1 u7 v11 u13 v14 ls H locs hl hw hS he
    refine lv_iload (pc := 431) hx hb dM_rounded_431 (lv_at hl 3 rfl) ?_
    refine lv_if_ne (tgt := 455) (pc := 433) hx hb dM_rounded_433 (by decide) (fun h901 => ?_) (fun h901 => ?_)
    · skip
      have h901 : ¬ (v11 = false) := fun q => h901 ((bI_0 _).2 q)
      exact J455 fl9 u1 u7 u13 v14 ls _ _ (lv_sub hl [0, 1, 2, 4, 5] rfl) hw hS ((show C_M_rounded_455 fl9 (iI P) (iI B) u1 u7 u13 v14 = C_M_rounded_431 fl9 (iI P) (iI B) u1 u7 v11 u13 v14 from by rw [C_M_rounded_431, if_neg h901]).trans he)
    · skip
      have h901 : v11 = false := (bI_0 _).1 h901
      refine lv_aload_n (pc := 436) hx hb dM_rounded_436 rfl (lv_at hl 0 rfl) ?_
      refine lv_dup (pc := 437) hx hb dM_rounded_437 rfl ?_
      refine mo_g_flags (pc := 438) hx hb hts hown hw w_360 dM_rounded_438 ?_
      refine lv_iload (pc := 441) hx hb dM_rounded_441 (lv_at hl 5 rfl) ?_
      refine lv_if_eq (tgt := 450) (pc := 443) hx hb dM_rounded_443 (by decide) (fun h902 => ?_) (fun h902 => ?_)
      · skip
        have h902 : v14 = false := (bI_0 _).1 h902
        refine lv_iconst (v := 3) (pc := 450) hx hb dM_rounded_450 (by decide) ?_
        refine lv_ior (pc := 451) hx hb dM_rounded_451 ?_
        refine mo_p_flags (pc := 452) hx hb hts hown hw hS w_360 dM_rounded_452 (fun H locs hw hS => ?_)
        exact J455 (fl9 ||| 3) u1 u7 u13 v14 ls _ _ (lv_sub hl [0, 1, 2, 4, 5] rfl) hw hS ((show C_M_rounded_455 (fl9 ||| 3) (iI P) (iI B) u1 u7 u13 v14 = C_M_rounded_431 fl9 (iI P) (iI B) u1 u7 v11 u13 v14 from by rw [C_M_rounded_431, if_pos h901, if_pos h902]).trans he)
      · skip
        have h902 : ¬ (v14 = false) := fun q => h902 ((bI_0 _).2 q)
        refine lv_iconst (v := 1) (pc := 446) hx hb dM_rounded_446 (by decide) ?_
        refine lv_goto (tgt := 451) (pc := 447) hx hb dM_rounded_447 (by decide) ?_
        refine lv_ior (pc := 451) hx hb dM_rounded_451 ?_
        refine mo_p_flags (pc := 452) hx hb hts hown hw hS w_360 dM_rounded_452 (fun H locs hw hS => ?_)
        exact J455 (fl9 ||| 1) u1 u7 u13 v14 ls _ _ (lv_sub hl [0, 1, 2, 4, 5] rfl) hw hS ((show C_M_rounded_455 (fl9 ||| 1) (iI P) (iI B) u1 u7 u13 v14 = C_M_rounded_431 fl9 (iI P) (iI B) u1 u7 v11 u13 v14 from by rw [C_M_rounded_431, if_pos h901, if_neg h902]).trans he)
  have J393 : ∀ (fl9 : Int32) (u1 : Int32) (v15 : Bool) (ls : Array Slot) (H : Heap) (locs : List Loc), lv_has ls 16 [(0, .ref m0), (1, .int u1)] → MOw D cI cL m0 ra rb rc ((md, fl9, er, kx, ky, sx, sy, px, py), (fx, fy), ((iI P), (iI B)), (bR N), oth, rg) s H → va_S (mA m0 ra rb rc) s.heap H locs → C_M_rounded_393 fl9 (iI P) (iI B) u1 v15 = C_M_rounded md fl (iI P) (iI B) k1 (iI E) z3 N → W p l e rmM_rounded s m args below meth c H locs 0 0 Q (F0 m 393 ls [.int (bI v15)]) := by
    intro fl9 u1 v15 ls H locs hl hw hS he
    refine lv_istore (lv' := [(15, .int (bI v15)), (0, .ref m0), (1, .int u1)]) (pc := 393) hx hb dM_rounded_393 hl (by decide) rfl (fun ls hl => ?_)
    refine lv_iload (pc := 395) hx hb dM_rounded_395 (lv_at hl 0 rfl) ?_
    refine lv_if_eq (tgt := 425) (pc := 397) hx hb dM_rounded_397 (by decide) (fun h1101 => ?_) (fun h1101 => ?_)
    · skip
      have h1101 : v15 = false := (bI_0 _).1 h1101
      refine lv_aload_n (pc := 425) hx hb dM_rounded_425 rfl (lv_at hl 1 rfl) ?_
      refine lv_iload_n (pc := 426) hx hb dM_rounded_426 rfl (lv_at hl 2 rfl) ?_
      refine mo_V (pc := 427) (rest := []) ⟨hx, hb, hml, hown, hts⟩ (c_M_endless l D cI cL m0 ra rb rc md fl9 er kx ky sx sy px py fx fy (iI P) (iI B) (bR N) oth rg u1) (cwM_endless hts w_465 ⟨by decide, by decide⟩) hw hS rfl hl.1 rfl (Nat.le_of_ble_eq_true rfl) dM_rounded_427 ⟨Nat.zero_le _, Nat.zero_le _⟩ (fun H locs hw hS => ?_)
      refine W.eq (g2 := F0 m 430 ls [.long (C_M_endless (iI P) (iI B) u1)]) rfl ?_
      have he9 := (show (C_M_endless (iI P) (iI B) u1, fl9) = C_M_rounded_393 fl9 (iI P) (iI B) u1 v15 from by rw [C_M_rounded_393, if_pos h1101]).trans he
      exact hret _ _ _ _ _ _ (congrArg Prod.fst he9) (by rw [← he9]) hw hS dM_rounded_430
    · skip
      have h1101 : ¬ (v15 = false) := fun q => h1101 ((bI_0 _).2 q)
      refine lv_aload_n (pc := 400) hx hb dM_rounded_400 rfl (lv_at hl 1 rfl) ?_
      refine lv_iload_n (pc := 401) hx hb dM_rounded_401 rfl (lv_at hl 2 rfl) ?_
      refine lv_iconst (v := 2) (pc := 402) hx hb dM_rounded_402 (by decide) ?_
      refine lv_aload_n (pc := 403) hx hb dM_rounded_403 rfl (lv_at hl 1 rfl) ?_
      refine mo_g_bias (pc := 404) hx hb hts hown hw w_371 dM_rounded_404 ?_
      refine lv_imul (pc := 407) hx hb dM_rounded_407 ?_
      refine lv_i2l (v := (2 * (iI B)).toInt64) (pc := 408) hx hb dM_rounded_408 rfl ?_
      refine lv_lconst (v := 1) (pc := 409) hx hb dM_rounded_409 (by decide) ?_
      refine lv_aload_n (pc := 410) hx hb dM_rounded_410 rfl (lv_at hl 1 rfl) ?_
      refine mo_g_precision (pc := 411) hx hb hts hown hw w_370 dM_rounded_411 ?_
      refine lv_iconst (v := 1) (pc := 414) hx hb dM_rounded_414 (by decide) ?_
      refine lv_isub (pc := 415) hx hb dM_rounded_415 ?_
      refine lv_lshl (v := jShl 1 ((iI P) - 1)) (pc := 416) hx hb dM_rounded_416 rfl ?_
      refine lv_lconst (v := 1) (pc := 417) hx hb dM_rounded_417 (by decide) ?_
      refine lv_lsub (pc := 418) hx hb dM_rounded_418 ?_
      refine mo_V (pc := 419) (rest := []) ⟨hx, hb, hml, hown, hts⟩ (c_M_made l D cI cL m0 ra rb rc md fl9 er kx ky sx sy px py fx fy (iI P) (iI B) (bR N) oth rg u1 ((2 * (iI B)).toInt64) ((jShl 1 ((iI P) - 1)) - 1)) (cwM_made hts w_453 ⟨by decide, by decide⟩) hw hS rfl hl.1 rfl (Nat.le_of_ble_eq_true rfl) dM_rounded_419 ⟨Nat.zero_le _, Nat.zero_le _⟩ (fun H locs hw hS => ?_)
      refine W.eq (g2 := F0 m 422 ls [.long (C_M_made (iI P) u1 ((2 * (iI B)).toInt64) ((jShl 1 ((iI P) - 1)) - 1))]) rfl ?_
      refine lv_goto (tgt := 430) (pc := 422) hx hb dM_rounded_422 (by decide) ?_
      have he9 := (show (C_M_made (iI P) u1 ((2 * (iI B)).toInt64) ((jShl 1 ((iI P) - 1)) - 1), fl9) = C_M_rounded_393 fl9 (iI P) (iI B) u1 v15 from by rw [C_M_rounded_393, if_neg h1101]).trans he
      exact hret _ _ _ _ _ _ (congrArg Prod.fst he9) (by rw [← he9]) hw hS dM_rounded_430
  have J322 : ∀ (fl9 : Int32) (u1 : Int32) (u7 : Int64) (v11 : Bool) (u13 : Int32) (v14 : Bool) (ls : Array Slot) (H : Heap) (locs : List Loc), lv_has ls 16 [(0, .ref m0), (1, .int u1), (7, .long u7), (11, .int (bI v11)), (13, .int u13)] → MOw D cI cL m0 ra rb rc ((md, fl9, er, kx, ky, sx, sy, px, py), (fx, fy), ((iI P), (iI B)), (bR N), oth, rg) s H → va_S (mA m0 ra rb rc) s.heap H locs → C_M_rounded_322 md fl9 (iI P) (iI B) u1 u7 v11 u13 v14 = C_M_rounded md fl (iI P) (iI B) k1 (iI E) z3 N → W p l e rmM_rounded s m args below meth c H locs 0 0 Q (F0 m 322 ls [.int (bI v14)]) := by
    intro fl9 u1 u7 v11 u13 v14 ls H locs hl hw hS he
    refine lv_istore (lv' := [(14, .int (bI v14)), (0, .ref m0), (1, .int u1), (7, .long u7), (11, .int (bI v11)), (13, .int u13)]) (pc := 322) hx hb dM_rounded_322 hl (by decide) rfl (fun ls hl => ?_)
    refine lv_iload (pc := 324) hx hb dM_rounded_324 (lv_at hl 0 rfl) ?_
    refine lv_if_eq (tgt := 431) (pc := 326) hx hb dM_rounded_326 (by decide) (fun h801 => ?_) (fun h801 => ?_)
    · skip
      have h801 : v14 = false := (bI_0 _).1 h801
      exact J431 fl9 u1 u7 v11 u13 v14 ls _ _ (lv_sub hl [1, 2, 3, 4, 5, 0] rfl) hw hS ((show C_M_rounded_431 fl9 (iI P) (iI B) u1 u7 v11 u13 v14 = C_M_rounded_322 md fl9 (iI P) (iI B) u1 u7 v11 u13 v14 from by rw [C_M_rounded_322, if_pos h801]).trans he)
    · skip
      have h801 : ¬ (v14 = false) := fun q => h801 ((bI_0 _).2 q)
      refine lv_iload (pc := 329) hx hb dM_rounded_329 (lv_at hl 5 rfl) ?_
      refine lv_aload_n (pc := 331) hx hb dM_rounded_331 rfl (lv_at hl 1 rfl) ?_
      refine mo_g_precision (pc := 332) hx hb hts hown hw w_370 dM_rounded_332 ?_
      refine lv_iadd (pc := 335) hx hb dM_rounded_335 ?_
      refine lv_iconst (v := 1) (pc := 336) hx hb dM_rounded_336 (by decide) ?_
      refine lv_isub (pc := 337) hx hb dM_rounded_337 ?_
      refine lv_aload_n (pc := 338) hx hb dM_rounded_338 rfl (lv_at hl 1 rfl) ?_
      refine mo_g_bias (pc := 339) hx hb hts hown hw w_371 dM_rounded_339 ?_
      refine lv_icmp_le (tgt := 431) (pc := 342) hx hb dM_rounded_342 (by decide) (fun h802 => ?_) (fun h802 => ?_)
      · skip
        exact J431 fl9 u1 u7 v11 u13 v14 ls _ _ (lv_sub hl [1, 2, 3, 4, 5, 0] rfl) hw hS ((show C_M_rounded_431 fl9 (iI P) (iI B) u1 u7 v11 u13 v14 = C_M_rounded_322 md fl9 (iI P) (iI B) u1 u7 v11 u13 v14 from by rw [C_M_rounded_322, if_neg h801, if_pos h802]).trans he)
      · skip
        refine lv_aload_n (pc := 345) hx hb dM_rounded_345 rfl (lv_at hl 1 rfl) ?_
        refine lv_dup (pc := 346) hx hb dM_rounded_346 rfl ?_
        refine mo_g_flags (pc := 347) hx hb hts hown hw w_360 dM_rounded_347 ?_
        refine lv_iconst (v := 5) (pc := 350) hx hb dM_rounded_350 (by decide) ?_
        refine lv_ior (pc := 351) hx hb dM_rounded_351 ?_
        refine mo_p_flags (pc := 352) hx hb hts hown hw hS w_360 dM_rounded_352 (fun H locs hw hS => ?_)
        refine lv_aload_n (pc := 355) hx hb dM_rounded_355 rfl (lv_at hl 1 rfl) ?_
        refine mo_g_mode (pc := 356) hx hb hts hown hw w_359 dM_rounded_356 ?_
        refine lv_iconst (v := 1) (pc := 359) hx hb dM_rounded_359 (by decide) ?_
        refine lv_icmp_eq (tgt := 388) (pc := 360) hx hb dM_rounded_360 (by decide) (fun h803 => ?_) (fun h803 => ?_)
        · skip
          refine lv_iconst (v := 1) (pc := 388) hx hb dM_rounded_388 (by decide) ?_
          refine lv_goto (tgt := 393) (pc := 389) hx hb dM_rounded_389 (by decide) ?_
          exact J393 (fl9 ||| 5) u1 true ls _ _ (lv_sub hl [1, 2] rfl) hw hS ((show C_M_rounded_393 (fl9 ||| 5) (iI P) (iI B) u1 true = C_M_rounded_322 md fl9 (iI P) (iI B) u1 u7 v11 u13 v14 from by rw [C_M_rounded_322, if_neg h801, if_neg h802, if_pos h803]).trans he)
        · skip
          refine lv_aload_n (pc := 363) hx hb dM_rounded_363 rfl (lv_at hl 1 rfl) ?_
          refine mo_g_mode (pc := 364) hx hb hts hown hw w_359 dM_rounded_364 ?_
          refine lv_iconst (v := 2) (pc := 367) hx hb dM_rounded_367 (by decide) ?_
          refine lv_icmp_ne (tgt := 376) (pc := 368) hx hb dM_rounded_368 (by decide) (fun h804 => ?_) (fun h804 => ?_)
          · skip
            refine lv_aload_n (pc := 376) hx hb dM_rounded_376 rfl (lv_at hl 1 rfl) ?_
            refine mo_g_mode (pc := 377) hx hb hts hown hw w_359 dM_rounded_377 ?_
            refine lv_iconst (v := 3) (pc := 380) hx hb dM_rounded_380 (by decide) ?_
            refine lv_icmp_ne (tgt := 392) (pc := 381) hx hb dM_rounded_381 (by decide) (fun h805 => ?_) (fun h805 => ?_)
            · skip
              refine lv_iconst (v := 0) (pc := 392) hx hb dM_rounded_392 (by decide) ?_
              exact J393 (fl9 ||| 5) u1 false ls _ _ (lv_sub hl [1, 2] rfl) hw hS ((show C_M_rounded_393 (fl9 ||| 5) (iI P) (iI B) u1 false = C_M_rounded_322 md fl9 (iI P) (iI B) u1 u7 v11 u13 v14 from by rw [C_M_rounded_322, if_neg h801, if_neg h802, if_neg h803, if_neg h804, if_neg h805]).trans he)
            · skip
              refine lv_iload_n (pc := 384) hx hb dM_rounded_384 rfl (lv_at hl 2 rfl) ?_
              refine lv_if_ne (tgt := 392) (pc := 385) hx hb dM_rounded_385 (by decide) (fun h806 => ?_) (fun h806 => ?_)
              · skip
                refine lv_iconst (v := 0) (pc := 392) hx hb dM_rounded_392 (by decide) ?_
                exact J393 (fl9 ||| 5) u1 false ls _ _ (lv_sub hl [1, 2] rfl) hw hS ((show C_M_rounded_393 (fl9 ||| 5) (iI P) (iI B) u1 false = C_M_rounded_322 md fl9 (iI P) (iI B) u1 u7 v11 u13 v14 from by rw [C_M_rounded_322, if_neg h801, if_neg h802, if_neg h803, if_neg h804, if_pos h805, if_neg h806]).trans he)
              · skip
                refine lv_iconst (v := 1) (pc := 388) hx hb dM_rounded_388 (by decide) ?_
                refine lv_goto (tgt := 393) (pc := 389) hx hb dM_rounded_389 (by decide) ?_
                exact J393 (fl9 ||| 5) u1 true ls _ _ (lv_sub hl [1, 2] rfl) hw hS ((show C_M_rounded_393 (fl9 ||| 5) (iI P) (iI B) u1 true = C_M_rounded_322 md fl9 (iI P) (iI B) u1 u7 v11 u13 v14 from by rw [C_M_rounded_322, if_neg h801, if_neg h802, if_neg h803, if_neg h804, if_pos h805, if_pos h806]).trans he)
          · skip
            refine lv_iload_n (pc := 371) hx hb dM_rounded_371 rfl (lv_at hl 2 rfl) ?_
            refine lv_iconst (v := 1) (pc := 372) hx hb dM_rounded_372 (by decide) ?_
            refine lv_icmp_eq (tgt := 388) (pc := 373) hx hb dM_rounded_373 (by decide) (fun h807 => ?_) (fun h807 => ?_)
            · skip
              refine lv_iconst (v := 1) (pc := 388) hx hb dM_rounded_388 (by decide) ?_
              refine lv_goto (tgt := 393) (pc := 389) hx hb dM_rounded_389 (by decide) ?_
              exact J393 (fl9 ||| 5) u1 true ls _ _ (lv_sub hl [1, 2] rfl) hw hS ((show C_M_rounded_393 (fl9 ||| 5) (iI P) (iI B) u1 true = C_M_rounded_322 md fl9 (iI P) (iI B) u1 u7 v11 u13 v14 from by rw [C_M_rounded_322, if_neg h801, if_neg h802, if_neg h803, if_pos h804, if_pos h807]).trans he)
            · skip
              refine lv_aload_n (pc := 376) hx hb dM_rounded_376 rfl (lv_at hl 1 rfl) ?_
              refine mo_g_mode (pc := 377) hx hb hts hown hw w_359 dM_rounded_377 ?_
              refine lv_iconst (v := 3) (pc := 380) hx hb dM_rounded_380 (by decide) ?_
              refine lv_icmp_ne (tgt := 392) (pc := 381) hx hb dM_rounded_381 (by decide) (fun h808 => ?_) (fun h808 => ?_)
              · skip
                refine lv_iconst (v := 0) (pc := 392) hx hb dM_rounded_392 (by decide) ?_
                exact J393 (fl9 ||| 5) u1 false ls _ _ (lv_sub hl [1, 2] rfl) hw hS ((show C_M_rounded_393 (fl9 ||| 5) (iI P) (iI B) u1 false = C_M_rounded_322 md fl9 (iI P) (iI B) u1 u7 v11 u13 v14 from by rw [C_M_rounded_322, if_neg h801, if_neg h802, if_neg h803, if_pos h804, if_neg h807, if_neg h808]).trans he)
              · skip
                refine lv_iload_n (pc := 384) hx hb dM_rounded_384 rfl (lv_at hl 2 rfl) ?_
                refine lv_if_ne (tgt := 392) (pc := 385) hx hb dM_rounded_385 (by decide) (fun h809 => ?_) (fun h809 => ?_)
                · skip
                  refine lv_iconst (v := 0) (pc := 392) hx hb dM_rounded_392 (by decide) ?_
                  exact J393 (fl9 ||| 5) u1 false ls _ _ (lv_sub hl [1, 2] rfl) hw hS ((show C_M_rounded_393 (fl9 ||| 5) (iI P) (iI B) u1 false = C_M_rounded_322 md fl9 (iI P) (iI B) u1 u7 v11 u13 v14 from by rw [C_M_rounded_322, if_neg h801, if_neg h802, if_neg h803, if_pos h804, if_neg h807, if_pos h808, if_neg h809]).trans he)
                · skip
                  refine lv_iconst (v := 1) (pc := 388) hx hb dM_rounded_388 (by decide) ?_
                  refine lv_goto (tgt := 393) (pc := 389) hx hb dM_rounded_389 (by decide) ?_
                  exact J393 (fl9 ||| 5) u1 true ls _ _ (lv_sub hl [1, 2] rfl) hw hS ((show C_M_rounded_393 (fl9 ||| 5) (iI P) (iI B) u1 true = C_M_rounded_322 md fl9 (iI P) (iI B) u1 u7 v11 u13 v14 from by rw [C_M_rounded_322, if_neg h801, if_neg h802, if_neg h803, if_pos h804, if_neg h807, if_pos h808, if_pos h809]).trans he)
  have J303 : ∀ (fl9 : Int32) (u1 : Int32) (u7 : Int64) (v11 : Bool) (u13 : Int32) (ls : Array Slot) (H : Heap) (locs : List Loc), lv_has ls 16 [(0, .ref m0), (1, .int u1), (7, .long u7), (11, .int (bI v11)), (13, .int u13)] → MOw D cI cL m0 ra rb rc ((md, fl9, er, kx, ky, sx, sy, px, py), (fx, fy), ((iI P), (iI B)), (bR N), oth, rg) s H → va_S (mA m0 ra rb rc) s.heap H locs → C_M_rounded_303 md fl9 (iI P) (iI B) u1 u7 v11 u13 = C_M_rounded md fl (iI P) (iI B) k1 (iI E) z3 N → W p l e rmM_rounded s m args below meth c H locs 0 0 Q (F0 m 303 ls []) := by
    intro fl9 u1 u7 v11 u13 ls H locs hl hw hS he
    refine lv_lload (pc := 303) hx hb dM_rounded_303 (lv_at hl 2 rfl) ?_
    refine lv_lconst (v := 1) (pc := 305) hx hb dM_rounded_305 (by decide) ?_
    refine lv_aload_n (pc := 306) hx hb dM_rounded_306 rfl (lv_at hl 0 rfl) ?_
    refine mo_g_precision (pc := 307) hx hb hts hown hw w_370 dM_rounded_307 ?_
    refine lv_iconst (v := 1) (pc := 310) hx hb dM_rounded_310 (by decide) ?_
    refine lv_isub (pc := 311) hx hb dM_rounded_311 ?_
    refine lv_lshl (v := jShl 1 ((iI P) - 1)) (pc := 312) hx hb dM_rounded_312 rfl ?_
    refine W.lcmp (pc := 313) hx hb dM_rounded_313 ?_
    refine lv_if_lt (tgt := 321) (pc := 314) hx hb dM_rounded_314 (by decide) (fun h701 => ?_) (fun h701 => ?_)
    · skip
      have h701 : u7 < (jShl 1 ((iI P) - 1)) := (lg_cmp_lt _ _).1 h701
      refine lv_iconst (v := 0) (pc := 321) hx hb dM_rounded_321 (by decide) ?_
      exact J322 fl9 u1 u7 v11 u13 false ls _ _ (lv_sub hl [0, 1, 2, 3, 4] rfl) hw hS ((show C_M_rounded_322 md fl9 (iI P) (iI B) u1 u7 v11 u13 false = C_M_rounded_303 md fl9 (iI P) (iI B) u1 u7 v11 u13 from by rw [C_M_rounded_303, if_pos h701]).trans he)
    · skip
      have h701 : ¬ (u7 < (jShl 1 ((iI P) - 1))) := fun q => h701 ((lg_cmp_lt _ _).2 q)
      refine lv_iconst (v := 1) (pc := 317) hx hb dM_rounded_317 (by decide) ?_
      refine lv_goto (tgt := 322) (pc := 318) hx hb dM_rounded_318 (by decide) ?_
      exact J322 fl9 u1 u7 v11 u13 true ls _ _ (lv_sub hl [0, 1, 2, 3, 4] rfl) hw hS ((show C_M_rounded_322 md fl9 (iI P) (iI B) u1 u7 v11 u13 true = C_M_rounded_303 md fl9 (iI P) (iI B) u1 u7 v11 u13 from by rw [C_M_rounded_303, if_neg h701]).trans he)
  have J276 : ∀ (fl9 : Int32) (u1 : Int32) (u2 : Int32) (u6 : Int32) (u7 : Int64) (v11 : Bool) (ls : Array Slot) (H : Heap) (locs : List Loc), lv_has ls 16 [(0, .ref m0), (1, .int u1), (2, .int u2), (6, .int u6), (7, .long u7), (11, .int (bI v11))] → MOw D cI cL m0 ra rb rc ((md, fl9, er, kx, ky, sx, sy, px, py), (fx, fy), ((iI P), (iI B)), (bR N), oth, rg) s H → va_S (mA m0 ra rb rc) s.heap H locs → C_M_rounded_276 md fl9 (iI P) (iI B) u1 u2 u6 u7 v11 = C_M_rounded md fl (iI P) (iI B) k1 (iI E) z3 N → W p l e rmM_rounded s m args below meth c H locs 0 0 Q (F0 m 276 ls []) := by
    intro fl9 u1 u2 u6 u7 v11 ls H locs hl hw hS he
    refine lv_iload (pc := 276) hx hb dM_rounded_276 (lv_at hl 3 rfl) ?_
    refine lv_iload_n (pc := 278) hx hb dM_rounded_278 rfl (lv_at hl 2 rfl) ?_
    refine lv_iadd (pc := 279) hx hb dM_rounded_279 ?_
    refine lv_istore (lv' := [(13, .int (u6 + u2)), (0, .ref m0), (1, .int u1), (2, .int u2), (6, .int u6), (7, .long u7), (11, .int (bI v11))]) (pc := 280) hx hb dM_rounded_280 hl (by decide) rfl (fun ls hl => ?_)
    refine lv_lload (pc := 282) hx hb dM_rounded_282 (lv_at hl 5 rfl) ?_
    refine lv_lconst (v := 1) (pc := 284) hx hb dM_rounded_284 (by decide) ?_
    refine lv_aload_n (pc := 285) hx hb dM_rounded_285 rfl (lv_at hl 1 rfl) ?_
    refine mo_g_precision (pc := 286) hx hb hts hown hw w_370 dM_rounded_286 ?_
    refine lv_lshl (v := jShl 1 (iI P)) (pc := 289) hx hb dM_rounded_289 rfl ?_
    refine W.lcmp (pc := 290) hx hb dM_rounded_290 ?_
    refine lv_if_ne (tgt := 303) (pc := 291) hx hb dM_rounded_291 (by decide) (fun h601 => ?_) (fun h601 => ?_)
    · skip
      have h601 : ¬ (u7 = (jShl 1 (iI P))) := fun q => h601 ((lg_cmp_eq _ _).2 q)
      exact J303 fl9 u1 u7 v11 (u6 + u2) ls _ _ (lv_sub hl [1, 2, 5, 6, 0] rfl) hw hS ((show C_M_rounded_303 md fl9 (iI P) (iI B) u1 u7 v11 (u6 + u2) = C_M_rounded_276 md fl9 (iI P) (iI B) u1 u2 u6 u7 v11 from by rw [C_M_rounded_276, if_neg h601]).trans he)
    · skip
      have h601 : u7 = (jShl 1 (iI P)) := (lg_cmp_eq _ _).1 h601
      refine lv_lload (pc := 294) hx hb dM_rounded_294 (lv_at hl 5 rfl) ?_
      refine lv_iconst (v := 1) (pc := 296) hx hb dM_rounded_296 (by decide) ?_
      refine lv_lshr (v := jShr u7 1) (pc := 297) hx hb dM_rounded_297 rfl ?_
      refine lv_lstore (lv' := [(7, .long (jShr u7 1)), (13, .int (u6 + u2)), (0, .ref m0), (1, .int u1), (2, .int u2), (6, .int u6), (11, .int (bI v11))]) (pc := 298) hx hb dM_rounded_298 hl (by decide) rfl (fun ls hl => ?_)
      refine lv_iinc (k := 1) (v := (u6 + u2) + 1) (lv' := [(13, .int ((u6 + u2) + 1)), (7, .long (jShr u7 1)), (0, .ref m0), (1, .int u1), (2, .int u2), (6, .int u6), (11, .int (bI v11))]) (pc := 300) hx hb dM_rounded_300 hl rfl (by rfl) (by decide) rfl (fun ls hl => ?_)
      exact J303 fl9 u1 (jShr u7 1) v11 ((u6 + u2) + 1) ls _ _ (lv_sub hl [2, 3, 1, 6, 0] rfl) hw hS ((show C_M_rounded_303 md fl9 (iI P) (iI B) u1 (jShr u7 1) v11 ((u6 + u2) + 1) = C_M_rounded_276 md fl9 (iI P) (iI B) u1 u2 u6 u7 v11 from by rw [C_M_rounded_276, if_pos h601]).trans he)
  have J265 : ∀ (fl9 : Int32) (u1 : Int32) (u2 : Int32) (u6 : Int32) (u7 : Int64) (v11 : Bool) (v12 : Bool) (ls : Array Slot) (H : Heap) (locs : List Loc), lv_has ls 16 [(0, .ref m0), (1, .int u1), (2, .int u2), (6, .int u6), (7, .long u7), (11, .int (bI v11)), (12, .int (bI v12))] → MOw D cI cL m0 ra rb rc ((md, fl9, er, kx, ky, sx, sy, px, py), (fx, fy), ((iI P), (iI B)), (bR N), oth, rg) s H → va_S (mA m0 ra rb rc) s.heap H locs → C_M_rounded_265 md fl9 (iI P) (iI B) u1 u2 u6 u7 v11 v12 = C_M_rounded md fl (iI P) (iI B) k1 (iI E) z3 N → W p l e rmM_rounded s m args below meth c H locs 0 0 Q (F0 m 265 ls []) := by
    intro fl9 u1 u2 u6 u7 v11 v12 ls H locs hl hw hS he
    refine lv_iload (pc := 265) hx hb dM_rounded_265 (lv_at hl 6 rfl) ?_
    refine lv_if_eq (tgt := 276) (pc := 267) hx hb dM_rounded_267 (by decide) (fun h501 => ?_) (fun h501 => ?_)
    · skip
      have h501 : v12 = false := (bI_0 _).1 h501
      exact J276 fl9 u1 u2 u6 u7 v11 ls _ _ (lv_sub hl [0, 1, 2, 3, 4, 5] rfl) hw hS ((show C_M_rounded_276 md fl9 (iI P) (iI B) u1 u2 u6 u7 v11 = C_M_rounded_265 md fl9 (iI P) (iI B) u1 u2 u6 u7 v11 v12 from by rw [C_M_rounded_265, if_pos h501]).trans he)
    · skip
      have h501 : ¬ (v12 = false) := fun q => h501 ((bI_0 _).2 q)
      refine lv_lload (pc := 270) hx hb dM_rounded_270 (lv_at hl 4 rfl) ?_
      refine lv_lconst (v := 1) (pc := 272) hx hb dM_rounded_272 (by decide) ?_
      refine lv_ladd (pc := 273) hx hb dM_rounded_273 ?_
      refine lv_lstore (lv' := [(7, .long (u7 + 1)), (0, .ref m0), (1, .int u1), (2, .int u2), (6, .int u6), (11, .int (bI v11)), (12, .int (bI v12))]) (pc := 274) hx hb dM_rounded_274 hl (by decide) rfl (fun ls hl => ?_)
      exact J276 fl9 u1 u2 u6 (u7 + 1) v11 ls _ _ (lv_sub hl [1, 2, 3, 4, 0, 5] rfl) hw hS ((show C_M_rounded_276 md fl9 (iI P) (iI B) u1 u2 u6 (u7 + 1) v11 = C_M_rounded_265 md fl9 (iI P) (iI B) u1 u2 u6 u7 v11 v12 from by rw [C_M_rounded_265, if_neg h501]).trans he)
  have J240 : ∀ (fl9 : Int32) (u1 : Int32) (u2 : Int32) (u6 : Int32) (u7 : Int64) (v11 : Bool) (v12 : Bool) (ls : Array Slot) (H : Heap) (locs : List Loc), lv_has ls 16 [(0, .ref m0), (1, .int u1), (2, .int u2), (6, .int u6), (7, .long u7), (11, .int (bI v11)), (12, .int (bI v12))] → MOw D cI cL m0 ra rb rc ((md, fl9, er, kx, ky, sx, sy, px, py), (fx, fy), ((iI P), (iI B)), (bR N), oth, rg) s H → va_S (mA m0 ra rb rc) s.heap H locs → C_M_rounded_240 md fl9 (iI P) (iI B) u1 u2 u6 u7 v11 v12 = C_M_rounded md fl (iI P) (iI B) k1 (iI E) z3 N → W p l e rmM_rounded s m args below meth c H locs 0 0 Q (F0 m 240 ls []) := by
    intro fl9 u1 u2 u6 u7 v11 v12 ls H locs hl hw hS he
    refine lv_aload_n (pc := 240) hx hb dM_rounded_240 rfl (lv_at hl 0 rfl) ?_
    refine mo_g_mode (pc := 241) hx hb hts hown hw w_359 dM_rounded_241 ?_
    refine lv_iconst (v := 3) (pc := 244) hx hb dM_rounded_244 (by decide) ?_
    refine lv_icmp_ne (tgt := 265) (pc := 245) hx hb dM_rounded_245 (by decide) (fun h401 => ?_) (fun h401 => ?_)
    · skip
      exact J265 fl9 u1 u2 u6 u7 v11 v12 ls _ _ (lv_sub hl [0, 1, 2, 3, 4, 5, 6] rfl) hw hS ((show C_M_rounded_265 md fl9 (iI P) (iI B) u1 u2 u6 u7 v11 v12 = C_M_rounded_240 md fl9 (iI P) (iI B) u1 u2 u6 u7 v11 v12 from by rw [C_M_rounded_240, if_neg h401]).trans he)
    · skip
      refine lv_iload (pc := 248) hx hb dM_rounded_248 (lv_at hl 5 rfl) ?_
      refine lv_if_ne (tgt := 262) (pc := 250) hx hb dM_rounded_250 (by decide) (fun h402 => ?_) (fun h402 => ?_)
      · skip
        have h402 : ¬ (v11 = false) := fun q => h402 ((bI_0 _).2 q)
        refine lv_iconst (v := 0) (pc := 262) hx hb dM_rounded_262 (by decide) ?_
        refine lv_istore (lv' := [(12, .int 0), (0, .ref m0), (1, .int u1), (2, .int u2), (6, .int u6), (7, .long u7), (11, .int (bI v11))]) (pc := 263) hx hb dM_rounded_263 hl (by decide) rfl (fun ls hl => ?_)
        exact J265 fl9 u1 u2 u6 u7 v11 false ls _ _ (lv_sub hl [1, 2, 3, 4, 5, 6, 0] rfl) hw hS ((show C_M_rounded_265 md fl9 (iI P) (iI B) u1 u2 u6 u7 v11 false = C_M_rounded_240 md fl9 (iI P) (iI B) u1 u2 u6 u7 v11 v12 from by rw [C_M_rounded_240, if_pos h401, if_neg h402]).trans he)
      · skip
        have h402 : v11 = false := (bI_0 _).1 h402
        refine lv_iload_n (pc := 253) hx hb dM_rounded_253 rfl (lv_at hl 1 rfl) ?_
        refine lv_iconst (v := 1) (pc := 254) hx hb dM_rounded_254 (by decide) ?_
        refine lv_icmp_ne (tgt := 262) (pc := 255) hx hb dM_rounded_255 (by decide) (fun h403 => ?_) (fun h403 => ?_)
        · skip
          refine lv_iconst (v := 0) (pc := 262) hx hb dM_rounded_262 (by decide) ?_
          refine lv_istore (lv' := [(12, .int 0), (0, .ref m0), (1, .int u1), (2, .int u2), (6, .int u6), (7, .long u7), (11, .int (bI v11))]) (pc := 263) hx hb dM_rounded_263 hl (by decide) rfl (fun ls hl => ?_)
          exact J265 fl9 u1 u2 u6 u7 v11 false ls _ _ (lv_sub hl [1, 2, 3, 4, 5, 6, 0] rfl) hw hS ((show C_M_rounded_265 md fl9 (iI P) (iI B) u1 u2 u6 u7 v11 false = C_M_rounded_240 md fl9 (iI P) (iI B) u1 u2 u6 u7 v11 v12 from by rw [C_M_rounded_240, if_pos h401, if_pos h402, if_neg h403]).trans he)
        · skip
          refine lv_iconst (v := 1) (pc := 258) hx hb dM_rounded_258 (by decide) ?_
          refine lv_goto (tgt := 263) (pc := 259) hx hb dM_rounded_259 (by decide) ?_
          refine lv_istore (lv' := [(12, .int 1), (0, .ref m0), (1, .int u1), (2, .int u2), (6, .int u6), (7, .long u7), (11, .int (bI v11))]) (pc := 263) hx hb dM_rounded_263 hl (by decide) rfl (fun ls hl => ?_)
          exact J265 fl9 u1 u2 u6 u7 v11 true ls _ _ (lv_sub hl [1, 2, 3, 4, 5, 6, 0] rfl) hw hS ((show C_M_rounded_265 md fl9 (iI P) (iI B) u1 u2 u6 u7 v11 true = C_M_rounded_240 md fl9 (iI P) (iI B) u1 u2 u6 u7 v11 v12 from by rw [C_M_rounded_240, if_pos h401, if_pos h402, if_pos h403]).trans he)
  have J216 : ∀ (fl9 : Int32) (u1 : Int32) (u2 : Int32) (u6 : Int32) (u7 : Int64) (v11 : Bool) (v12 : Bool) (ls : Array Slot) (H : Heap) (locs : List Loc), lv_has ls 16 [(0, .ref m0), (1, .int u1), (2, .int u2), (6, .int u6), (7, .long u7), (11, .int (bI v11)), (12, .int (bI v12))] → MOw D cI cL m0 ra rb rc ((md, fl9, er, kx, ky, sx, sy, px, py), (fx, fy), ((iI P), (iI B)), (bR N), oth, rg) s H → va_S (mA m0 ra rb rc) s.heap H locs → C_M_rounded_216 md fl9 (iI P) (iI B) u1 u2 u6 u7 v11 v12 = C_M_rounded md fl (iI P) (iI B) k1 (iI E) z3 N → W p l e rmM_rounded s m args below meth c H locs 0 0 Q (F0 m 216 ls []) := by
    intro fl9 u1 u2 u6 u7 v11 v12 ls H locs hl hw hS he
    refine lv_aload_n (pc := 216) hx hb dM_rounded_216 rfl (lv_at hl 0 rfl) ?_
    refine mo_g_mode (pc := 217) hx hb hts hown hw w_359 dM_rounded_217 ?_
    refine lv_iconst (v := 2) (pc := 220) hx hb dM_rounded_220 (by decide) ?_
    refine lv_icmp_ne (tgt := 240) (pc := 221) hx hb dM_rounded_221 (by decide) (fun h301 => ?_) (fun h301 => ?_)
    · skip
      exact J240 fl9 u1 u2 u6 u7 v11 v12 ls _ _ (lv_sub hl [0, 1, 2, 3, 4, 5, 6] rfl) hw hS ((show C_M_rounded_240 md fl9 (iI P) (iI B) u1 u2 u6 u7 v11 v12 = C_M_rounded_216 md fl9 (iI P) (iI B) u1 u2 u6 u7 v11 v12 from by rw [C_M_rounded_216, if_neg h301]).trans he)
    · skip
      refine lv_iload (pc := 224) hx hb dM_rounded_224 (lv_at hl 5 rfl) ?_
      refine lv_if_ne (tgt := 237) (pc := 226) hx hb dM_rounded_226 (by decide) (fun h302 => ?_) (fun h302 => ?_)
      · skip
        have h302 : ¬ (v11 = false) := fun q => h302 ((bI_0 _).2 q)
        refine lv_iconst (v := 0) (pc := 237) hx hb dM_rounded_237 (by decide) ?_
        refine lv_istore (lv' := [(12, .int 0), (0, .ref m0), (1, .int u1), (2, .int u2), (6, .int u6), (7, .long u7), (11, .int (bI v11))]) (pc := 238) hx hb dM_rounded_238 hl (by decide) rfl (fun ls hl => ?_)
        exact J240 fl9 u1 u2 u6 u7 v11 false ls _ _ (lv_sub hl [1, 2, 3, 4, 5, 6, 0] rfl) hw hS ((show C_M_rounded_240 md fl9 (iI P) (iI B) u1 u2 u6 u7 v11 false = C_M_rounded_216 md fl9 (iI P) (iI B) u1 u2 u6 u7 v11 v12 from by rw [C_M_rounded_216, if_pos h301, if_neg h302]).trans he)
      · skip
        have h302 : v11 = false := (bI_0 _).1 h302
        refine lv_iload_n (pc := 229) hx hb dM_rounded_229 rfl (lv_at hl 1 rfl) ?_
        refine lv_if_ne (tgt := 237) (pc := 230) hx hb dM_rounded_230 (by decide) (fun h303 => ?_) (fun h303 => ?_)
        · skip
          refine lv_iconst (v := 0) (pc := 237) hx hb dM_rounded_237 (by decide) ?_
          refine lv_istore (lv' := [(12, .int 0), (0, .ref m0), (1, .int u1), (2, .int u2), (6, .int u6), (7, .long u7), (11, .int (bI v11))]) (pc := 238) hx hb dM_rounded_238 hl (by decide) rfl (fun ls hl => ?_)
          exact J240 fl9 u1 u2 u6 u7 v11 false ls _ _ (lv_sub hl [1, 2, 3, 4, 5, 6, 0] rfl) hw hS ((show C_M_rounded_240 md fl9 (iI P) (iI B) u1 u2 u6 u7 v11 false = C_M_rounded_216 md fl9 (iI P) (iI B) u1 u2 u6 u7 v11 v12 from by rw [C_M_rounded_216, if_pos h301, if_pos h302, if_neg h303]).trans he)
        · skip
          refine lv_iconst (v := 1) (pc := 233) hx hb dM_rounded_233 (by decide) ?_
          refine lv_goto (tgt := 238) (pc := 234) hx hb dM_rounded_234 (by decide) ?_
          refine lv_istore (lv' := [(12, .int 1), (0, .ref m0), (1, .int u1), (2, .int u2), (6, .int u6), (7, .long u7), (11, .int (bI v11))]) (pc := 238) hx hb dM_rounded_238 hl (by decide) rfl (fun ls hl => ?_)
          exact J240 fl9 u1 u2 u6 u7 v11 true ls _ _ (lv_sub hl [1, 2, 3, 4, 5, 6, 0] rfl) hw hS ((show C_M_rounded_240 md fl9 (iI P) (iI B) u1 u2 u6 u7 v11 true = C_M_rounded_216 md fl9 (iI P) (iI B) u1 u2 u6 u7 v11 v12 from by rw [C_M_rounded_216, if_pos h301, if_pos h302, if_pos h303]).trans he)
  have J177 : ∀ (fl9 : Int32) (u1 : Int32) (u2 : Int32) (u6 : Int32) (u7 : Int64) (u9 : Int32) (v10 : Bool) (v11 : Bool) (ls : Array Slot) (H : Heap) (locs : List Loc), lv_has ls 16 [(0, .ref m0), (1, .int u1), (2, .int u2), (6, .int u6), (7, .long u7), (9, .int u9), (10, .int (bI v10))] → MOw D cI cL m0 ra rb rc ((md, fl9, er, kx, ky, sx, sy, px, py), (fx, fy), ((iI P), (iI B)), (bR N), oth, rg) s H → va_S (mA m0 ra rb rc) s.heap H locs → C_M_rounded_177 md fl9 (iI P) (iI B) u1 u2 u6 u7 u9 v10 v11 = C_M_rounded md fl (iI P) (iI B) k1 (iI E) z3 N → W p l e rmM_rounded s m args below meth c H locs 0 0 Q (F0 m 177 ls [.int (bI v11)]) := by
    intro fl9 u1 u2 u6 u7 u9 v10 v11 ls H locs hl hw hS he
    refine lv_istore (lv' := [(11, .int (bI v11)), (0, .ref m0), (1, .int u1), (2, .int u2), (6, .int u6), (7, .long u7), (9, .int u9), (10, .int (bI v10))]) (pc := 177) hx hb dM_rounded_177 hl (by decide) rfl (fun ls hl => ?_)
    refine lv_iconst (v := 0) (pc := 179) hx hb dM_rounded_179 (by decide) ?_
    refine lv_istore (lv' := [(12, .int 0), (11, .int (bI v11)), (0, .ref m0), (1, .int u1), (2, .int u2), (6, .int u6), (7, .long u7), (9, .int u9), (10, .int (bI v10))]) (pc := 180) hx hb dM_rounded_180 hl (by decide) rfl (fun ls hl => ?_)
    refine lv_aload_n (pc := 182) hx hb dM_rounded_182 rfl (lv_at hl 2 rfl) ?_
    refine mo_g_mode (pc := 183) hx hb hts hown hw w_359 dM_rounded_183 ?_
    refine lv_if_ne (tgt := 216) (pc := 186) hx hb dM_rounded_186 (by decide) (fun h201 => ?_) (fun h201 => ?_)
    · skip
      exact J216 fl9 u1 u2 u6 u7 v11 false ls _ _ (lv_sub hl [2, 3, 4, 5, 6, 1, 0] rfl) hw hS ((show C_M_rounded_216 md fl9 (iI P) (iI B) u1 u2 u6 u7 v11 false = C_M_rounded_177 md fl9 (iI P) (iI B) u1 u2 u6 u7 u9 v10 v11 from by rw [C_M_rounded_177, if_neg h201]).trans he)
    · skip
      refine lv_iload (pc := 189) hx hb dM_rounded_189 (lv_at hl 7 rfl) ?_
      refine lv_iconst (v := 1) (pc := 191) hx hb dM_rounded_191 (by decide) ?_
      refine lv_icmp_ne (tgt := 213) (pc := 192) hx hb dM_rounded_192 (by decide) (fun h202 => ?_) (fun h202 => ?_)
      · skip
        refine lv_iconst (v := 0) (pc := 213) hx hb dM_rounded_213 (by decide) ?_
        refine lv_istore (lv' := [(12, .int 0), (11, .int (bI v11)), (0, .ref m0), (1, .int u1), (2, .int u2), (6, .int u6), (7, .long u7), (9, .int u9), (10, .int (bI v10))]) (pc := 214) hx hb dM_rounded_214 hl (by decide) rfl (fun ls hl => ?_)
        exact J216 fl9 u1 u2 u6 u7 v11 false ls _ _ (lv_sub hl [2, 3, 4, 5, 6, 1, 0] rfl) hw hS ((show C_M_rounded_216 md fl9 (iI P) (iI B) u1 u2 u6 u7 v11 false = C_M_rounded_177 md fl9 (iI P) (iI B) u1 u2 u6 u7 u9 v10 v11 from by rw [C_M_rounded_177, if_pos h201, if_neg h202]).trans he)
      · skip
        refine lv_iload (pc := 195) hx hb dM_rounded_195 (lv_at hl 8 rfl) ?_
        refine lv_if_ne (tgt := 209) (pc := 197) hx hb dM_rounded_197 (by decide) (fun h203 => ?_) (fun h203 => ?_)
        · skip
          have h203 : ¬ (v10 = false) := fun q => h203 ((bI_0 _).2 q)
          refine lv_iconst (v := 1) (pc := 209) hx hb dM_rounded_209 (by decide) ?_
          refine lv_goto (tgt := 214) (pc := 210) hx hb dM_rounded_210 (by decide) ?_
          refine lv_istore (lv' := [(12, .int 1), (11, .int (bI v11)), (0, .ref m0), (1, .int u1), (2, .int u2), (6, .int u6), (7, .long u7), (9, .int u9), (10, .int (bI v10))]) (pc := 214) hx hb dM_rounded_214 hl (by decide) rfl (fun ls hl => ?_)
          exact J216 fl9 u1 u2 u6 u7 v11 true ls _ _ (lv_sub hl [2, 3, 4, 5, 6, 1, 0] rfl) hw hS ((show C_M_rounded_216 md fl9 (iI P) (iI B) u1 u2 u6 u7 v11 true = C_M_rounded_177 md fl9 (iI P) (iI B) u1 u2 u6 u7 u9 v10 v11 from by rw [C_M_rounded_177, if_pos h201, if_pos h202, if_neg h203]).trans he)
        · skip
          have h203 : v10 = false := (bI_0 _).1 h203
          refine lv_lload (pc := 200) hx hb dM_rounded_200 (lv_at hl 6 rfl) ?_
          refine lv_lconst (v := 1) (pc := 202) hx hb dM_rounded_202 (by decide) ?_
          refine lv_land (pc := 203) hx hb dM_rounded_203 ?_
          refine lv_lconst (v := 1) (pc := 204) hx hb dM_rounded_204 (by decide) ?_
          refine W.lcmp (pc := 205) hx hb dM_rounded_205 ?_
          refine lv_if_ne (tgt := 213) (pc := 206) hx hb dM_rounded_206 (by decide) (fun h204 => ?_) (fun h204 => ?_)
          · skip
            have h204 : ¬ ((u7 &&& 1) = 1) := fun q => h204 ((lg_cmp_eq _ _).2 q)
            refine lv_iconst (v := 0) (pc := 213) hx hb dM_rounded_213 (by decide) ?_
            refine lv_istore (lv' := [(12, .int 0), (11, .int (bI v11)), (0, .ref m0), (1, .int u1), (2, .int u2), (6, .int u6), (7, .long u7), (9, .int u9), (10, .int (bI v10))]) (pc := 214) hx hb dM_rounded_214 hl (by decide) rfl (fun ls hl => ?_)
            exact J216 fl9 u1 u2 u6 u7 v11 false ls _ _ (lv_sub hl [2, 3, 4, 5, 6, 1, 0] rfl) hw hS ((show C_M_rounded_216 md fl9 (iI P) (iI B) u1 u2 u6 u7 v11 false = C_M_rounded_177 md fl9 (iI P) (iI B) u1 u2 u6 u7 u9 v10 v11 from by rw [C_M_rounded_177, if_pos h201, if_pos h202, if_pos h203, if_neg h204]).trans he)
          · skip
            have h204 : (u7 &&& 1) = 1 := (lg_cmp_eq _ _).1 h204
            refine lv_iconst (v := 1) (pc := 209) hx hb dM_rounded_209 (by decide) ?_
            refine lv_goto (tgt := 214) (pc := 210) hx hb dM_rounded_210 (by decide) ?_
            refine lv_istore (lv' := [(12, .int 1), (11, .int (bI v11)), (0, .ref m0), (1, .int u1), (2, .int u2), (6, .int u6), (7, .long u7), (9, .int u9), (10, .int (bI v10))]) (pc := 214) hx hb dM_rounded_214 hl (by decide) rfl (fun ls hl => ?_)
            exact J216 fl9 u1 u2 u6 u7 v11 true ls _ _ (lv_sub hl [2, 3, 4, 5, 6, 1, 0] rfl) hw hS ((show C_M_rounded_216 md fl9 (iI P) (iI B) u1 u2 u6 u7 v11 true = C_M_rounded_177 md fl9 (iI P) (iI B) u1 u2 u6 u7 u9 v10 v11 from by rw [C_M_rounded_177, if_pos h201, if_pos h202, if_pos h203, if_pos h204]).trans he)
  have J162 : ∀ (fl9 : Int32) (u1 : Int32) (u2 : Int32) (u6 : Int32) (u7 : Int64) (u9 : Int32) (v10 : Bool) (ls : Array Slot) (H : Heap) (locs : List Loc), lv_has ls 16 [(0, .ref m0), (1, .int u1), (2, .int u2), (6, .int u6), (7, .long u7), (9, .int u9), (10, .int (bI v10))] → MOw D cI cL m0 ra rb rc ((md, fl9, er, kx, ky, sx, sy, px, py), (fx, fy), ((iI P), (iI B)), (bR N), oth, rg) s H → va_S (mA m0 ra rb rc) s.heap H locs → C_M_rounded_162 md fl9 (iI P) (iI B) u1 u2 u6 u7 u9 v10 = C_M_rounded md fl (iI P) (iI B) k1 (iI E) z3 N → W p l e rmM_rounded s m args below meth c H locs 0 0 Q (F0 m 162 ls []) := by
    intro fl9 u1 u2 u6 u7 u9 v10 ls H locs hl hw hS he
    refine lv_iload (pc := 162) hx hb dM_rounded_162 (lv_at hl 5 rfl) ?_
    refine lv_if_ne (tgt := 176) (pc := 164) hx hb dM_rounded_164 (by decide) (fun h101 => ?_) (fun h101 => ?_)
    · skip
      refine lv_iconst (v := 0) (pc := 176) hx hb dM_rounded_176 (by decide) ?_
      exact J177 fl9 u1 u2 u6 u7 u9 v10 false ls _ _ (lv_sub hl [0, 1, 2, 3, 4, 5, 6] rfl) hw hS ((show C_M_rounded_177 md fl9 (iI P) (iI B) u1 u2 u6 u7 u9 v10 false = C_M_rounded_162 md fl9 (iI P) (iI B) u1 u2 u6 u7 u9 v10 from by rw [C_M_rounded_162, if_neg h101]).trans he)
    · skip
      refine lv_iload (pc := 167) hx hb dM_rounded_167 (lv_at hl 6 rfl) ?_
      refine lv_if_ne (tgt := 176) (pc := 169) hx hb dM_rounded_169 (by decide) (fun h102 => ?_) (fun h102 => ?_)
      · skip
        have h102 : ¬ (v10 = false) := fun q => h102 ((bI_0 _).2 q)
        refine lv_iconst (v := 0) (pc := 176) hx hb dM_rounded_176 (by decide) ?_
        exact J177 fl9 u1 u2 u6 u7 u9 v10 false ls _ _ (lv_sub hl [0, 1, 2, 3, 4, 5, 6] rfl) hw hS ((show C_M_rounded_177 md fl9 (iI P) (iI B) u1 u2 u6 u7 u9 v10 false = C_M_rounded_162 md fl9 (iI P) (iI B) u1 u2 u6 u7 u9 v10 from by rw [C_M_rounded_162, if_pos h101, if_neg h102]).trans he)
      · skip
        have h102 : v10 = false := (bI_0 _).1 h102
        refine lv_iconst (v := 1) (pc := 172) hx hb dM_rounded_172 (by decide) ?_
        refine lv_goto (tgt := 177) (pc := 173) hx hb dM_rounded_173 (by decide) ?_
        exact J177 fl9 u1 u2 u6 u7 u9 v10 true ls _ _ (lv_sub hl [0, 1, 2, 3, 4, 5, 6] rfl) hw hS ((show C_M_rounded_177 md fl9 (iI P) (iI B) u1 u2 u6 u7 u9 v10 true = C_M_rounded_162 md fl9 (iI P) (iI B) u1 u2 u6 u7 u9 v10 from by rw [C_M_rounded_162, if_pos h101, if_pos h102]).trans he)
  have loopr : ∀ (n k : Nat) (ls : Array Slot), k + n = N.log2 + 2 → k ≤ (low - 1).toNat → lv_has ls 16 [(0, .ref m0), (1, .int k1), (2, .int (iI E)), (4, .int (nI N.log2)), (6, .int (iI low)), (7, .long (lN (zq N low))), (9, .int (nI (mHalf N low))), (10, .int (bI (z3 || decide (N % 2 ^ k ≠ 0)))), (11, .int (nI k))] → W p l e rmM_rounded s m args below meth c H locs 0 0 Q (F0 m 126 ls []) := by
    intro n
    induction n with
    | zero =>
      intro k ls hk hkl hl
      refine lv_iload (pc := 126) hx hb dM_rounded_126 (lv_at hl 8 rfl) ?_
      refine lv_iload (pc := 128) hx hb dM_rounded_128 (lv_at hl 4 rfl) ?_
      refine lv_iconst (v := 1) (pc := 130) hx hb dM_rounded_130 (by decide) ?_
      refine lv_isub (pc := 131) hx hb dM_rounded_131 ?_
      have e1 : mRest N low z3 = (z3 || decide (N % 2 ^ k ≠ 0)) := by
        have a1 : N % 2 ^ k = N := Nat.mod_eq_of_lt ((Nat.log2_lt h0).1 (by omega))
        have a2 : N % 2 ^ (low - 1).toNat = N := Nat.mod_eq_of_lt ((Nat.log2_lt h0).1 (by omega))
        unfold mRest
        rw [a1, a2]
      refine lv_icmp_ge (tgt := 162) (pc := 132) hx hb dM_rounded_132 (by decide) (fun _ => ?_) (fun _ => ?_)
      · exact J162 fl k1 (iI E) (iI low) (lN (zq N low)) (nI (mHalf N low)) (mRest N low z3) ls _ _ (by rw [e1]; exact lv_sub hl [0, 1, 2, 4, 5, 6, 7] rfl) hw hS htop
      · refine lv_iload (pc := 135) hx hb dM_rounded_135 (lv_at hl 8 rfl) ?_
        refine lv_iload (pc := 137) hx hb dM_rounded_137 (lv_at hl 3 rfl) ?_
        refine lv_icmp_gt (tgt := 162) (pc := 139) hx hb dM_rounded_139 (by decide) (fun _ => ?_) (fun h => absurd (nI_lt (by omega) (by omega)) h)
        exact J162 fl k1 (iI E) (iI low) (lN (zq N low)) (nI (mHalf N low)) (mRest N low z3) ls _ _ (by rw [e1]; exact lv_sub hl [0, 1, 2, 4, 5, 6, 7] rfl) hw hS htop
    | succ n ih =>
      intro k ls hk hkl hl
      refine lv_iload (pc := 126) hx hb dM_rounded_126 (lv_at hl 8 rfl) ?_
      refine lv_iload (pc := 128) hx hb dM_rounded_128 (lv_at hl 4 rfl) ?_
      refine lv_iconst (v := 1) (pc := 130) hx hb dM_rounded_130 (by decide) ?_
      refine lv_isub (pc := 131) hx hb dM_rounded_131 ?_
      have e9 : iI low - 1 = iI (low - 1) := by
        rw [show (1 : Int32) = iI 1 from rfl, iI_sub]
      refine lv_icmp_ge (tgt := 162) (pc := 132) hx hb dM_rounded_132 (by decide) (fun h => ?_) (fun h => ?_)
      · rw [e9, iI_nI, iI_le ⟨by omega, by omega⟩ ⟨by omega, by omega⟩] at h
        have e1 : mRest N low z3 = (z3 || decide (N % 2 ^ k ≠ 0)) := by
          unfold mRest
          rw [show (low - 1).toNat = k by omega]
        exact J162 fl k1 (iI E) (iI low) (lN (zq N low)) (nI (mHalf N low)) (mRest N low z3) ls _ _ (by rw [e1]; exact lv_sub hl [0, 1, 2, 4, 5, 6, 7] rfl) hw hS htop
      · rw [e9, iI_nI, iI_le ⟨by omega, by omega⟩ ⟨by omega, by omega⟩] at h
        refine lv_iload (pc := 135) hx hb dM_rounded_135 (lv_at hl 8 rfl) ?_
        refine lv_iload (pc := 137) hx hb dM_rounded_137 (lv_at hl 3 rfl) ?_
        refine lv_icmp_gt (tgt := 162) (pc := 139) hx hb dM_rounded_139 (by decide) (fun h2 => ?_) (fun h2 => ?_)
        · have h2 := (nI_ltI (by omega) (by omega)).1 h2
          have e1 : mRest N low z3 = (z3 || decide (N % 2 ^ k ≠ 0)) := by
            have a1 : N % 2 ^ k = N := Nat.mod_eq_of_lt ((Nat.log2_lt h0).1 (by omega))
            have a2 : N % 2 ^ (low - 1).toNat = N := Nat.mod_eq_of_lt ((Nat.log2_lt h0).1 (by omega))
            unfold mRest
            rw [a1, a2]
          exact J162 fl k1 (iI E) (iI low) (lN (zq N low)) (nI (mHalf N low)) (mRest N low z3) ls _ _ (by rw [e1]; exact lv_sub hl [0, 1, 2, 4, 5, 6, 7] rfl) hw hS htop
        · have h2 : ¬ (N.log2 < k) := fun q => h2 (nI_lt q (by omega))
          have hms := z_ms N k
          refine lv_aload_n (pc := 142) hx hb dM_rounded_142 rfl (lv_at hl 0 rfl) ?_
          refine mo_g_row (pc := 143) hx hb hts hown hw w_356 dM_rounded_143 ?_
          refine lv_iload (pc := 146) hx hb dM_rounded_146 (lv_at hl 8 rfl) ?_
          refine mo_rl (pc := 148) hx hb hw (vp_in_nI (by omega) (by decide)) dM_rounded_148 ?_
          refine lv_topi (fun v501 e501 => ?_)
          obtain rfl : v501 = nI (N / 2 ^ k % 2) := e501.trans (by rw [nI_cl (by omega)]; rfl)
          refine lv_iconst (v := 1) (pc := 149) hx hb dM_rounded_149 (by decide) ?_
          refine lv_icmp_ne (tgt := 156) (pc := 150) hx hb dM_rounded_150 (by decide) (fun h3 => ?_) (fun h3 => ?_)
          · have hz : N / 2 ^ k % 2 = 0 := by
              rcases z_2 (N / 2 ^ k) with g | g
              · exact g
              · exact absurd (by rw [g]; rfl) h3
            rw [hz, Nat.mul_zero, Nat.add_zero] at hms
            refine lv_iinc (k := 8) (v := nI (k + 1)) (lv' := [(11, .int (nI (k + 1))), (0, .ref m0), (1, .int k1), (2, .int (iI E)), (4, .int (nI N.log2)), (6, .int (iI low)), (7, .long (lN (zq N low))), (9, .int (nI (mHalf N low))), (10, .int (bI (z3 || decide (N % 2 ^ k ≠ 0))))]) (pc := 156) hx hb dM_rounded_156 hl rfl (nI_inc _) (by decide) rfl (fun ls hl => ?_)
            refine lv_goto (tgt := 126) (pc := 159) hx hb dM_rounded_159 (by decide) ?_
            refine ih (k + 1) ls (by omega) (by omega) ?_
            rw [hms]
            exact lv_sub hl [1, 2, 3, 4, 5, 6, 7, 8, 0] rfl
          · have hz : N / 2 ^ k % 2 = 1 := by
              rcases z_2 (N / 2 ^ k) with g | g
              · rw [g] at h3
                exact absurd h3 (by decide)
              · exact g
            rw [hz, Nat.mul_one] at hms
            have e2 : (z3 || decide (N % 2 ^ (k + 1) ≠ 0)) = true := by
              have := z_p k
              rw [decide_eq_true (by omega), Bool.or_true]
            refine lv_iconst (v := 1) (pc := 153) hx hb dM_rounded_153 (by decide) ?_
            refine lv_istore (lv' := [(10, .int 1), (0, .ref m0), (1, .int k1), (2, .int (iI E)), (4, .int (nI N.log2)), (6, .int (iI low)), (7, .long (lN (zq N low))), (9, .int (nI (mHalf N low))), (11, .int (nI k))]) (pc := 154) hx hb dM_rounded_154 hl (by decide) rfl (fun ls hl => ?_)
            refine lv_iinc (k := 8) (v := nI (k + 1)) (lv' := [(11, .int (nI (k + 1))), (10, .int 1), (0, .ref m0), (1, .int k1), (2, .int (iI E)), (4, .int (nI N.log2)), (6, .int (iI low)), (7, .long (lN (zq N low))), (9, .int (nI (mHalf N low)))]) (pc := 156) hx hb dM_rounded_156 hl rfl (nI_inc _) (by decide) rfl (fun ls hl => ?_)
            refine lv_goto (tgt := 126) (pc := 159) hx hb dM_rounded_159 (by decide) ?_
            refine ih (k + 1) ls (by omega) (by omega) ?_
            rw [e2]
            exact lv_sub hl [2, 3, 4, 5, 6, 7, 8, 1, 0] rfl
  have K118 : ∀ (h : Int32) (ls : Array Slot), h = nI (mHalf N low) → lv_has ls 16 [(0, .ref m0), (1, .int k1), (2, .int (iI E)), (3, .int (bI z3)), (4, .int (nI N.log2)), (6, .int (iI low)), (7, .long (lN (zq N low)))] → W p l e rmM_rounded s m args below meth c H locs 0 0 Q (F0 m 118 ls [.int h]) := by
    intro h ls hh hl
    subst hh
    refine lv_istore (lv' := [(9, .int (nI (mHalf N low))), (0, .ref m0), (1, .int k1), (2, .int (iI E)), (3, .int (bI z3)), (4, .int (nI N.log2)), (6, .int (iI low)), (7, .long (lN (zq N low)))]) (pc := 118) hx hb dM_rounded_118 hl (by decide) rfl (fun ls hl => ?_)
    refine lv_iload_n (pc := 120) hx hb dM_rounded_120 rfl (lv_at hl 4 rfl) ?_
    refine lv_istore (lv' := [(10, .int (bI z3)), (9, .int (nI (mHalf N low))), (0, .ref m0), (1, .int k1), (2, .int (iI E)), (3, .int (bI z3)), (4, .int (nI N.log2)), (6, .int (iI low)), (7, .long (lN (zq N low)))]) (pc := 121) hx hb dM_rounded_121 hl (by decide) rfl (fun ls hl => ?_)
    refine lv_iconst (v := 0) (pc := 123) hx hb dM_rounded_123 (by decide) ?_
    refine lv_istore (lv' := [(11, .int 0), (10, .int (bI z3)), (9, .int (nI (mHalf N low))), (0, .ref m0), (1, .int k1), (2, .int (iI E)), (3, .int (bI z3)), (4, .int (nI N.log2)), (6, .int (iI low)), (7, .long (lN (zq N low)))]) (pc := 124) hx hb dM_rounded_124 hl (by decide) rfl (fun ls hl => ?_)
    refine loopr (N.log2 + 2) 0 ls (by omega) (by omega) ?_
    rw [Nat.pow_zero, Nat.mod_one, show (z3 || decide ((0 : Nat) ≠ 0)) = z3 by simp]
    exact lv_sub hl [3, 4, 5, 7, 8, 9, 2, 1, 0] rfl
  have K91 : ∀ (ls : Array Slot), lv_has ls 16 [(0, .ref m0), (1, .int k1), (2, .int (iI E)), (3, .int (bI z3)), (4, .int (nI N.log2)), (6, .int (iI low)), (7, .long (lN (zq N low)))] → W p l e rmM_rounded s m args below meth c H locs 0 0 Q (F0 m 91 ls []) := by
    intro ls hl
    refine lv_iload (pc := 91) hx hb dM_rounded_91 (lv_at hl 5 rfl) ?_
    have e0 : (0 : Int32) = iI 0 := rfl
    refine lv_if_le (tgt := 117) (pc := 93) hx hb dM_rounded_93 (by decide) (fun h => ?_) (fun h => ?_)
    · rw [e0, iI_le ⟨by omega, by omega⟩ ⟨by omega, by omega⟩] at h
      refine lv_iconst (v := 0) (pc := 117) hx hb dM_rounded_117 (by decide) ?_
      exact K118 _ ls (by unfold mHalf; rw [if_neg (by omega)]; rfl) hl
    · rw [e0, iI_le ⟨by omega, by omega⟩ ⟨by omega, by omega⟩] at h
      refine lv_iload (pc := 96) hx hb dM_rounded_96 (lv_at hl 5 rfl) ?_
      refine lv_iconst (v := 1) (pc := 98) hx hb dM_rounded_98 (by decide) ?_
      refine lv_isub (pc := 99) hx hb dM_rounded_99 ?_
      refine lv_iload (pc := 100) hx hb dM_rounded_100 (lv_at hl 4 rfl) ?_
      have e9 : iI low - 1 = iI (low - 1) := by
        rw [show (1 : Int32) = iI 1 from rfl, iI_sub]
      refine lv_icmp_gt (tgt := 117) (pc := 102) hx hb dM_rounded_102 (by decide) (fun h2 => ?_) (fun h2 => ?_)
      · rw [e9, iI_nI, iI_lt ⟨by omega, by omega⟩ ⟨by omega, by omega⟩] at h2
        refine lv_iconst (v := 0) (pc := 117) hx hb dM_rounded_117 (by decide) ?_
        exact K118 _ ls (by unfold mHalf; rw [if_pos (by omega), z_above (by omega)]; rfl) hl
      · rw [e9, iI_nI, iI_lt ⟨by omega, by omega⟩ ⟨by omega, by omega⟩] at h2
        refine lv_aload_n (pc := 105) hx hb dM_rounded_105 rfl (lv_at hl 0 rfl) ?_
        refine mo_g_row (pc := 106) hx hb hts hown hw w_356 dM_rounded_106 ?_
        refine lv_iload (pc := 109) hx hb dM_rounded_109 (lv_at hl 5 rfl) ?_
        refine lv_iconst (v := 1) (pc := 111) hx hb dM_rounded_111 (by decide) ?_
        refine lv_isub (pc := 112) hx hb dM_rounded_112 ?_
        refine mo_rl (pc := 113) hx hb hw (by rw [e9]; exact iI_in (by omega) (by omega)) dM_rounded_113 ?_
        refine lv_topi (fun v502 e502 => ?_)
        obtain rfl : v502 = nI (mHalf N low) := e502.trans (by rw [e9, iI_cl (by omega) (by omega)]; unfold mHalf bR; rw [if_pos (by omega)])
        refine lv_goto (tgt := 118) (pc := 114) hx hb dM_rounded_114 (by decide) ?_
        exact K118 _ ls rfl hl
  have loopq : ∀ (n : Nat) (k : Int) (ls : Array Slot), k + 1 - low ≤ (n : Int) → k ≤ (N.log2 : Int) → -20000 ≤ k → (low ≤ k + 1 ∨ k = (N.log2 : Int)) → lv_has ls 16 [(0, .ref m0), (1, .int k1), (2, .int (iI E)), (3, .int (bI z3)), (4, .int (nI N.log2)), (6, .int (iI low)), (7, .long (lN (zq N (k + 1)))), (9, .int (iI k))] → W p l e rmM_rounded s m args below meth c H locs 0 0 Q (F0 m 52 ls []) := by
    intro n
    induction n with
    | zero =>
      intro k ls hn hk1 hk2 hk3 hl
      refine lv_iload (pc := 52) hx hb dM_rounded_52 (lv_at hl 7 rfl) ?_
      refine lv_iload (pc := 54) hx hb dM_rounded_54 (lv_at hl 5 rfl) ?_
      refine lv_icmp_lt (tgt := 91) (pc := 56) hx hb dM_rounded_56 (by decide) (fun h => ?_) (fun h => absurd ((iI_lt ⟨by omega, by omega⟩ ⟨by omega, by omega⟩).2 (by omega)) h)
      have e1 : zq N (k + 1) = zq N low := by
        by_cases g : low = k + 1
        · rw [g]
        · rw [zq_above (show (N.log2 : Int) < k + 1 by omega), zq_above (show (N.log2 : Int) < low by omega)]
      rw [e1] at hl
      exact K91 ls (lv_sub hl [0, 1, 2, 3, 4, 5, 6] rfl)
    | succ n ih =>
      intro k ls hn hk1 hk2 hk3 hl
      refine lv_iload (pc := 52) hx hb dM_rounded_52 (lv_at hl 7 rfl) ?_
      refine lv_iload (pc := 54) hx hb dM_rounded_54 (lv_at hl 5 rfl) ?_
      refine lv_icmp_lt (tgt := 91) (pc := 56) hx hb dM_rounded_56 (by decide) (fun h => ?_) (fun h => ?_)
      · rw [iI_lt ⟨by omega, by omega⟩ ⟨by omega, by omega⟩] at h
        have e1 : zq N (k + 1) = zq N low := by
          by_cases g : low = k + 1
          · rw [g]
          · rw [zq_above (show (N.log2 : Int) < k + 1 by omega), zq_above (show (N.log2 : Int) < low by omega)]
        rw [e1] at hl
        exact K91 ls (lv_sub hl [0, 1, 2, 3, 4, 5, 6] rfl)
      · rw [iI_lt ⟨by omega, by omega⟩ ⟨by omega, by omega⟩] at h
        have K81 : ∀ b : Int32, b = nI (if 0 ≤ k then N / 2 ^ k.toNat % 2 else 0) → W p l e rmM_rounded s m args below meth c H locs 0 0 Q (F0 m 81 ls [.int b, .long (2 * lN (zq N (k + 1)))]) := by
          intro b hb9
          subst hb9
          refine lv_i2l (v := (nI (if 0 ≤ k then N / 2 ^ k.toNat % 2 else 0)).toInt64) (pc := 81) hx hb dM_rounded_81 rfl ?_
          refine lv_ladd (pc := 82) hx hb dM_rounded_82 ?_
          refine lv_topl (fun v9 e9 => ?_)
          obtain rfl : v9 = lN (zq N k) := e9.trans (by
            rw [q_step _ _ (by split; exact z_b2 _ _; decide), ← zq_step])
          refine lv_lstore (lv' := [(7, .long (lN (zq N k))), (0, .ref m0), (1, .int k1), (2, .int (iI E)), (3, .int (bI z3)), (4, .int (nI N.log2)), (6, .int (iI low)), (9, .int (iI k))]) (pc := 83) hx hb dM_rounded_83 hl (by decide) rfl (fun ls hl => ?_)
          refine lv_iinc (k := 7) (v := iI (k - 1)) (lv' := [(9, .int (iI (k - 1))), (7, .long (lN (zq N k))), (0, .ref m0), (1, .int k1), (2, .int (iI E)), (3, .int (bI z3)), (4, .int (nI N.log2)), (6, .int (iI low))]) (pc := 85) hx hb dM_rounded_85 hl rfl (iI_dec _) (by decide) rfl (fun ls hl => ?_)
          refine lv_goto (tgt := 52) (pc := 88) hx hb dM_rounded_88 (by decide) ?_
          refine ih (k - 1) ls (by omega) (by omega) (by omega) (Or.inl (by omega)) ?_
          rw [show k - 1 + 1 = k by omega]
          exact lv_sub hl [2, 3, 4, 5, 6, 7, 1, 0] rfl
        refine lv_ldc2 (v := 2) (pc := 59) hx hb hown (hts _ (List.mem_cons_of_mem _ w_485)) dM_rounded_59 ?_
        refine lv_lload (pc := 62) hx hb dM_rounded_62 (lv_at hl 6 rfl) ?_
        refine lv_lmul (pc := 64) hx hb dM_rounded_64 ?_
        refine lv_iload (pc := 65) hx hb dM_rounded_65 (lv_at hl 7 rfl) ?_
        have e0 : (0 : Int32) = iI 0 := rfl
        refine lv_if_lt (tgt := 80) (pc := 67) hx hb dM_rounded_67 (by decide) (fun h2 => ?_) (fun h2 => ?_)
        · rw [e0, iI_lt ⟨by omega, by omega⟩ ⟨by omega, by omega⟩] at h2
          refine lv_iconst (v := 0) (pc := 80) hx hb dM_rounded_80 (by decide) ?_
          exact K81 _ (by rw [if_neg (by omega)]; rfl)
        · rw [e0, iI_lt ⟨by omega, by omega⟩ ⟨by omega, by omega⟩] at h2
          refine lv_aload_n (pc := 70) hx hb dM_rounded_70 rfl (lv_at hl 0 rfl) ?_
          refine mo_g_row (pc := 71) hx hb hts hown hw w_356 dM_rounded_71 ?_
          refine lv_iload (pc := 74) hx hb dM_rounded_74 (lv_at hl 7 rfl) ?_
          refine mo_rl (pc := 76) hx hb hw (iI_in (by omega) (by omega)) dM_rounded_76 ?_
          refine lv_topi (fun v503 e503 => ?_)
          obtain rfl : v503 = nI (if 0 ≤ k then N / 2 ^ k.toNat % 2 else 0) := e503.trans (by rw [iI_cl (by omega) (by omega), if_pos (by omega)]; rfl)
          refine lv_goto (tgt := 81) (pc := 77) hx hb dM_rounded_77 (by decide) ?_
          exact K81 _ rfl
  refine lv_istore (lv' := [(4, .int (nI N.log2)), (0, .ref m0), (1, .int k1), (2, .int (iI E)), (3, .int (bI z3))]) (pc := 4) hx hb dM_rounded_4 hl (by decide) rfl (fun ls hl => ?_)
  refine lv_iconst (v := 1) (pc := 6) hx hb dM_rounded_6 (by decide) ?_
  refine lv_aload_n (pc := 7) hx hb dM_rounded_7 rfl (lv_at hl 1 rfl) ?_
  refine mo_g_bias (pc := 8) hx hb hts hown hw w_371 dM_rounded_8 ?_
  refine lv_isub (pc := 11) hx hb dM_rounded_11 ?_
  refine lv_aload_n (pc := 12) hx hb dM_rounded_12 rfl (lv_at hl 1 rfl) ?_
  refine mo_g_precision (pc := 13) hx hb hts hown hw w_370 dM_rounded_13 ?_
  refine lv_iconst (v := 1) (pc := 16) hx hb dM_rounded_16 (by decide) ?_
  refine lv_isub (pc := 17) hx hb dM_rounded_17 ?_
  refine lv_isub (pc := 18) hx hb dM_rounded_18 ?_
  refine lv_iload_n (pc := 19) hx hb dM_rounded_19 rfl (lv_at hl 3 rfl) ?_
  refine lv_isub (pc := 20) hx hb dM_rounded_20 ?_
  refine lv_topi (fun v1 e1 => ?_)
  obtain rfl : v1 = iI (1 - B - (P - 1) - E) := e1.trans (by
    rw [show (1 : Int32) = iI 1 from rfl, iI_sub, iI_sub, iI_sub, iI_sub])
  refine lv_istore (lv' := [(5, .int (iI (1 - B - (P - 1) - E))), (4, .int (nI N.log2)), (0, .ref m0), (1, .int k1), (2, .int (iI E)), (3, .int (bI z3))]) (pc := 21) hx hb dM_rounded_21 hl (by decide) rfl (fun ls hl => ?_)
  refine lv_iload (pc := 23) hx hb dM_rounded_23 (lv_at hl 1 rfl) ?_
  refine lv_aload_n (pc := 25) hx hb dM_rounded_25 rfl (lv_at hl 2 rfl) ?_
  refine mo_g_precision (pc := 26) hx hb hts hown hw w_370 dM_rounded_26 ?_
  refine lv_iconst (v := 1) (pc := 29) hx hb dM_rounded_29 (by decide) ?_
  refine lv_isub (pc := 30) hx hb dM_rounded_30 ?_
  refine lv_isub (pc := 31) hx hb dM_rounded_31 ?_
  refine lv_topi (fun v2 e2 => ?_)
  obtain rfl : v2 = iI ((N.log2 : Int) - (P - 1)) := e2.trans (by
    rw [show (1 : Int32) = iI 1 from rfl, iI_nI, iI_sub, iI_sub])
  refine lv_istore (lv' := [(6, .int (iI ((N.log2 : Int) - (P - 1)))), (5, .int (iI (1 - B - (P - 1) - E))), (4, .int (nI N.log2)), (0, .ref m0), (1, .int k1), (2, .int (iI E)), (3, .int (bI z3))]) (pc := 32) hx hb dM_rounded_32 hl (by decide) rfl (fun ls hl => ?_)
  refine lv_iload (pc := 34) hx hb dM_rounded_34 (lv_at hl 0 rfl) ?_
  refine lv_iload (pc := 36) hx hb dM_rounded_36 (lv_at hl 1 rfl) ?_
  have K45 : ∀ ls : Array Slot, lv_has ls 16 [(0, .ref m0), (1, .int k1), (2, .int (iI E)), (3, .int (bI z3)), (4, .int (nI N.log2)), (6, .int (iI low))] → W p l e rmM_rounded s m args below meth c H locs 0 0 Q (F0 m 45 ls []) := by
    intro ls hl
    refine lv_lconst (v := 0) (pc := 45) hx hb dM_rounded_45 (by decide) ?_
    refine lv_lstore (lv' := [(7, .long 0), (0, .ref m0), (1, .int k1), (2, .int (iI E)), (3, .int (bI z3)), (4, .int (nI N.log2)), (6, .int (iI low))]) (pc := 46) hx hb dM_rounded_46 hl (by decide) rfl (fun ls hl => ?_)
    refine lv_iload (pc := 48) hx hb dM_rounded_48 (lv_at hl 5 rfl) ?_
    refine lv_istore (lv' := [(9, .int (nI N.log2)), (7, .long 0), (0, .ref m0), (1, .int k1), (2, .int (iI E)), (3, .int (bI z3)), (4, .int (nI N.log2)), (6, .int (iI low))]) (pc := 50) hx hb dM_rounded_50 hl (by decide) rfl (fun ls hl => ?_)
    refine loopq (((N.log2 : Int) + 1 - low).toNat) (N.log2 : Int) ls (by omega) (by omega) (by omega) (Or.inr rfl) ?_
    rw [zq_above (show (N.log2 : Int) < (N.log2 : Int) + 1 by omega), ← iI_nI]
    exact lv_sub hl [2, 3, 4, 5, 6, 7, 1, 0] rfl
  refine lv_icmp_ge (tgt := 45) (pc := 38) hx hb dM_rounded_38 (by decide) (fun h => ?_) (fun h => ?_)
  · rw [iI_le ⟨by omega, by omega⟩ ⟨by omega, by omega⟩] at h
    refine K45 ls ?_
    rw [show low = (N.log2 : Int) - (P - 1) by omega]
    exact lv_sub hl [3, 4, 5, 6, 2, 0] rfl
  · rw [iI_le ⟨by omega, by omega⟩ ⟨by omega, by omega⟩] at h
    refine lv_iload (pc := 41) hx hb dM_rounded_41 (lv_at hl 1 rfl) ?_
    refine lv_istore (lv' := [(6, .int (iI (1 - B - (P - 1) - E))), (5, .int (iI (1 - B - (P - 1) - E))), (4, .int (nI N.log2)), (0, .ref m0), (1, .int k1), (2, .int (iI E)), (3, .int (bI z3))]) (pc := 43) hx hb dM_rounded_43 hl (by decide) rfl (fun ls hl => ?_)
    refine K45 ls ?_
    rw [show low = 1 - B - (P - 1) - E by omega]
    exact lv_sub hl [3, 4, 5, 6, 2, 0] rfl
