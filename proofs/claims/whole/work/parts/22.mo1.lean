/-! The reference: its simple methods (by program). -/
def C_M_in (k1 : Int32) (k2 : Int32) : Bool :=
  if k1 < 0 then
    false
  else
    if k2 < k1 then
      false
    else
      true
abbrev rmM_in : Room := { frames := 0, cells := 0, slots := 0, locals := 0 }
theorem cwM_in {R : Room} {s : State} {args : Array Value} {w0 : Cond} {idx : Nat} (hts : ∀ w ∈ (w0 :: bigW), w.before args s = true) (hl : Cond.methodLink "FloatUnitModel" idx yM_in ∈ bigW) (hR : rmM_in.frames + 1 ≤ R.frames ∧ 8 + (2 + 11) + rmM_in.locals ≤ R.locals) : CallB R s args "FloatUnitModel" idx yM_in cM_in 2 (some .boolean) (wsM yM_in cM_in 2 (some .boolean)) rmM_in 0 0 2 ∧ (Cond.static yM_in).before args s = true :=
  cwS 2 hts (big_S hl w_415 w_2 w_416) rfl rfl rfl ⟨rfl, by decide, by decide, by decide +kernel⟩ hR
set_option maxRecDepth 100000 in
set_option maxHeartbeats 8000000 in
theorem c_M_in (l : Launch) (k1 : Int32) (k2 : Int32) : PuS l yM_in (wsM yM_in cM_in 2 (some .boolean)) rmM_in [.int k1, .int k2] (.int (bI (C_M_in k1 k2))) := by
  refine ps_ofZ (cc := cM_in) (maxL := 2) (by decide) rfl (Nat.le_of_ble_eq_true rfl) ?_
  intro p e s m args below meth c Q hx hb hml hown hts hret ls hl
  have hl : lv_has ls 2 [(0, .int k1), (1, .int k2)] := hl
  refine lv_iload_n (pc := 0) hx hb dM_in_0 rfl (lv_at hl 0 rfl) ?_
  refine lv_if_lt (tgt := 13) (pc := 1) hx hb dM_in_1 (by decide) (fun h1 => ?_) (fun h1 => ?_)
  · skip
    refine lv_iconst (v := 0) (pc := 13) hx hb dM_in_13 (by decide) ?_
    have he9 := (show false = C_M_in k1 k2 from by rw [C_M_in, if_pos h1])
    exact hret _ _ _ (congrArg bI he9) dM_in_14
  · skip
    refine lv_iload_n (pc := 4) hx hb dM_in_4 rfl (lv_at hl 0 rfl) ?_
    refine lv_iload_n (pc := 5) hx hb dM_in_5 rfl (lv_at hl 1 rfl) ?_
    refine lv_icmp_gt (tgt := 13) (pc := 6) hx hb dM_in_6 (by decide) (fun h2 => ?_) (fun h2 => ?_)
    · skip
      refine lv_iconst (v := 0) (pc := 13) hx hb dM_in_13 (by decide) ?_
      have he9 := (show false = C_M_in k1 k2 from by rw [C_M_in, if_neg h1, if_pos h2])
      exact hret _ _ _ (congrArg bI he9) dM_in_14
    · skip
      refine lv_iconst (v := 1) (pc := 9) hx hb dM_in_9 (by decide) ?_
      refine lv_goto (tgt := 14) (pc := 10) hx hb dM_in_10 (by decide) ?_
      have he9 := (show true = C_M_in k1 k2 from by rw [C_M_in, if_neg h1, if_neg h2])
      exact hret _ _ _ (congrArg bI he9) dM_in_14
def C_M_bit (x1 : Int64) (k2 : Int32) : Int32 :=
  if k2 < 0 then
    0
  else
    if k2 ≤ 62 then
      ((jShr x1 k2) &&& 1).toInt32
    else
      0
abbrev rmM_bit : Room := { frames := 0, cells := 0, slots := 0, locals := 0 }
theorem cwM_bit {R : Room} {s : State} {args : Array Value} {w0 : Cond} {idx : Nat} (hts : ∀ w ∈ (w0 :: bigW), w.before args s = true) (hl : Cond.methodLink "FloatUnitModel" idx yM_bit ∈ bigW) (hR : rmM_bit.frames + 1 ≤ R.frames ∧ 8 + (3 + 11) + rmM_bit.locals ≤ R.locals) : CallB R s args "FloatUnitModel" idx yM_bit cM_bit 3 (some .int) (wsM yM_bit cM_bit 3 (some .int)) rmM_bit 0 0 2 ∧ (Cond.static yM_bit).before args s = true :=
  cwS 2 hts (big_S hl w_503 w_2 w_504) rfl rfl rfl ⟨rfl, by decide, by decide, by decide +kernel⟩ hR
set_option maxRecDepth 100000 in
set_option maxHeartbeats 8000000 in
theorem c_M_bit (l : Launch) (x1 : Int64) (k2 : Int32) : PuS l yM_bit (wsM yM_bit cM_bit 3 (some .int)) rmM_bit [.long x1, .int k2] (.int (C_M_bit x1 k2)) := by
  refine ps_ofI (cc := cM_bit) (maxL := 3) (by decide) rfl (Nat.le_of_ble_eq_true rfl) ?_
  intro p e s m args below meth c Q hx hb hml hown hts hret ls hl
  have hl : lv_has ls 3 [(0, .long x1), (2, .int k2)] := hl
  refine lv_iload_n (pc := 0) hx hb dM_bit_0 rfl (lv_at hl 1 rfl) ?_
  refine lv_if_lt (tgt := 10) (pc := 1) hx hb dM_bit_1 (by decide) (fun h1 => ?_) (fun h1 => ?_)
  · skip
    refine lv_iconst (v := 0) (pc := 10) hx hb dM_bit_10 (by decide) ?_
    refine lv_goto (tgt := 20) (pc := 11) hx hb dM_bit_11 (by decide) ?_
    have he9 := (show 0 = C_M_bit x1 k2 from by rw [C_M_bit, if_pos h1])
    exact hret _ _ _ he9 dM_bit_20
  · skip
    refine lv_iload_n (pc := 4) hx hb dM_bit_4 rfl (lv_at hl 1 rfl) ?_
    refine lv_bipush (v := 62) (pc := 5) hx hb dM_bit_5 (by decide) ?_
    refine lv_icmp_le (tgt := 14) (pc := 7) hx hb dM_bit_7 (by decide) (fun h2 => ?_) (fun h2 => ?_)
    · skip
      refine lv_lload_n (pc := 14) hx hb dM_bit_14 rfl (lv_at hl 0 rfl) ?_
      refine lv_iload_n (pc := 15) hx hb dM_bit_15 rfl (lv_at hl 1 rfl) ?_
      refine lv_lshr (v := jShr x1 k2) (pc := 16) hx hb dM_bit_16 rfl ?_
      refine lv_lconst (v := 1) (pc := 17) hx hb dM_bit_17 (by decide) ?_
      refine lv_land (pc := 18) hx hb dM_bit_18 ?_
      refine lv_l2i (v := ((jShr x1 k2) &&& 1).toInt32) (pc := 19) hx hb dM_bit_19 rfl ?_
      have he9 := (show ((jShr x1 k2) &&& 1).toInt32 = C_M_bit x1 k2 from by rw [C_M_bit, if_neg h1, if_pos h2])
      exact hret _ _ _ he9 dM_bit_20
    · skip
      refine lv_iconst (v := 0) (pc := 10) hx hb dM_bit_10 (by decide) ?_
      refine lv_goto (tgt := 20) (pc := 11) hx hb dM_bit_11 (by decide) ?_
      have he9 := (show 0 = C_M_bit x1 k2 from by rw [C_M_bit, if_neg h1, if_neg h2])
      exact hret _ _ _ he9 dM_bit_20
abbrev rmM_fails : Room := { frames := 0, cells := 0, slots := 0, locals := 0 }
theorem cwM_fails {R : Room} {s : State} {args : Array Value} {w0 : Cond} {own : String} {idx : Nat} (hts : ∀ w ∈ (w0 :: bigW), w.before args s = true) (hl : Cond.methodLink own idx yM_fails ∈ bigW) (hR : rmM_fails.frames + 1 ≤ R.frames ∧ 8 + (2 + 11) + rmM_fails.locals ≤ R.locals) : CallW R s args own "FloatUnitModel" idx yM_fails cM_fails 2 (some .boolean) (wsM yM_fails cM_fails 2 (some .boolean)) rmM_fails 0 0 1 :=
  cwV 1 hts (big_V hl w_419 sel_M_fails w_2 w_420) rfl rfl rfl ⟨rfl, by decide, by decide, by decide +kernel⟩ hR
set_option maxRecDepth 100000 in
theorem c_M_fails (l : Launch) (D : va_G) (cI cL : ClassId) (m0 ra rb rc : Nat) (md fl er kx ky sx sy px py : Int32) (fx fy : Int64) (pr bi : Int32) (row oth : Nat → Int32) (rg : Nat → Int64) (z1 : Bool) : MoM l D cI cL m0 ra rb rc yM_fails (wsM yM_fails cM_fails 2 (some .boolean)) rmM_fails [.int (bI z1)] ((md, fl, er, kx, ky, sx, sy, px, py), (fx, fy), (pr, bi), row, oth, rg) (some (.int (bI z1))) ((md, fl, (bI z1), kx, ky, sx, sy, px, py), (fx, fy), (pr, bi), row, oth, rg) := by
  refine mo_ofZ (cc := cM_fails) (maxL := 2) (by decide) rfl (Nat.le_of_ble_eq_true rfl) ?_
  intro p e s m args below meth c Q hx hb hml hown hts H locs hS hw hret ls hl
  have hl : lv_has ls 2 [(0, .ref m0), (1, .int (bI z1))] := hl
  refine lv_aload_n (pc := 0) hx hb dM_fails_0 rfl (lv_at hl 0 rfl) ?_
  refine lv_iload_n (pc := 1) hx hb dM_fails_1 rfl (lv_at hl 1 rfl) ?_
  have K : ∀ v : Int32, v = bI z1 → W p l e rmM_fails s m args below meth c H locs 0 0 Q (F0 m 10 ls [.int v, .ref m0]) := by
    intro v hv
    refine mo_p_err (pc := 10) hx hb hts hown hw hS w_361 dM_fails_10 (fun H locs hw hS => ?_)
    refine lv_iload_n (pc := 13) hx hb dM_fails_13 rfl (lv_at hl 1 rfl) ?_
    exact hret _ _ _ _ _ _ rfl (by rw [hv]) hw hS dM_fails_14
  refine lv_if_eq (tgt := 9) (pc := 2) hx hb dM_fails_2 (by decide) (fun h => ?_) (fun h => ?_)
  · refine lv_iconst (v := 0) (pc := 9) hx hb dM_fails_9 (by decide) ?_
    exact K 0 h.symm
  · refine lv_iconst (v := 1) (pc := 5) hx hb dM_fails_5 (by decide) ?_
    refine lv_goto (tgt := 10) (pc := 6) hx hb dM_fails_6 (by decide) ?_
    exact K 1 (by rw [(bI_1 z1).1 h]; rfl)
def C_M_thrown (er : Int32) : Int32 :=
  er
abbrev rmM_thrown : Room := { frames := 0, cells := 0, slots := 0, locals := 0 }
theorem cwM_thrown {R : Room} {s : State} {args : Array Value} {w0 : Cond} {own : String} {idx : Nat} (hts : ∀ w ∈ (w0 :: bigW), w.before args s = true) (hl : Cond.methodLink own idx yM_thrown ∈ bigW) (hR : rmM_thrown.frames + 1 ≤ R.frames ∧ 8 + (1 + 11) + rmM_thrown.locals ≤ R.locals) : CallW R s args own "FloatUnitModel" idx yM_thrown cM_thrown 1 (some .int) (wsM yM_thrown cM_thrown 1 (some .int)) rmM_thrown 0 0 0 :=
  cwV 0 hts (big_V hl w_407 w_408 w_2 w_409) rfl rfl rfl ⟨rfl, by decide, by decide, by decide +kernel⟩ hR
set_option maxRecDepth 100000 in
set_option maxHeartbeats 8000000 in
theorem c_M_thrown (l : Launch) (D : va_G) (cI cL : ClassId) (m0 ra rb rc : Nat) (md fl er kx ky sx sy px py : Int32) (fx fy : Int64) (pr bi : Int32) (row oth : Nat → Int32) (rg : Nat → Int64) : MoM l D cI cL m0 ra rb rc yM_thrown (wsM yM_thrown cM_thrown 1 (some .int)) rmM_thrown [] ((md, fl, er, kx, ky, sx, sy, px, py), (fx, fy), (pr, bi), row, oth, rg) (some (.int (C_M_thrown er))) ((md, fl, er, kx, ky, sx, sy, px, py), (fx, fy), (pr, bi), row, oth, rg) := by
  refine mo_ofI (cc := cM_thrown) (maxL := 1) (by decide) rfl (Nat.le_of_ble_eq_true rfl) ?_
  intro p e s m args below meth c Q hx hb hml hown hts H locs hS hw hret ls hl
  have hl : lv_has ls 1 [(0, .ref m0)] := hl
  refine lv_aload_n (pc := 0) hx hb dM_thrown_0 rfl (lv_at hl 0 rfl) ?_
  refine mo_g_err (pc := 1) hx hb hts hown hw w_361 dM_thrown_1 ?_
  have he9 := (show er = C_M_thrown er from by rw [C_M_thrown])
  exact hret _ _ _ _ _ _ he9 rfl hw hS dM_thrown_4
theorem min_in {k : Int32} (h : ¬ (C_M_in k 15) = false) : vp_in k 16 := by
  unfold C_M_in at h
  rw [vp_in_iff]
  obtain ⟨z, hz, rfl⟩ := iI_of k
  rw [iI_toInt hz]
  have e0 : (0 : Int32) = iI 0 := rfl
  have e15 : (15 : Int32) = iI 15 := rfl
  rw [e0, e15] at h
  have a1 := iI_lt hz (b := 0) ⟨by decide, by decide⟩
  have a2 := iI_lt (a := 15) ⟨by decide, by decide⟩ hz
  by_cases g : z < 0
  · exact absurd (if_pos (a1.2 g)) h
  · by_cases g2 : 15 < z
    · exact absurd (by rw [if_neg (fun q => g (a1.1 q)), if_pos (a2.2 g2)]) h
    · omega
def C_M_format (z1 : Bool) : Int32 × Int32 :=
  if z1 = false then
    (53, 1023)
  else
    (24, 127)
abbrev rmM_format : Room := { frames := 0, cells := 0, slots := 0, locals := 0 }
theorem cwM_format {R : Room} {s : State} {args : Array Value} {w0 : Cond} {own : String} {idx : Nat} (hts : ∀ w ∈ (w0 :: bigW), w.before args s = true) (hl : Cond.methodLink own idx yM_format ∈ bigW) (hR : rmM_format.frames + 1 ≤ R.frames ∧ 8 + (2 + 11) + rmM_format.locals ≤ R.locals) : CallW R s args own "FloatUnitModel" idx yM_format cM_format 2 none (wsM yM_format cM_format 2 none) rmM_format 0 0 1 :=
  cwV 1 hts (big_V hl w_439 sel_M_format w_2 w_440) rfl rfl rfl ⟨rfl, by decide, by decide, by decide +kernel⟩ hR
set_option maxRecDepth 100000 in
set_option maxHeartbeats 8000000 in
theorem c_M_format (l : Launch) (D : va_G) (cI cL : ClassId) (m0 ra rb rc : Nat) (md fl er kx ky sx sy px py : Int32) (fx fy : Int64) (pr bi : Int32) (row oth : Nat → Int32) (rg : Nat → Int64) (z1 : Bool) : MoM l D cI cL m0 ra rb rc yM_format (wsM yM_format cM_format 2 none) rmM_format [.int (bI z1)] ((md, fl, er, kx, ky, sx, sy, px, py), (fx, fy), (pr, bi), row, oth, rg) none ((md, fl, er, kx, ky, sx, sy, px, py), (fx, fy), (((C_M_format z1).1), ((C_M_format z1).2)), row, oth, rg) := by
  refine mo_ofV (cc := cM_format) (maxL := 2) (by decide) rfl (Nat.le_of_ble_eq_true rfl) ?_
  intro p e s m args below meth c Q hx hb hml hown hts H locs hS hw hret ls hl
  have hl : lv_has ls 2 [(0, .ref m0), (1, .int (bI z1))] := hl
  refine lv_aload_n (pc := 0) hx hb dM_format_0 rfl (lv_at hl 0 rfl) ?_
  refine lv_iload_n (pc := 1) hx hb dM_format_1 rfl (lv_at hl 1 rfl) ?_
  refine lv_if_eq (tgt := 10) (pc := 2) hx hb dM_format_2 (by decide) (fun h1 => ?_) (fun h1 => ?_)
  · skip
    have h1 : z1 = false := (bI_0 _).1 h1
    refine lv_bipush (v := 53) (pc := 10) hx hb dM_format_10 (by decide) ?_
    refine mo_p_precision (pc := 12) hx hb hts hown hw hS w_370 dM_format_12 (fun H locs hw hS => ?_)
    refine lv_aload_n (pc := 15) hx hb dM_format_15 rfl (lv_at hl 0 rfl) ?_
    refine lv_iload_n (pc := 16) hx hb dM_format_16 rfl (lv_at hl 1 rfl) ?_
    refine lv_if_eq (tgt := 25) (pc := 17) hx hb dM_format_17 (by decide) (fun h2 => ?_) (fun h2 => ?_)
    · skip
      refine lv_sipush (v := 1023) (pc := 25) hx hb dM_format_25 (by decide) ?_
      refine mo_p_bias (pc := 28) hx hb hts hown hw hS w_371 dM_format_28 (fun H locs hw hS => ?_)
      have he9 := (show (53, 1023) = C_M_format z1 from by rw [C_M_format, if_pos h1])
      exact hret _ _ _ _ _ (by rw [← he9]) hw hS dM_format_31
    · exact absurd h1 (fun q => h2 ((bI_0 _).2 q))
  · skip
    have h1 : ¬ (z1 = false) := fun q => h1 ((bI_0 _).2 q)
    refine lv_bipush (v := 24) (pc := 5) hx hb dM_format_5 (by decide) ?_
    refine lv_goto (tgt := 12) (pc := 7) hx hb dM_format_7 (by decide) ?_
    refine mo_p_precision (pc := 12) hx hb hts hown hw hS w_370 dM_format_12 (fun H locs hw hS => ?_)
    refine lv_aload_n (pc := 15) hx hb dM_format_15 rfl (lv_at hl 0 rfl) ?_
    refine lv_iload_n (pc := 16) hx hb dM_format_16 rfl (lv_at hl 1 rfl) ?_
    refine lv_if_eq (tgt := 25) (pc := 17) hx hb dM_format_17 (by decide) (fun h3 => ?_) (fun h3 => ?_)
    · exact absurd ((bI_0 _).1 h3) h1
    · skip
      refine lv_bipush (v := 127) (pc := 20) hx hb dM_format_20 (by decide) ?_
      refine lv_goto (tgt := 28) (pc := 22) hx hb dM_format_22 (by decide) ?_
      refine mo_p_bias (pc := 28) hx hb hts hown hw hS w_371 dM_format_28 (fun H locs hw hS => ?_)
      have he9 := (show (24, 127) = C_M_format z1 from by rw [C_M_format, if_neg h1])
      exact hret _ _ _ _ _ (by rw [← he9]) hw hS dM_format_31
def C_M_made (pr : Int32) (k1 : Int32) (x2 : Int64) (x3 : Int64) : Int64 :=
  if pr = 24 then
    ((jShl k1.toInt64 (pr + 7)) ||| (jShl x2 (pr - 1))) ||| x3
  else
    ((jShl k1.toInt64 (pr + 10)) ||| (jShl x2 (pr - 1))) ||| x3
abbrev rmM_made : Room := { frames := 0, cells := 0, slots := 0, locals := 0 }
theorem cwM_made {R : Room} {s : State} {args : Array Value} {w0 : Cond} {own : String} {idx : Nat} (hts : ∀ w ∈ (w0 :: bigW), w.before args s = true) (hl : Cond.methodLink own idx yM_made ∈ bigW) (hR : rmM_made.frames + 1 ≤ R.frames ∧ 8 + (6 + 11) + rmM_made.locals ≤ R.locals) : CallW R s args own "FloatUnitModel" idx yM_made cM_made 6 (some .long) (wsM yM_made cM_made 6 (some .long)) rmM_made 0 0 3 :=
  cwV 3 hts (big_V hl w_455 sel_M_made w_2 w_456) rfl rfl rfl ⟨rfl, by decide, by decide, by decide +kernel⟩ hR
set_option maxRecDepth 100000 in
set_option maxHeartbeats 8000000 in
theorem c_M_made (l : Launch) (D : va_G) (cI cL : ClassId) (m0 ra rb rc : Nat) (md fl er kx ky sx sy px py : Int32) (fx fy : Int64) (pr bi : Int32) (row oth : Nat → Int32) (rg : Nat → Int64) (k1 : Int32) (x2 : Int64) (x3 : Int64) : MoM l D cI cL m0 ra rb rc yM_made (wsM yM_made cM_made 6 (some .long)) rmM_made [.int k1, .long x2, .long x3] ((md, fl, er, kx, ky, sx, sy, px, py), (fx, fy), (pr, bi), row, oth, rg) (some (.long (C_M_made pr k1 x2 x3))) ((md, fl, er, kx, ky, sx, sy, px, py), (fx, fy), (pr, bi), row, oth, rg) := by
  refine mo_ofL (cc := cM_made) (maxL := 6) (by decide) rfl (Nat.le_of_ble_eq_true rfl) ?_
  intro p e s m args below meth c Q hx hb hml hown hts H locs hS hw hret ls hl
  have hl : lv_has ls 6 [(0, .ref m0), (1, .int k1), (2, .long x2), (4, .long x3)] := hl
  refine lv_iload_n (pc := 0) hx hb dM_made_0 rfl (lv_at hl 1 rfl) ?_
  refine lv_i2l (v := k1.toInt64) (pc := 1) hx hb dM_made_1 rfl ?_
  refine lv_aload_n (pc := 2) hx hb dM_made_2 rfl (lv_at hl 0 rfl) ?_
  refine mo_g_precision (pc := 3) hx hb hts hown hw w_370 dM_made_3 ?_
  refine lv_aload_n (pc := 6) hx hb dM_made_6 rfl (lv_at hl 0 rfl) ?_
  refine mo_g_precision (pc := 7) hx hb hts hown hw w_370 dM_made_7 ?_
  refine lv_bipush (v := 24) (pc := 10) hx hb dM_made_10 (by decide) ?_
  refine lv_icmp_ne (tgt := 20) (pc := 12) hx hb dM_made_12 (by decide) (fun h1 => ?_) (fun h1 => ?_)
  · skip
    refine lv_bipush (v := 10) (pc := 20) hx hb dM_made_20 (by decide) ?_
    refine lv_iadd (pc := 22) hx hb dM_made_22 ?_
    refine lv_lshl (v := jShl k1.toInt64 (pr + 10)) (pc := 23) hx hb dM_made_23 rfl ?_
    refine lv_lload_n (pc := 24) hx hb dM_made_24 rfl (lv_at hl 2 rfl) ?_
    refine lv_aload_n (pc := 25) hx hb dM_made_25 rfl (lv_at hl 0 rfl) ?_
    refine mo_g_precision (pc := 26) hx hb hts hown hw w_370 dM_made_26 ?_
    refine lv_iconst (v := 1) (pc := 29) hx hb dM_made_29 (by decide) ?_
    refine lv_isub (pc := 30) hx hb dM_made_30 ?_
    refine lv_lshl (v := jShl x2 (pr - 1)) (pc := 31) hx hb dM_made_31 rfl ?_
    refine lv_lor (pc := 32) hx hb dM_made_32 ?_
    refine lv_lload (pc := 33) hx hb dM_made_33 (lv_at hl 3 rfl) ?_
    refine lv_lor (pc := 35) hx hb dM_made_35 ?_
    have he9 := (show ((jShl k1.toInt64 (pr + 10)) ||| (jShl x2 (pr - 1))) ||| x3 = C_M_made pr k1 x2 x3 from by rw [C_M_made, if_neg h1])
    exact hret _ _ _ _ _ _ he9 rfl hw hS dM_made_36
  · skip
    refine lv_bipush (v := 7) (pc := 15) hx hb dM_made_15 (by decide) ?_
    refine lv_goto (tgt := 22) (pc := 17) hx hb dM_made_17 (by decide) ?_
    refine lv_iadd (pc := 22) hx hb dM_made_22 ?_
    refine lv_lshl (v := jShl k1.toInt64 (pr + 7)) (pc := 23) hx hb dM_made_23 rfl ?_
    refine lv_lload_n (pc := 24) hx hb dM_made_24 rfl (lv_at hl 2 rfl) ?_
    refine lv_aload_n (pc := 25) hx hb dM_made_25 rfl (lv_at hl 0 rfl) ?_
    refine mo_g_precision (pc := 26) hx hb hts hown hw w_370 dM_made_26 ?_
    refine lv_iconst (v := 1) (pc := 29) hx hb dM_made_29 (by decide) ?_
    refine lv_isub (pc := 30) hx hb dM_made_30 ?_
    refine lv_lshl (v := jShl x2 (pr - 1)) (pc := 31) hx hb dM_made_31 rfl ?_
    refine lv_lor (pc := 32) hx hb dM_made_32 ?_
    refine lv_lload (pc := 33) hx hb dM_made_33 (lv_at hl 3 rfl) ?_
    refine lv_lor (pc := 35) hx hb dM_made_35 ?_
    have he9 := (show ((jShl k1.toInt64 (pr + 7)) ||| (jShl x2 (pr - 1))) ||| x3 = C_M_made pr k1 x2 x3 from by rw [C_M_made, if_pos h1])
    exact hret _ _ _ _ _ _ he9 rfl hw hS dM_made_36
def C_M_none (pr : Int32) (bi : Int32) : Int64 :=
  C_M_made pr 0 (((2 * bi) + 1).toInt64) (jShl 1 (pr - 2))
abbrev rmM_none : Room := { frames := 1, cells := 0, slots := 0, locals := 25 }
theorem cwM_none {R : Room} {s : State} {args : Array Value} {w0 : Cond} {own : String} {idx : Nat} (hts : ∀ w ∈ (w0 :: bigW), w.before args s = true) (hl : Cond.methodLink own idx yM_none ∈ bigW) (hR : rmM_none.frames + 1 ≤ R.frames ∧ 8 + (1 + 11) + rmM_none.locals ≤ R.locals) : CallW R s args own "FloatUnitModel" idx yM_none cM_none 1 (some .long) (wsM yM_none cM_none 1 (some .long)) rmM_none 0 0 0 :=
  cwV 0 hts (big_V hl w_451 sel_M_none w_2 w_452) rfl rfl rfl ⟨rfl, by decide, by decide, by decide +kernel⟩ hR
set_option maxRecDepth 100000 in
set_option maxHeartbeats 8000000 in
theorem c_M_none (l : Launch) (D : va_G) (cI cL : ClassId) (m0 ra rb rc : Nat) (md fl er kx ky sx sy px py : Int32) (fx fy : Int64) (pr bi : Int32) (row oth : Nat → Int32) (rg : Nat → Int64) : MoM l D cI cL m0 ra rb rc yM_none (wsM yM_none cM_none 1 (some .long)) rmM_none [] ((md, fl, er, kx, ky, sx, sy, px, py), (fx, fy), (pr, bi), row, oth, rg) (some (.long (C_M_none pr bi))) ((md, fl, er, kx, ky, sx, sy, px, py), (fx, fy), (pr, bi), row, oth, rg) := by
  refine mo_ofL (cc := cM_none) (maxL := 1) (by decide) rfl (Nat.le_of_ble_eq_true rfl) ?_
  intro p e s m args below meth c Q hx hb hml hown hts H locs hS hw hret ls hl
  have hl : lv_has ls 1 [(0, .ref m0)] := hl
  refine lv_aload_n (pc := 0) hx hb dM_none_0 rfl (lv_at hl 0 rfl) ?_
  refine lv_iconst (v := 0) (pc := 1) hx hb dM_none_1 (by decide) ?_
  refine lv_iconst (v := 2) (pc := 2) hx hb dM_none_2 (by decide) ?_
  refine lv_aload_n (pc := 3) hx hb dM_none_3 rfl (lv_at hl 0 rfl) ?_
  refine mo_g_bias (pc := 4) hx hb hts hown hw w_371 dM_none_4 ?_
  refine lv_imul (pc := 7) hx hb dM_none_7 ?_
  refine lv_iconst (v := 1) (pc := 8) hx hb dM_none_8 (by decide) ?_
  refine lv_iadd (pc := 9) hx hb dM_none_9 ?_
  refine lv_i2l (v := ((2 * bi) + 1).toInt64) (pc := 10) hx hb dM_none_10 rfl ?_
  refine lv_lconst (v := 1) (pc := 11) hx hb dM_none_11 (by decide) ?_
  refine lv_aload_n (pc := 12) hx hb dM_none_12 rfl (lv_at hl 0 rfl) ?_
  refine mo_g_precision (pc := 13) hx hb hts hown hw w_370 dM_none_13 ?_
  refine lv_iconst (v := 2) (pc := 16) hx hb dM_none_16 (by decide) ?_
  refine lv_isub (pc := 17) hx hb dM_none_17 ?_
  refine lv_lshl (v := jShl 1 (pr - 2)) (pc := 18) hx hb dM_none_18 rfl ?_
  refine mo_V (pc := 19) (rest := []) ⟨hx, hb, hml, hown, hts⟩ (c_M_made l D cI cL m0 ra rb rc md fl er kx ky sx sy px py fx fy pr bi row oth rg 0 (((2 * bi) + 1).toInt64) (jShl 1 (pr - 2))) (cwM_made hts w_453 ⟨by decide, by decide⟩) hw hS rfl hl.1 rfl (Nat.le_of_ble_eq_true rfl) dM_none_19 ⟨Nat.zero_le _, Nat.zero_le _⟩ (fun H locs hw hS => ?_)
  refine W.eq (g2 := F0 m 22 ls [.long (C_M_made pr 0 (((2 * bi) + 1).toInt64) (jShl 1 (pr - 2)))]) rfl ?_
  have he9 := (show C_M_made pr 0 (((2 * bi) + 1).toInt64) (jShl 1 (pr - 2)) = C_M_none pr bi from by rw [C_M_none])
  exact hret _ _ _ _ _ _ he9 rfl hw hS dM_none_22
def C_M_endless (pr : Int32) (bi : Int32) (k1 : Int32) : Int64 :=
  C_M_made pr k1 (((2 * bi) + 1).toInt64) 0
abbrev rmM_endless : Room := { frames := 1, cells := 0, slots := 0, locals := 25 }
theorem cwM_endless {R : Room} {s : State} {args : Array Value} {w0 : Cond} {own : String} {idx : Nat} (hts : ∀ w ∈ (w0 :: bigW), w.before args s = true) (hl : Cond.methodLink own idx yM_endless ∈ bigW) (hR : rmM_endless.frames + 1 ≤ R.frames ∧ 8 + (2 + 11) + rmM_endless.locals ≤ R.locals) : CallW R s args own "FloatUnitModel" idx yM_endless cM_endless 2 (some .long) (wsM yM_endless cM_endless 2 (some .long)) rmM_endless 0 0 1 :=
  cwV 1 hts (big_V hl w_467 sel_M_endless w_2 w_468) rfl rfl rfl ⟨rfl, by decide, by decide, by decide +kernel⟩ hR
set_option maxRecDepth 100000 in
set_option maxHeartbeats 8000000 in
theorem c_M_endless (l : Launch) (D : va_G) (cI cL : ClassId) (m0 ra rb rc : Nat) (md fl er kx ky sx sy px py : Int32) (fx fy : Int64) (pr bi : Int32) (row oth : Nat → Int32) (rg : Nat → Int64) (k1 : Int32) : MoM l D cI cL m0 ra rb rc yM_endless (wsM yM_endless cM_endless 2 (some .long)) rmM_endless [.int k1] ((md, fl, er, kx, ky, sx, sy, px, py), (fx, fy), (pr, bi), row, oth, rg) (some (.long (C_M_endless pr bi k1))) ((md, fl, er, kx, ky, sx, sy, px, py), (fx, fy), (pr, bi), row, oth, rg) := by
  refine mo_ofL (cc := cM_endless) (maxL := 2) (by decide) rfl (Nat.le_of_ble_eq_true rfl) ?_
  intro p e s m args below meth c Q hx hb hml hown hts H locs hS hw hret ls hl
  have hl : lv_has ls 2 [(0, .ref m0), (1, .int k1)] := hl
  refine lv_aload_n (pc := 0) hx hb dM_endless_0 rfl (lv_at hl 0 rfl) ?_
  refine lv_iload_n (pc := 1) hx hb dM_endless_1 rfl (lv_at hl 1 rfl) ?_
  refine lv_iconst (v := 2) (pc := 2) hx hb dM_endless_2 (by decide) ?_
  refine lv_aload_n (pc := 3) hx hb dM_endless_3 rfl (lv_at hl 0 rfl) ?_
  refine mo_g_bias (pc := 4) hx hb hts hown hw w_371 dM_endless_4 ?_
  refine lv_imul (pc := 7) hx hb dM_endless_7 ?_
  refine lv_iconst (v := 1) (pc := 8) hx hb dM_endless_8 (by decide) ?_
  refine lv_iadd (pc := 9) hx hb dM_endless_9 ?_
  refine lv_i2l (v := ((2 * bi) + 1).toInt64) (pc := 10) hx hb dM_endless_10 rfl ?_
  refine lv_lconst (v := 0) (pc := 11) hx hb dM_endless_11 (by decide) ?_
  refine mo_V (pc := 12) (rest := []) ⟨hx, hb, hml, hown, hts⟩ (c_M_made l D cI cL m0 ra rb rc md fl er kx ky sx sy px py fx fy pr bi row oth rg k1 (((2 * bi) + 1).toInt64) 0) (cwM_made hts w_453 ⟨by decide, by decide⟩) hw hS rfl hl.1 rfl (Nat.le_of_ble_eq_true rfl) dM_endless_12 ⟨Nat.zero_le _, Nat.zero_le _⟩ (fun H locs hw hS => ?_)
  refine W.eq (g2 := F0 m 15 ls [.long (C_M_made pr k1 (((2 * bi) + 1).toInt64) 0)]) rfl ?_
  have he9 := (show C_M_made pr k1 (((2 * bi) + 1).toInt64) 0 = C_M_endless pr bi k1 from by rw [C_M_endless])
  exact hret _ _ _ _ _ _ he9 rfl hw hS dM_endless_15
def C_M_invalid (fl : Int32) (pr : Int32) (bi : Int32) : Int64 × Int32 :=
  (C_M_none pr bi, fl ||| 16)
abbrev rmM_invalid : Room := { frames := 2, cells := 0, slots := 0, locals := 45 }
theorem cwM_invalid {R : Room} {s : State} {args : Array Value} {w0 : Cond} {own : String} {idx : Nat} (hts : ∀ w ∈ (w0 :: bigW), w.before args s = true) (hl : Cond.methodLink own idx yM_invalid ∈ bigW) (hR : rmM_invalid.frames + 1 ≤ R.frames ∧ 8 + (1 + 11) + rmM_invalid.locals ≤ R.locals) : CallW R s args own "FloatUnitModel" idx yM_invalid cM_invalid 1 (some .long) (wsM yM_invalid cM_invalid 1 (some .long)) rmM_invalid 0 0 0 :=
  cwV 0 hts (big_V hl w_463 sel_M_invalid w_2 w_464) rfl rfl rfl ⟨rfl, by decide, by decide, by decide +kernel⟩ hR
set_option maxRecDepth 100000 in
set_option maxHeartbeats 8000000 in
theorem c_M_invalid (l : Launch) (D : va_G) (cI cL : ClassId) (m0 ra rb rc : Nat) (md fl er kx ky sx sy px py : Int32) (fx fy : Int64) (pr bi : Int32) (row oth : Nat → Int32) (rg : Nat → Int64) : MoM l D cI cL m0 ra rb rc yM_invalid (wsM yM_invalid cM_invalid 1 (some .long)) rmM_invalid [] ((md, fl, er, kx, ky, sx, sy, px, py), (fx, fy), (pr, bi), row, oth, rg) (some (.long ((C_M_invalid fl pr bi).1))) ((md, ((C_M_invalid fl pr bi).2), er, kx, ky, sx, sy, px, py), (fx, fy), (pr, bi), row, oth, rg) := by
  refine mo_ofL (cc := cM_invalid) (maxL := 1) (by decide) rfl (Nat.le_of_ble_eq_true rfl) ?_
  intro p e s m args below meth c Q hx hb hml hown hts H locs hS hw hret ls hl
  have hl : lv_has ls 1 [(0, .ref m0)] := hl
  refine lv_aload_n (pc := 0) hx hb dM_invalid_0 rfl (lv_at hl 0 rfl) ?_
  refine lv_dup (pc := 1) hx hb dM_invalid_1 rfl ?_
  refine mo_g_flags (pc := 2) hx hb hts hown hw w_360 dM_invalid_2 ?_
  refine lv_bipush (v := 16) (pc := 5) hx hb dM_invalid_5 (by decide) ?_
  refine lv_ior (pc := 7) hx hb dM_invalid_7 ?_
  refine mo_p_flags (pc := 8) hx hb hts hown hw hS w_360 dM_invalid_8 (fun H locs hw hS => ?_)
  refine lv_aload_n (pc := 11) hx hb dM_invalid_11 rfl (lv_at hl 0 rfl) ?_
  refine mo_V (pc := 12) (rest := []) ⟨hx, hb, hml, hown, hts⟩ (c_M_none l D cI cL m0 ra rb rc md (fl ||| 16) er kx ky sx sy px py fx fy pr bi row oth rg ) (cwM_none hts w_449 ⟨by decide, by decide⟩) hw hS rfl hl.1 rfl (Nat.le_of_ble_eq_true rfl) dM_invalid_12 ⟨Nat.zero_le _, Nat.zero_le _⟩ (fun H locs hw hS => ?_)
  refine W.eq (g2 := F0 m 15 ls [.long (C_M_none pr bi)]) rfl ?_
  have he9 := (show (C_M_none pr bi, fl ||| 16) = C_M_invalid fl pr bi from by rw [C_M_invalid])
  exact hret _ _ _ _ _ _ (congrArg Prod.fst he9) (by rw [← he9]) hw hS dM_invalid_15
def C_M_take_130 (kx9 : Int32) (sx9 : Int32) (pr : Int32) (bi : Int32) (u5 : Int32) (v1 : Int64) : Int32 × Int32 × Int32 × Int64 :=
  if u5 = 0 then
    (kx9, sx9, (1 - bi) - (pr - 1), v1)
  else
    (kx9, sx9, (u5 - bi) - (pr - 1), v1)
def C_M_take_105 (sx9 : Int32) (pr : Int32) (bi : Int32) (u5 : Int32) (u6 : Int64) (v1 : Int32) : Int32 × Int32 × Int32 × Int64 :=
  if u5 = 0 then
    C_M_take_130 v1 sx9 pr bi u5 u6
  else
    C_M_take_130 v1 sx9 pr bi u5 (u6 + (jShl 1 (pr - 1)))
def C_M_take_23 (pr : Int32) (bi : Int32) (u2 : Int64) (u4 : Int32) : Int32 × Int32 × Int32 × Int64 :=
  if ((2 * bi) + 1) ≤ (((jUshr u2 (pr - 1)).toInt32) &&& (((1 : Int32) <<< (u4 &&& 31)) - 1)) then
    if (u2 &&& ((jShl 1 (pr - 1)) - 1)) = 0 then
      C_M_take_105 (((jUshr u2 ((pr - 1) + u4)).toInt32) &&& 1) pr bi (((jUshr u2 (pr - 1)).toInt32) &&& (((1 : Int32) <<< (u4 &&& 31)) - 1)) (u2 &&& ((jShl 1 (pr - 1)) - 1)) 1
    else
      C_M_take_105 (((jUshr u2 ((pr - 1) + u4)).toInt32) &&& 1) pr bi (((jUshr u2 (pr - 1)).toInt32) &&& (((1 : Int32) <<< (u4 &&& 31)) - 1)) (u2 &&& ((jShl 1 (pr - 1)) - 1)) 0
  else
    C_M_take_105 (((jUshr u2 ((pr - 1) + u4)).toInt32) &&& 1) pr bi (((jUshr u2 (pr - 1)).toInt32) &&& (((1 : Int32) <<< (u4 &&& 31)) - 1)) (u2 &&& ((jShl 1 (pr - 1)) - 1)) 2
def C_M_take (pr : Int32) (bi : Int32) (rg : Nat → Int64) (k1 : Int32) : Int32 × Int32 × Int32 × Int64 :=
  if pr = 24 then
    C_M_take_23 pr bi (rg k1.toNatClampNeg) 8
  else
    C_M_take_23 pr bi (rg k1.toNatClampNeg) 11
abbrev rmM_take : Room := { frames := 0, cells := 0, slots := 0, locals := 0 }
theorem cwM_take {R : Room} {s : State} {args : Array Value} {w0 : Cond} {own : String} {idx : Nat} (hts : ∀ w ∈ (w0 :: bigW), w.before args s = true) (hl : Cond.methodLink own idx yM_take ∈ bigW) (hR : rmM_take.frames + 1 ≤ R.frames ∧ 8 + (8 + 11) + rmM_take.locals ≤ R.locals) : CallW R s args own "FloatUnitModel" idx yM_take cM_take 8 none (wsM yM_take cM_take 8 none) rmM_take 0 0 1 :=
  cwV 1 hts (big_V hl w_447 sel_M_take w_2 w_448) rfl rfl rfl ⟨rfl, by decide, by decide, by decide +kernel⟩ hR
set_option maxRecDepth 100000 in
set_option maxHeartbeats 8000000 in
theorem c_M_take (l : Launch) (D : va_G) (cI cL : ClassId) (m0 ra rb rc : Nat) (md fl er kx ky sx sy px py : Int32) (fx fy : Int64) (pr bi : Int32) (row oth : Nat → Int32) (rg : Nat → Int64) (k1 : Int32) (h_k1 : vp_in k1 16) : MoM l D cI cL m0 ra rb rc yM_take (wsM yM_take cM_take 8 none) rmM_take [.int k1] ((md, fl, er, kx, ky, sx, sy, px, py), (fx, fy), (pr, bi), row, oth, rg) none ((md, fl, er, ((C_M_take pr bi rg k1).1), ky, ((C_M_take pr bi rg k1).2.1), sy, ((C_M_take pr bi rg k1).2.2.1), py), (((C_M_take pr bi rg k1).2.2.2), fy), (pr, bi), row, oth, rg) := by
  refine mo_ofV (cc := cM_take) (maxL := 8) (by decide) rfl (Nat.le_of_ble_eq_true rfl) ?_
  intro p e s m args below meth c Q hx hb hml hown hts H locs hS hw hret ls hl
  have hl : lv_has ls 8 [(0, .ref m0), (1, .int k1)] := hl
  have J130 : ∀ (kx9 : Int32) (sx9 : Int32) (px9 : Int32) (fx9 : Int64) (u5 : Int32) (v1 : Int64) (ls : Array Slot) (H : Heap) (locs : List Loc), lv_has ls 8 [(0, .ref m0), (5, .int u5)] → MOw D cI cL m0 ra rb rc ((md, fl, er, kx9, ky, sx9, sy, px9, py), (fx9, fy), (pr, bi), row, oth, rg) s H → va_S (mA m0 ra rb rc) s.heap H locs → C_M_take_130 kx9 sx9 pr bi u5 v1 = C_M_take pr bi rg k1 → W p l e rmM_take s m args below meth c H locs 0 0 Q (F0 m 130 ls [.long v1, .ref m0]) := by
    intro kx9 sx9 px9 fx9 u5 v1 ls H locs hl hw hS he
    refine mo_p_partX (pc := 130) hx hb hts hown hw hS w_368 dM_take_130 (fun H locs hw hS => ?_)
    refine lv_aload_n (pc := 133) hx hb dM_take_133 rfl (lv_at hl 0 rfl) ?_
    refine lv_iload (pc := 134) hx hb dM_take_134 (lv_at hl 1 rfl) ?_
    refine lv_if_ne (tgt := 143) (pc := 136) hx hb dM_take_136 (by decide) (fun h301 => ?_) (fun h301 => ?_)
    · skip
      refine lv_iload (pc := 143) hx hb dM_take_143 (lv_at hl 1 rfl) ?_
      refine lv_aload_n (pc := 145) hx hb dM_take_145 rfl (lv_at hl 0 rfl) ?_
      refine mo_g_bias (pc := 146) hx hb hts hown hw w_371 dM_take_146 ?_
      refine lv_isub (pc := 149) hx hb dM_take_149 ?_
      refine lv_aload_n (pc := 150) hx hb dM_take_150 rfl (lv_at hl 0 rfl) ?_
      refine mo_g_precision (pc := 151) hx hb hts hown hw w_370 dM_take_151 ?_
      refine lv_iconst (v := 1) (pc := 154) hx hb dM_take_154 (by decide) ?_
      refine lv_isub (pc := 155) hx hb dM_take_155 ?_
      refine lv_isub (pc := 156) hx hb dM_take_156 ?_
      refine mo_p_powerX (pc := 157) hx hb hts hown hw hS w_366 dM_take_157 (fun H locs hw hS => ?_)
      have he9 := (show (kx9, sx9, (u5 - bi) - (pr - 1), v1) = C_M_take_130 kx9 sx9 pr bi u5 v1 from by rw [C_M_take_130, if_neg h301]).trans he
      exact hret _ _ _ _ _ (by rw [← he9]) hw hS dM_take_160
    · skip
      refine lv_iconst (v := 1) (pc := 139) hx hb dM_take_139 (by decide) ?_
      refine lv_goto (tgt := 145) (pc := 140) hx hb dM_take_140 (by decide) ?_
      refine lv_aload_n (pc := 145) hx hb dM_take_145 rfl (lv_at hl 0 rfl) ?_
      refine mo_g_bias (pc := 146) hx hb hts hown hw w_371 dM_take_146 ?_
      refine lv_isub (pc := 149) hx hb dM_take_149 ?_
      refine lv_aload_n (pc := 150) hx hb dM_take_150 rfl (lv_at hl 0 rfl) ?_
      refine mo_g_precision (pc := 151) hx hb hts hown hw w_370 dM_take_151 ?_
      refine lv_iconst (v := 1) (pc := 154) hx hb dM_take_154 (by decide) ?_
      refine lv_isub (pc := 155) hx hb dM_take_155 ?_
      refine lv_isub (pc := 156) hx hb dM_take_156 ?_
      refine mo_p_powerX (pc := 157) hx hb hts hown hw hS w_366 dM_take_157 (fun H locs hw hS => ?_)
      have he9 := (show (kx9, sx9, (1 - bi) - (pr - 1), v1) = C_M_take_130 kx9 sx9 pr bi u5 v1 from by rw [C_M_take_130, if_pos h301]).trans he
      exact hret _ _ _ _ _ (by rw [← he9]) hw hS dM_take_160
  have J105 : ∀ (kx9 : Int32) (sx9 : Int32) (px9 : Int32) (fx9 : Int64) (u5 : Int32) (u6 : Int64) (v1 : Int32) (ls : Array Slot) (H : Heap) (locs : List Loc), lv_has ls 8 [(0, .ref m0), (5, .int u5), (6, .long u6)] → MOw D cI cL m0 ra rb rc ((md, fl, er, kx9, ky, sx9, sy, px9, py), (fx9, fy), (pr, bi), row, oth, rg) s H → va_S (mA m0 ra rb rc) s.heap H locs → C_M_take_105 sx9 pr bi u5 u6 v1 = C_M_take pr bi rg k1 → W p l e rmM_take s m args below meth c H locs 0 0 Q (F0 m 105 ls [.int v1, .ref m0]) := by
    intro kx9 sx9 px9 fx9 u5 u6 v1 ls H locs hl hw hS he
    refine mo_p_kindX (pc := 105) hx hb hts hown hw hS w_362 dM_take_105 (fun H locs hw hS => ?_)
    refine lv_aload_n (pc := 108) hx hb dM_take_108 rfl (lv_at hl 0 rfl) ?_
    refine lv_iload (pc := 109) hx hb dM_take_109 (lv_at hl 1 rfl) ?_
    refine lv_if_ne (tgt := 119) (pc := 111) hx hb dM_take_111 (by decide) (fun h201 => ?_) (fun h201 => ?_)
    · skip
      refine lv_lload (pc := 119) hx hb dM_take_119 (lv_at hl 2 rfl) ?_
      refine lv_lconst (v := 1) (pc := 121) hx hb dM_take_121 (by decide) ?_
      refine lv_aload_n (pc := 122) hx hb dM_take_122 rfl (lv_at hl 0 rfl) ?_
      refine mo_g_precision (pc := 123) hx hb hts hown hw w_370 dM_take_123 ?_
      refine lv_iconst (v := 1) (pc := 126) hx hb dM_take_126 (by decide) ?_
      refine lv_isub (pc := 127) hx hb dM_take_127 ?_
      refine lv_lshl (v := jShl 1 (pr - 1)) (pc := 128) hx hb dM_take_128 rfl ?_
      refine lv_ladd (pc := 129) hx hb dM_take_129 ?_
      exact J130 v1 sx9 px9 fx9 u5 (u6 + (jShl 1 (pr - 1))) ls _ _ (lv_sub hl [0, 1] rfl) hw hS ((show C_M_take_130 v1 sx9 pr bi u5 (u6 + (jShl 1 (pr - 1))) = C_M_take_105 sx9 pr bi u5 u6 v1 from by rw [C_M_take_105, if_neg h201]).trans he)
    · skip
      refine lv_lload (pc := 114) hx hb dM_take_114 (lv_at hl 2 rfl) ?_
      refine lv_goto (tgt := 130) (pc := 116) hx hb dM_take_116 (by decide) ?_
      exact J130 v1 sx9 px9 fx9 u5 u6 ls _ _ (lv_sub hl [0, 1] rfl) hw hS ((show C_M_take_130 v1 sx9 pr bi u5 u6 = C_M_take_105 sx9 pr bi u5 u6 v1 from by rw [C_M_take_105, if_pos h201]).trans he)
  have J23 : ∀ (kx9 : Int32) (sx9 : Int32) (px9 : Int32) (fx9 : Int64) (u2 : Int64) (u4 : Int32) (ls : Array Slot) (H : Heap) (locs : List Loc), lv_has ls 8 [(0, .ref m0), (2, .long u2)] → MOw D cI cL m0 ra rb rc ((md, fl, er, kx9, ky, sx9, sy, px9, py), (fx9, fy), (pr, bi), row, oth, rg) s H → va_S (mA m0 ra rb rc) s.heap H locs → C_M_take_23 pr bi u2 u4 = C_M_take pr bi rg k1 → W p l e rmM_take s m args below meth c H locs 0 0 Q (F0 m 23 ls [.int u4]) := by
    intro kx9 sx9 px9 fx9 u2 u4 ls H locs hl hw hS he
    refine lv_istore (lv' := [(4, .int u4), (0, .ref m0), (2, .long u2)]) (pc := 23) hx hb dM_take_23 hl (by decide) rfl (fun ls hl => ?_)
    refine lv_lload_n (pc := 25) hx hb dM_take_25 rfl (lv_at hl 2 rfl) ?_
    refine lv_aload_n (pc := 26) hx hb dM_take_26 rfl (lv_at hl 1 rfl) ?_
    refine mo_g_precision (pc := 27) hx hb hts hown hw w_370 dM_take_27 ?_
    refine lv_iconst (v := 1) (pc := 30) hx hb dM_take_30 (by decide) ?_
    refine lv_isub (pc := 31) hx hb dM_take_31 ?_
    refine lv_lushr (v := jUshr u2 (pr - 1)) (pc := 32) hx hb dM_take_32 rfl ?_
    refine lv_l2i (v := (jUshr u2 (pr - 1)).toInt32) (pc := 33) hx hb dM_take_33 rfl ?_
    refine lv_iconst (v := 1) (pc := 34) hx hb dM_take_34 (by decide) ?_
    refine lv_iload (pc := 35) hx hb dM_take_35 (lv_at hl 0 rfl) ?_
    refine lv_ishl (pc := 37) hx hb dM_take_37 ?_
    refine lv_iconst (v := 1) (pc := 38) hx hb dM_take_38 (by decide) ?_
    refine lv_isub (pc := 39) hx hb dM_take_39 ?_
    refine lv_iand (pc := 40) hx hb dM_take_40 ?_
    refine lv_istore (lv' := [(5, .int (((jUshr u2 (pr - 1)).toInt32) &&& (((1 : Int32) <<< (u4 &&& 31)) - 1))), (4, .int u4), (0, .ref m0), (2, .long u2)]) (pc := 41) hx hb dM_take_41 hl (by decide) rfl (fun ls hl => ?_)
    refine lv_lload_n (pc := 43) hx hb dM_take_43 rfl (lv_at hl 3 rfl) ?_
    refine lv_lconst (v := 1) (pc := 44) hx hb dM_take_44 (by decide) ?_
    refine lv_aload_n (pc := 45) hx hb dM_take_45 rfl (lv_at hl 2 rfl) ?_
    refine mo_g_precision (pc := 46) hx hb hts hown hw w_370 dM_take_46 ?_
    refine lv_iconst (v := 1) (pc := 49) hx hb dM_take_49 (by decide) ?_
    refine lv_isub (pc := 50) hx hb dM_take_50 ?_
    refine lv_lshl (v := jShl 1 (pr - 1)) (pc := 51) hx hb dM_take_51 rfl ?_
    refine lv_lconst (v := 1) (pc := 52) hx hb dM_take_52 (by decide) ?_
    refine lv_lsub (pc := 53) hx hb dM_take_53 ?_
    refine lv_land (pc := 54) hx hb dM_take_54 ?_
    refine lv_lstore (lv' := [(6, .long (u2 &&& ((jShl 1 (pr - 1)) - 1))), (5, .int (((jUshr u2 (pr - 1)).toInt32) &&& (((1 : Int32) <<< (u4 &&& 31)) - 1))), (4, .int u4), (0, .ref m0), (2, .long u2)]) (pc := 55) hx hb dM_take_55 hl (by decide) rfl (fun ls hl => ?_)
    refine lv_aload_n (pc := 57) hx hb dM_take_57 rfl (lv_at hl 3 rfl) ?_
    refine lv_lload_n (pc := 58) hx hb dM_take_58 rfl (lv_at hl 4 rfl) ?_
    refine lv_aload_n (pc := 59) hx hb dM_take_59 rfl (lv_at hl 3 rfl) ?_
    refine mo_g_precision (pc := 60) hx hb hts hown hw w_370 dM_take_60 ?_
    refine lv_iconst (v := 1) (pc := 63) hx hb dM_take_63 (by decide) ?_
    refine lv_isub (pc := 64) hx hb dM_take_64 ?_
    refine lv_iload (pc := 65) hx hb dM_take_65 (lv_at hl 2 rfl) ?_
    refine lv_iadd (pc := 67) hx hb dM_take_67 ?_
    refine lv_lushr (v := jUshr u2 ((pr - 1) + u4)) (pc := 68) hx hb dM_take_68 rfl ?_
    refine lv_l2i (v := (jUshr u2 ((pr - 1) + u4)).toInt32) (pc := 69) hx hb dM_take_69 rfl ?_
    refine lv_iconst (v := 1) (pc := 70) hx hb dM_take_70 (by decide) ?_
    refine lv_iand (pc := 71) hx hb dM_take_71 ?_
    refine mo_p_signX (pc := 72) hx hb hts hown hw hS w_364 dM_take_72 (fun H locs hw hS => ?_)
    refine lv_aload_n (pc := 75) hx hb dM_take_75 rfl (lv_at hl 3 rfl) ?_
    refine lv_iload (pc := 76) hx hb dM_take_76 (lv_at hl 1 rfl) ?_
    refine lv_iconst (v := 2) (pc := 78) hx hb dM_take_78 (by decide) ?_
    refine lv_aload_n (pc := 79) hx hb dM_take_79 rfl (lv_at hl 3 rfl) ?_
    refine mo_g_bias (pc := 80) hx hb hts hown hw w_371 dM_take_80 ?_
    refine lv_imul (pc := 83) hx hb dM_take_83 ?_
    refine lv_iconst (v := 1) (pc := 84) hx hb dM_take_84 (by decide) ?_
    refine lv_iadd (pc := 85) hx hb dM_take_85 ?_
    refine lv_icmp_ge (tgt := 93) (pc := 86) hx hb dM_take_86 (by decide) (fun h101 => ?_) (fun h101 => ?_)
    · skip
      refine lv_lload (pc := 93) hx hb dM_take_93 (lv_at hl 0 rfl) ?_
      refine lv_lconst (v := 0) (pc := 95) hx hb dM_take_95 (by decide) ?_
      refine W.lcmp (pc := 96) hx hb dM_take_96 ?_
      refine lv_if_ne (tgt := 104) (pc := 97) hx hb dM_take_97 (by decide) (fun h102 => ?_) (fun h102 => ?_)
      · skip
        have h102 : ¬ ((u2 &&& ((jShl 1 (pr - 1)) - 1)) = 0) := fun q => h102 ((lg_cmp_eq _ _).2 q)
        refine lv_iconst (v := 0) (pc := 104) hx hb dM_take_104 (by decide) ?_
        exact J105 kx9 (((jUshr u2 ((pr - 1) + u4)).toInt32) &&& 1) px9 fx9 (((jUshr u2 (pr - 1)).toInt32) &&& (((1 : Int32) <<< (u4 &&& 31)) - 1)) (u2 &&& ((jShl 1 (pr - 1)) - 1)) 0 ls _ _ (lv_sub hl [3, 1, 0] rfl) hw hS ((show C_M_take_105 (((jUshr u2 ((pr - 1) + u4)).toInt32) &&& 1) pr bi (((jUshr u2 (pr - 1)).toInt32) &&& (((1 : Int32) <<< (u4 &&& 31)) - 1)) (u2 &&& ((jShl 1 (pr - 1)) - 1)) 0 = C_M_take_23 pr bi u2 u4 from by rw [C_M_take_23, if_pos h101, if_neg h102]).trans he)
      · skip
        have h102 : (u2 &&& ((jShl 1 (pr - 1)) - 1)) = 0 := (lg_cmp_eq _ _).1 h102
        refine lv_iconst (v := 1) (pc := 100) hx hb dM_take_100 (by decide) ?_
        refine lv_goto (tgt := 105) (pc := 101) hx hb dM_take_101 (by decide) ?_
        exact J105 kx9 (((jUshr u2 ((pr - 1) + u4)).toInt32) &&& 1) px9 fx9 (((jUshr u2 (pr - 1)).toInt32) &&& (((1 : Int32) <<< (u4 &&& 31)) - 1)) (u2 &&& ((jShl 1 (pr - 1)) - 1)) 1 ls _ _ (lv_sub hl [3, 1, 0] rfl) hw hS ((show C_M_take_105 (((jUshr u2 ((pr - 1) + u4)).toInt32) &&& 1) pr bi (((jUshr u2 (pr - 1)).toInt32) &&& (((1 : Int32) <<< (u4 &&& 31)) - 1)) (u2 &&& ((jShl 1 (pr - 1)) - 1)) 1 = C_M_take_23 pr bi u2 u4 from by rw [C_M_take_23, if_pos h101, if_pos h102]).trans he)
    · skip
      refine lv_iconst (v := 2) (pc := 89) hx hb dM_take_89 (by decide) ?_
      refine lv_goto (tgt := 105) (pc := 90) hx hb dM_take_90 (by decide) ?_
      exact J105 kx9 (((jUshr u2 ((pr - 1) + u4)).toInt32) &&& 1) px9 fx9 (((jUshr u2 (pr - 1)).toInt32) &&& (((1 : Int32) <<< (u4 &&& 31)) - 1)) (u2 &&& ((jShl 1 (pr - 1)) - 1)) 2 ls _ _ (lv_sub hl [3, 1, 0] rfl) hw hS ((show C_M_take_105 (((jUshr u2 ((pr - 1) + u4)).toInt32) &&& 1) pr bi (((jUshr u2 (pr - 1)).toInt32) &&& (((1 : Int32) <<< (u4 &&& 31)) - 1)) (u2 &&& ((jShl 1 (pr - 1)) - 1)) 2 = C_M_take_23 pr bi u2 u4 from by rw [C_M_take_23, if_neg h101]).trans he)
  refine lv_aload_n (pc := 0) hx hb dM_take_0 rfl (lv_at hl 0 rfl) ?_
  refine mo_g_registers (pc := 1) hx hb hts hown hw w_358 dM_take_1 ?_
  refine lv_iload_n (pc := 4) hx hb dM_take_4 rfl (lv_at hl 1 rfl) ?_
  refine mo_ld (pc := 5) hx hb hw h_k1 dM_take_5 ?_
  refine lv_lstore_n (lv' := [(2, .long (rg k1.toNatClampNeg)), (0, .ref m0), (1, .int k1)]) (pc := 6) hx hb dM_take_6 rfl hl (by decide) rfl (fun ls hl => ?_)
  refine lv_aload_n (pc := 7) hx hb dM_take_7 rfl (lv_at hl 1 rfl) ?_
  refine mo_g_precision (pc := 8) hx hb hts hown hw w_370 dM_take_8 ?_
  refine lv_bipush (v := 24) (pc := 11) hx hb dM_take_11 (by decide) ?_
  refine lv_icmp_ne (tgt := 21) (pc := 13) hx hb dM_take_13 (by decide) (fun h1 => ?_) (fun h1 => ?_)
  · skip
    refine lv_bipush (v := 11) (pc := 21) hx hb dM_take_21 (by decide) ?_
    exact J23 kx sx px fx (rg k1.toNatClampNeg) 11 ls _ _ (lv_sub hl [1, 0] rfl) hw hS ((show C_M_take_23 pr bi (rg k1.toNatClampNeg) 11 = C_M_take pr bi rg k1 from by rw [C_M_take, if_neg h1]))
  · skip
    refine lv_bipush (v := 8) (pc := 16) hx hb dM_take_16 (by decide) ?_
    refine lv_goto (tgt := 23) (pc := 18) hx hb dM_take_18 (by decide) ?_
    exact J23 kx sx px fx (rg k1.toNatClampNeg) 8 ls _ _ (lv_sub hl [1, 0] rfl) hw hS ((show C_M_take_23 pr bi (rg k1.toNatClampNeg) 8 = C_M_take pr bi rg k1 from by rw [C_M_take, if_pos h1]))
def C_M_takeBoth (pr : Int32) (bi : Int32) (rg : Nat → Int64) (k1 : Int32) (k2 : Int32) : Int32 × Int32 × Int32 × Int32 × Int32 × Int32 × Int64 × Int64 :=
  ((C_M_take pr bi rg k1).1, (C_M_take pr bi rg k2).1, (C_M_take pr bi rg k1).2.1, (C_M_take pr bi rg k2).2.1, (C_M_take pr bi rg k1).2.2.1, (C_M_take pr bi rg k2).2.2.1, (C_M_take pr bi rg k1).2.2.2, (C_M_take pr bi rg k2).2.2.2)
abbrev rmM_takeBoth : Room := { frames := 1, cells := 0, slots := 0, locals := 27 }
theorem cwM_takeBoth {R : Room} {s : State} {args : Array Value} {w0 : Cond} {own : String} {idx : Nat} (hts : ∀ w ∈ (w0 :: bigW), w.before args s = true) (hl : Cond.methodLink own idx yM_takeBoth ∈ bigW) (hR : rmM_takeBoth.frames + 1 ≤ R.frames ∧ 8 + (3 + 11) + rmM_takeBoth.locals ≤ R.locals) : CallW R s args own "FloatUnitModel" idx yM_takeBoth cM_takeBoth 3 none (wsM yM_takeBoth cM_takeBoth 3 none) rmM_takeBoth 0 0 2 :=
  cwV 2 hts (big_V hl w_443 sel_M_takeBoth w_2 w_444) rfl rfl rfl ⟨rfl, by decide, by decide, by decide +kernel⟩ hR
set_option maxRecDepth 100000 in
set_option maxHeartbeats 8000000 in
theorem c_M_takeBoth (l : Launch) (D : va_G) (cI cL : ClassId) (m0 ra rb rc : Nat) (md fl er kx ky sx sy px py : Int32) (fx fy : Int64) (pr bi : Int32) (row oth : Nat → Int32) (rg : Nat → Int64) (k1 : Int32) (k2 : Int32) (h_k1 : vp_in k1 16) (h_k2 : vp_in k2 16) : MoM l D cI cL m0 ra rb rc yM_takeBoth (wsM yM_takeBoth cM_takeBoth 3 none) rmM_takeBoth [.int k1, .int k2] ((md, fl, er, kx, ky, sx, sy, px, py), (fx, fy), (pr, bi), row, oth, rg) none ((md, fl, er, ((C_M_takeBoth pr bi rg k1 k2).1), ((C_M_takeBoth pr bi rg k1 k2).2.1), ((C_M_takeBoth pr bi rg k1 k2).2.2.1), ((C_M_takeBoth pr bi rg k1 k2).2.2.2.1), ((C_M_takeBoth pr bi rg k1 k2).2.2.2.2.1), ((C_M_takeBoth pr bi rg k1 k2).2.2.2.2.2.1)), (((C_M_takeBoth pr bi rg k1 k2).2.2.2.2.2.2.1), ((C_M_takeBoth pr bi rg k1 k2).2.2.2.2.2.2.2)), (pr, bi), row, oth, rg) := by
  refine mo_ofV (cc := cM_takeBoth) (maxL := 3) (by decide) rfl (Nat.le_of_ble_eq_true rfl) ?_
  intro p e s m args below meth c Q hx hb hml hown hts H locs hS hw hret ls hl
  have hl : lv_has ls 3 [(0, .ref m0), (1, .int k1), (2, .int k2)] := hl
  refine lv_aload_n (pc := 0) hx hb dM_takeBoth_0 rfl (lv_at hl 0 rfl) ?_
  refine lv_iload_n (pc := 1) hx hb dM_takeBoth_1 rfl (lv_at hl 2 rfl) ?_
  refine mo_V (pc := 2) (rest := []) ⟨hx, hb, hml, hown, hts⟩ (c_M_take l D cI cL m0 ra rb rc md fl er kx ky sx sy px py fx fy pr bi row oth rg k2 h_k2) (cwM_take hts w_445 ⟨by decide, by decide⟩) hw hS rfl hl.1 rfl (Nat.le_of_ble_eq_true rfl) dM_takeBoth_2 ⟨Nat.zero_le _, Nat.zero_le _⟩ (fun H locs hw hS => ?_)
  refine W.eq (g2 := F0 m 5 ls []) rfl ?_
  refine lv_aload_n (pc := 5) hx hb dM_takeBoth_5 rfl (lv_at hl 0 rfl) ?_
  refine lv_aload_n (pc := 6) hx hb dM_takeBoth_6 rfl (lv_at hl 0 rfl) ?_
  refine mo_g_kindX (pc := 7) hx hb hts hown hw w_362 dM_takeBoth_7 ?_
  refine mo_p_kindY (pc := 10) hx hb hts hown hw hS w_363 dM_takeBoth_10 (fun H locs hw hS => ?_)
  refine lv_aload_n (pc := 13) hx hb dM_takeBoth_13 rfl (lv_at hl 0 rfl) ?_
  refine lv_aload_n (pc := 14) hx hb dM_takeBoth_14 rfl (lv_at hl 0 rfl) ?_
  refine mo_g_signX (pc := 15) hx hb hts hown hw w_364 dM_takeBoth_15 ?_
  refine mo_p_signY (pc := 18) hx hb hts hown hw hS w_365 dM_takeBoth_18 (fun H locs hw hS => ?_)
  refine lv_aload_n (pc := 21) hx hb dM_takeBoth_21 rfl (lv_at hl 0 rfl) ?_
  refine lv_aload_n (pc := 22) hx hb dM_takeBoth_22 rfl (lv_at hl 0 rfl) ?_
  refine mo_g_partX (pc := 23) hx hb hts hown hw w_368 dM_takeBoth_23 ?_
  refine mo_p_partY (pc := 26) hx hb hts hown hw hS w_369 dM_takeBoth_26 (fun H locs hw hS => ?_)
  refine lv_aload_n (pc := 29) hx hb dM_takeBoth_29 rfl (lv_at hl 0 rfl) ?_
  refine lv_aload_n (pc := 30) hx hb dM_takeBoth_30 rfl (lv_at hl 0 rfl) ?_
  refine mo_g_powerX (pc := 31) hx hb hts hown hw w_366 dM_takeBoth_31 ?_
  refine mo_p_powerY (pc := 34) hx hb hts hown hw hS w_367 dM_takeBoth_34 (fun H locs hw hS => ?_)
  refine lv_aload_n (pc := 37) hx hb dM_takeBoth_37 rfl (lv_at hl 0 rfl) ?_
  refine lv_iload_n (pc := 38) hx hb dM_takeBoth_38 rfl (lv_at hl 1 rfl) ?_
  refine mo_V (pc := 39) (rest := []) ⟨hx, hb, hml, hown, hts⟩ (c_M_take l D cI cL m0 ra rb rc md fl er ((C_M_take pr bi rg k2).1) ((C_M_take pr bi rg k2).1) ((C_M_take pr bi rg k2).2.1) ((C_M_take pr bi rg k2).2.1) ((C_M_take pr bi rg k2).2.2.1) ((C_M_take pr bi rg k2).2.2.1) ((C_M_take pr bi rg k2).2.2.2) ((C_M_take pr bi rg k2).2.2.2) pr bi row oth rg k1 h_k1) (cwM_take hts w_445 ⟨by decide, by decide⟩) hw hS rfl hl.1 rfl (Nat.le_of_ble_eq_true rfl) dM_takeBoth_39 ⟨Nat.zero_le _, Nat.zero_le _⟩ (fun H locs hw hS => ?_)
  refine W.eq (g2 := F0 m 42 ls []) rfl ?_
  have he9 := (show ((C_M_take pr bi rg k1).1, (C_M_take pr bi rg k2).1, (C_M_take pr bi rg k1).2.1, (C_M_take pr bi rg k2).2.1, (C_M_take pr bi rg k1).2.2.1, (C_M_take pr bi rg k2).2.2.1, (C_M_take pr bi rg k1).2.2.2, (C_M_take pr bi rg k2).2.2.2) = C_M_takeBoth pr bi rg k1 k2 from by rw [C_M_takeBoth])
  exact hret _ _ _ _ _ (by rw [← he9]) hw hS dM_takeBoth_42
def C_M_put (rg : Nat → Int64) (k1 : Int32) (x2 : Int64) : Int64 × Int32 × (Nat → Int64) :=
  if (C_M_in k1 15) = false then
    (0, bI true, rg)
  else
    (rg k1.toNatClampNeg, bI false, vp_updL rg k1.toNatClampNeg x2)
abbrev rmM_put : Room := { frames := 1, cells := 0, slots := 0, locals := 21 }
theorem cwM_put {R : Room} {s : State} {args : Array Value} {w0 : Cond} {own : String} {idx : Nat} (hts : ∀ w ∈ (w0 :: bigW), w.before args s = true) (hl : Cond.methodLink own idx yM_put ∈ bigW) (hR : rmM_put.frames + 1 ≤ R.frames ∧ 8 + (6 + 11) + rmM_put.locals ≤ R.locals) : CallW R s args own "FloatUnitModel" idx yM_put cM_put 6 (some .long) (wsM yM_put cM_put 6 (some .long)) rmM_put 0 0 2 :=
  cwV 2 hts (big_V hl w_411 w_412 w_2 w_413) rfl rfl rfl ⟨rfl, by decide, by decide, by decide +kernel⟩ hR
set_option maxRecDepth 100000 in
set_option maxHeartbeats 8000000 in
theorem c_M_put (l : Launch) (D : va_G) (cI cL : ClassId) (m0 ra rb rc : Nat) (md fl er kx ky sx sy px py : Int32) (fx fy : Int64) (pr bi : Int32) (row oth : Nat → Int32) (rg : Nat → Int64) (k1 : Int32) (x2 : Int64) : MoM l D cI cL m0 ra rb rc yM_put (wsM yM_put cM_put 6 (some .long)) rmM_put [.int k1, .long x2] ((md, fl, er, kx, ky, sx, sy, px, py), (fx, fy), (pr, bi), row, oth, rg) (some (.long ((C_M_put rg k1 x2).1))) ((md, fl, ((C_M_put rg k1 x2).2.1), kx, ky, sx, sy, px, py), (fx, fy), (pr, bi), row, oth, ((C_M_put rg k1 x2).2.2)) := by
  refine mo_ofL (cc := cM_put) (maxL := 6) (by decide) rfl (Nat.le_of_ble_eq_true rfl) ?_
  intro p e s m args below meth c Q hx hb hml hown hts H locs hS hw hret ls hl
  have hl : lv_has ls 6 [(0, .ref m0), (1, .int k1), (2, .long x2)] := hl
  refine lv_aload_n (pc := 0) hx hb dM_put_0 rfl (lv_at hl 0 rfl) ?_
  refine lv_iload_n (pc := 1) hx hb dM_put_1 rfl (lv_at hl 1 rfl) ?_
  refine lv_bipush (v := 15) (pc := 2) hx hb dM_put_2 (by decide) ?_
  refine ps_S (pc := 4) (rest := [.ref m0]) ⟨hx, hb, hml, hown, hts⟩ (c_M_in l k1 15) (cwM_in hts w_414 ⟨by decide, by decide⟩) rfl hl.1 rfl (Nat.le_of_ble_eq_true rfl) dM_put_4 ⟨Nat.zero_le _, Nat.zero_le _⟩ ?_
  refine lv_if_ne (tgt := 14) (pc := 7) hx hb dM_put_7 (by decide) (fun h1 => ?_) (fun h1 => ?_)
  · skip
    have h1 : ¬ ((C_M_in k1 15) = false) := fun q => h1 ((bI_0 _).2 q)
    refine lv_iconst (v := 0) (pc := 14) hx hb dM_put_14 (by decide) ?_
    refine mo_V (pc := 15) (rest := []) ⟨hx, hb, hml, hown, hts⟩ (c_M_fails l D cI cL m0 ra rb rc md fl er kx ky sx sy px py fx fy pr bi row oth rg false) (cwM_fails hts w_417 ⟨by decide, by decide⟩) hw hS rfl hl.1 rfl (Nat.le_of_ble_eq_true rfl) dM_put_15 ⟨Nat.zero_le _, Nat.zero_le _⟩ (fun H locs hw hS => ?_)
    refine W.eq (g2 := F0 m 18 ls [.int 0]) rfl ?_
    refine lv_if_eq (tgt := 23) (pc := 18) hx hb dM_put_18 (by decide) (fun h2 => ?_) (fun h2 => ?_)
    · skip
      refine lv_aload_n (pc := 23) hx hb dM_put_23 rfl (lv_at hl 0 rfl) ?_
      refine mo_g_registers (pc := 24) hx hb hts hown hw w_358 dM_put_24 ?_
      refine lv_iload_n (pc := 27) hx hb dM_put_27 rfl (lv_at hl 1 rfl) ?_
      refine mo_ld (pc := 28) hx hb hw (min_in h1) dM_put_28 ?_
      refine lv_lstore (lv' := [(4, .long (rg k1.toNatClampNeg)), (0, .ref m0), (1, .int k1), (2, .long x2)]) (pc := 29) hx hb dM_put_29 hl (by decide) rfl (fun ls hl => ?_)
      refine lv_aload_n (pc := 31) hx hb dM_put_31 rfl (lv_at hl 1 rfl) ?_
      refine mo_g_registers (pc := 32) hx hb hts hown hw w_358 dM_put_32 ?_
      refine lv_iload_n (pc := 35) hx hb dM_put_35 rfl (lv_at hl 2 rfl) ?_
      refine lv_lload_n (pc := 36) hx hb dM_put_36 rfl (lv_at hl 3 rfl) ?_
      refine mo_st (pc := 37) hx hb hw hS (min_in h1) dM_put_37 (fun H locs hw hS => ?_)
      refine lv_lload (pc := 38) hx hb dM_put_38 (lv_at hl 0 rfl) ?_
      have he9 := (show (rg k1.toNatClampNeg, bI false, vp_updL rg k1.toNatClampNeg x2) = C_M_put rg k1 x2 from by rw [C_M_put, if_neg h1])
      exact hret _ _ _ _ _ _ (congrArg Prod.fst he9) (by rw [← he9]) hw hS dM_put_40
    · exact absurd h2 (by decide)
  · skip
    have h1 : (C_M_in k1 15) = false := (bI_0 _).1 h1
    refine lv_iconst (v := 1) (pc := 10) hx hb dM_put_10 (by decide) ?_
    refine lv_goto (tgt := 15) (pc := 11) hx hb dM_put_11 (by decide) ?_
    refine mo_V (pc := 15) (rest := []) ⟨hx, hb, hml, hown, hts⟩ (c_M_fails l D cI cL m0 ra rb rc md fl er kx ky sx sy px py fx fy pr bi row oth rg true) (cwM_fails hts w_417 ⟨by decide, by decide⟩) hw hS rfl hl.1 rfl (Nat.le_of_ble_eq_true rfl) dM_put_15 ⟨Nat.zero_le _, Nat.zero_le _⟩ (fun H locs hw hS => ?_)
    refine W.eq (g2 := F0 m 18 ls [.int 1]) rfl ?_
    refine lv_if_eq (tgt := 23) (pc := 18) hx hb dM_put_18 (by decide) (fun h3 => ?_) (fun h3 => ?_)
    · exact absurd h3 (by decide)
    · skip
      refine lv_lconst (v := 0) (pc := 21) hx hb dM_put_21 (by decide) ?_
      have he9 := (show (0, bI true, rg) = C_M_put rg k1 x2 from by rw [C_M_put, if_pos h1])
      exact hret _ _ _ _ _ _ (congrArg Prod.fst he9) (by rw [← he9]) hw hS dM_put_22
def C_M_bits (rg : Nat → Int64) (k1 : Int32) : Int64 × Int32 :=
  if (C_M_in k1 15) = false then
    (0, bI true)
  else
    (rg k1.toNatClampNeg, bI false)
abbrev rmM_bits : Room := { frames := 1, cells := 0, slots := 0, locals := 21 }
theorem cwM_bits {R : Room} {s : State} {args : Array Value} {w0 : Cond} {own : String} {idx : Nat} (hts : ∀ w ∈ (w0 :: bigW), w.before args s = true) (hl : Cond.methodLink own idx yM_bits ∈ bigW) (hR : rmM_bits.frames + 1 ≤ R.frames ∧ 8 + (2 + 11) + rmM_bits.locals ≤ R.locals) : CallW R s args own "FloatUnitModel" idx yM_bits cM_bits 2 (some .long) (wsM yM_bits cM_bits 2 (some .long)) rmM_bits 0 0 1 :=
  cwV 1 hts (big_V hl w_422 w_423 w_2 w_424) rfl rfl rfl ⟨rfl, by decide, by decide, by decide +kernel⟩ hR
set_option maxRecDepth 100000 in
set_option maxHeartbeats 8000000 in
theorem c_M_bits (l : Launch) (D : va_G) (cI cL : ClassId) (m0 ra rb rc : Nat) (md fl er kx ky sx sy px py : Int32) (fx fy : Int64) (pr bi : Int32) (row oth : Nat → Int32) (rg : Nat → Int64) (k1 : Int32) : MoM l D cI cL m0 ra rb rc yM_bits (wsM yM_bits cM_bits 2 (some .long)) rmM_bits [.int k1] ((md, fl, er, kx, ky, sx, sy, px, py), (fx, fy), (pr, bi), row, oth, rg) (some (.long ((C_M_bits rg k1).1))) ((md, fl, ((C_M_bits rg k1).2), kx, ky, sx, sy, px, py), (fx, fy), (pr, bi), row, oth, rg) := by
  refine mo_ofL (cc := cM_bits) (maxL := 2) (by decide) rfl (Nat.le_of_ble_eq_true rfl) ?_
  intro p e s m args below meth c Q hx hb hml hown hts H locs hS hw hret ls hl
  have hl : lv_has ls 2 [(0, .ref m0), (1, .int k1)] := hl
  refine lv_aload_n (pc := 0) hx hb dM_bits_0 rfl (lv_at hl 0 rfl) ?_
  refine lv_iload_n (pc := 1) hx hb dM_bits_1 rfl (lv_at hl 1 rfl) ?_
  refine lv_bipush (v := 15) (pc := 2) hx hb dM_bits_2 (by decide) ?_
  refine ps_S (pc := 4) (rest := [.ref m0]) ⟨hx, hb, hml, hown, hts⟩ (c_M_in l k1 15) (cwM_in hts w_414 ⟨by decide, by decide⟩) rfl hl.1 rfl (Nat.le_of_ble_eq_true rfl) dM_bits_4 ⟨Nat.zero_le _, Nat.zero_le _⟩ ?_
  refine lv_if_ne (tgt := 14) (pc := 7) hx hb dM_bits_7 (by decide) (fun h1 => ?_) (fun h1 => ?_)
  · skip
    have h1 : ¬ ((C_M_in k1 15) = false) := fun q => h1 ((bI_0 _).2 q)
    refine lv_iconst (v := 0) (pc := 14) hx hb dM_bits_14 (by decide) ?_
    refine mo_V (pc := 15) (rest := []) ⟨hx, hb, hml, hown, hts⟩ (c_M_fails l D cI cL m0 ra rb rc md fl er kx ky sx sy px py fx fy pr bi row oth rg false) (cwM_fails hts w_417 ⟨by decide, by decide⟩) hw hS rfl hl.1 rfl (Nat.le_of_ble_eq_true rfl) dM_bits_15 ⟨Nat.zero_le _, Nat.zero_le _⟩ (fun H locs hw hS => ?_)
    refine W.eq (g2 := F0 m 18 ls [.int 0]) rfl ?_
    refine lv_if_eq (tgt := 25) (pc := 18) hx hb dM_bits_18 (by decide) (fun h2 => ?_) (fun h2 => ?_)
    · skip
      refine lv_aload_n (pc := 25) hx hb dM_bits_25 rfl (lv_at hl 0 rfl) ?_
      refine mo_g_registers (pc := 26) hx hb hts hown hw w_358 dM_bits_26 ?_
      refine lv_iload_n (pc := 29) hx hb dM_bits_29 rfl (lv_at hl 1 rfl) ?_
      refine mo_ld (pc := 30) hx hb hw (min_in h1) dM_bits_30 ?_
      have he9 := (show (rg k1.toNatClampNeg, bI false) = C_M_bits rg k1 from by rw [C_M_bits, if_neg h1])
      exact hret _ _ _ _ _ _ (congrArg Prod.fst he9) (by rw [← he9]) hw hS dM_bits_31
    · exact absurd h2 (by decide)
  · skip
    have h1 : (C_M_in k1 15) = false := (bI_0 _).1 h1
    refine lv_iconst (v := 1) (pc := 10) hx hb dM_bits_10 (by decide) ?_
    refine lv_goto (tgt := 15) (pc := 11) hx hb dM_bits_11 (by decide) ?_
    refine mo_V (pc := 15) (rest := []) ⟨hx, hb, hml, hown, hts⟩ (c_M_fails l D cI cL m0 ra rb rc md fl er kx ky sx sy px py fx fy pr bi row oth rg true) (cwM_fails hts w_417 ⟨by decide, by decide⟩) hw hS rfl hl.1 rfl (Nat.le_of_ble_eq_true rfl) dM_bits_15 ⟨Nat.zero_le _, Nat.zero_le _⟩ (fun H locs hw hS => ?_)
    refine W.eq (g2 := F0 m 18 ls [.int 1]) rfl ?_
    refine lv_if_eq (tgt := 25) (pc := 18) hx hb dM_bits_18 (by decide) (fun h3 => ?_) (fun h3 => ?_)
    · exact absurd h3 (by decide)
    · skip
      refine lv_lconst (v := 0) (pc := 21) hx hb dM_bits_21 (by decide) ?_
      refine lv_goto (tgt := 31) (pc := 22) hx hb dM_bits_22 (by decide) ?_
      have he9 := (show (0, bI true) = C_M_bits rg k1 from by rw [C_M_bits, if_pos h1])
      exact hret _ _ _ _ _ _ (congrArg Prod.fst he9) (by rw [← he9]) hw hS dM_bits_31
def C_M_mode (md : Int32) (k1 : Int32) : Int32 × Int32 × Int32 :=
  if (C_M_in k1 3) = false then
    (0, md, bI true)
  else
    (md, k1, bI false)
abbrev rmM_mode : Room := { frames := 1, cells := 0, slots := 0, locals := 21 }
theorem cwM_mode {R : Room} {s : State} {args : Array Value} {w0 : Cond} {own : String} {idx : Nat} (hts : ∀ w ∈ (w0 :: bigW), w.before args s = true) (hl : Cond.methodLink own idx yM_mode ∈ bigW) (hR : rmM_mode.frames + 1 ≤ R.frames ∧ 8 + (3 + 11) + rmM_mode.locals ≤ R.locals) : CallW R s args own "FloatUnitModel" idx yM_mode cM_mode 3 (some .int) (wsM yM_mode cM_mode 3 (some .int)) rmM_mode 0 0 1 :=
  cwV 1 hts (big_V hl w_426 w_427 w_2 w_428) rfl rfl rfl ⟨rfl, by decide, by decide, by decide +kernel⟩ hR
set_option maxRecDepth 100000 in
set_option maxHeartbeats 8000000 in
theorem c_M_mode (l : Launch) (D : va_G) (cI cL : ClassId) (m0 ra rb rc : Nat) (md fl er kx ky sx sy px py : Int32) (fx fy : Int64) (pr bi : Int32) (row oth : Nat → Int32) (rg : Nat → Int64) (k1 : Int32) : MoM l D cI cL m0 ra rb rc yM_mode (wsM yM_mode cM_mode 3 (some .int)) rmM_mode [.int k1] ((md, fl, er, kx, ky, sx, sy, px, py), (fx, fy), (pr, bi), row, oth, rg) (some (.int ((C_M_mode md k1).1))) ((((C_M_mode md k1).2.1), fl, ((C_M_mode md k1).2.2), kx, ky, sx, sy, px, py), (fx, fy), (pr, bi), row, oth, rg) := by
  refine mo_ofI (cc := cM_mode) (maxL := 3) (by decide) rfl (Nat.le_of_ble_eq_true rfl) ?_
  intro p e s m args below meth c Q hx hb hml hown hts H locs hS hw hret ls hl
  have hl : lv_has ls 3 [(0, .ref m0), (1, .int k1)] := hl
  refine lv_aload_n (pc := 0) hx hb dM_mode_0 rfl (lv_at hl 0 rfl) ?_
  refine lv_iload_n (pc := 1) hx hb dM_mode_1 rfl (lv_at hl 1 rfl) ?_
  refine lv_iconst (v := 3) (pc := 2) hx hb dM_mode_2 (by decide) ?_
  refine ps_S (pc := 3) (rest := [.ref m0]) ⟨hx, hb, hml, hown, hts⟩ (c_M_in l k1 3) (cwM_in hts w_414 ⟨by decide, by decide⟩) rfl hl.1 rfl (Nat.le_of_ble_eq_true rfl) dM_mode_3 ⟨Nat.zero_le _, Nat.zero_le _⟩ ?_
  refine lv_if_ne (tgt := 13) (pc := 6) hx hb dM_mode_6 (by decide) (fun h1 => ?_) (fun h1 => ?_)
  · skip
    have h1 : ¬ ((C_M_in k1 3) = false) := fun q => h1 ((bI_0 _).2 q)
    refine lv_iconst (v := 0) (pc := 13) hx hb dM_mode_13 (by decide) ?_
    refine mo_V (pc := 14) (rest := []) ⟨hx, hb, hml, hown, hts⟩ (c_M_fails l D cI cL m0 ra rb rc md fl er kx ky sx sy px py fx fy pr bi row oth rg false) (cwM_fails hts w_417 ⟨by decide, by decide⟩) hw hS rfl hl.1 rfl (Nat.le_of_ble_eq_true rfl) dM_mode_14 ⟨Nat.zero_le _, Nat.zero_le _⟩ (fun H locs hw hS => ?_)
    refine W.eq (g2 := F0 m 17 ls [.int 0]) rfl ?_
    refine lv_if_eq (tgt := 22) (pc := 17) hx hb dM_mode_17 (by decide) (fun h2 => ?_) (fun h2 => ?_)
    · skip
      refine lv_aload_n (pc := 22) hx hb dM_mode_22 rfl (lv_at hl 0 rfl) ?_
      refine mo_g_mode (pc := 23) hx hb hts hown hw w_359 dM_mode_23 ?_
      refine lv_istore_n (lv' := [(2, .int md), (0, .ref m0), (1, .int k1)]) (pc := 26) hx hb dM_mode_26 rfl hl (by decide) rfl (fun ls hl => ?_)
      refine lv_aload_n (pc := 27) hx hb dM_mode_27 rfl (lv_at hl 1 rfl) ?_
      refine lv_iload_n (pc := 28) hx hb dM_mode_28 rfl (lv_at hl 2 rfl) ?_
      refine mo_p_mode (pc := 29) hx hb hts hown hw hS w_359 dM_mode_29 (fun H locs hw hS => ?_)
      refine lv_iload_n (pc := 32) hx hb dM_mode_32 rfl (lv_at hl 0 rfl) ?_
      have he9 := (show (md, k1, bI false) = C_M_mode md k1 from by rw [C_M_mode, if_neg h1])
      exact hret _ _ _ _ _ _ (congrArg Prod.fst he9) (by rw [← he9]) hw hS dM_mode_33
    · exact absurd h2 (by decide)
  · skip
    have h1 : (C_M_in k1 3) = false := (bI_0 _).1 h1
    refine lv_iconst (v := 1) (pc := 9) hx hb dM_mode_9 (by decide) ?_
    refine lv_goto (tgt := 14) (pc := 10) hx hb dM_mode_10 (by decide) ?_
    refine mo_V (pc := 14) (rest := []) ⟨hx, hb, hml, hown, hts⟩ (c_M_fails l D cI cL m0 ra rb rc md fl er kx ky sx sy px py fx fy pr bi row oth rg true) (cwM_fails hts w_417 ⟨by decide, by decide⟩) hw hS rfl hl.1 rfl (Nat.le_of_ble_eq_true rfl) dM_mode_14 ⟨Nat.zero_le _, Nat.zero_le _⟩ (fun H locs hw hS => ?_)
    refine W.eq (g2 := F0 m 17 ls [.int 1]) rfl ?_
    refine lv_if_eq (tgt := 22) (pc := 17) hx hb dM_mode_17 (by decide) (fun h3 => ?_) (fun h3 => ?_)
    · exact absurd h3 (by decide)
    · skip
      refine lv_iconst (v := 0) (pc := 20) hx hb dM_mode_20 (by decide) ?_
      have he9 := (show (0, md, bI true) = C_M_mode md k1 from by rw [C_M_mode, if_pos h1])
      exact hret _ _ _ _ _ _ (congrArg Prod.fst he9) (by rw [← he9]) hw hS dM_mode_21
def C_M_flags (fl : Int32) (k1 : Int32) : Int32 × Int32 × Int32 :=
  (fl, fl &&& (k1 ^^^ (-1)), 0)
abbrev rmM_flags : Room := { frames := 0, cells := 0, slots := 0, locals := 0 }
theorem cwM_flags {R : Room} {s : State} {args : Array Value} {w0 : Cond} {own : String} {idx : Nat} (hts : ∀ w ∈ (w0 :: bigW), w.before args s = true) (hl : Cond.methodLink own idx yM_flags ∈ bigW) (hR : rmM_flags.frames + 1 ≤ R.frames ∧ 8 + (3 + 11) + rmM_flags.locals ≤ R.locals) : CallW R s args own "FloatUnitModel" idx yM_flags cM_flags 3 (some .int) (wsM yM_flags cM_flags 3 (some .int)) rmM_flags 0 0 1 :=
  cwV 1 hts (big_V hl w_430 w_431 w_2 w_432) rfl rfl rfl ⟨rfl, by decide, by decide, by decide +kernel⟩ hR
set_option maxRecDepth 100000 in
set_option maxHeartbeats 8000000 in
theorem c_M_flags (l : Launch) (D : va_G) (cI cL : ClassId) (m0 ra rb rc : Nat) (md fl er kx ky sx sy px py : Int32) (fx fy : Int64) (pr bi : Int32) (row oth : Nat → Int32) (rg : Nat → Int64) (k1 : Int32) : MoM l D cI cL m0 ra rb rc yM_flags (wsM yM_flags cM_flags 3 (some .int)) rmM_flags [.int k1] ((md, fl, er, kx, ky, sx, sy, px, py), (fx, fy), (pr, bi), row, oth, rg) (some (.int ((C_M_flags fl k1).1))) ((md, ((C_M_flags fl k1).2.1), ((C_M_flags fl k1).2.2), kx, ky, sx, sy, px, py), (fx, fy), (pr, bi), row, oth, rg) := by
  refine mo_ofI (cc := cM_flags) (maxL := 3) (by decide) rfl (Nat.le_of_ble_eq_true rfl) ?_
  intro p e s m args below meth c Q hx hb hml hown hts H locs hS hw hret ls hl
  have hl : lv_has ls 3 [(0, .ref m0), (1, .int k1)] := hl
  refine lv_aload_n (pc := 0) hx hb dM_flags_0 rfl (lv_at hl 0 rfl) ?_
  refine lv_iconst (v := 0) (pc := 1) hx hb dM_flags_1 (by decide) ?_
  refine mo_p_err (pc := 2) hx hb hts hown hw hS w_361 dM_flags_2 (fun H locs hw hS => ?_)
  refine lv_aload_n (pc := 5) hx hb dM_flags_5 rfl (lv_at hl 0 rfl) ?_
  refine mo_g_flags (pc := 6) hx hb hts hown hw w_360 dM_flags_6 ?_
  refine lv_istore_n (lv' := [(2, .int fl), (0, .ref m0), (1, .int k1)]) (pc := 9) hx hb dM_flags_9 rfl hl (by decide) rfl (fun ls hl => ?_)
  refine lv_aload_n (pc := 10) hx hb dM_flags_10 rfl (lv_at hl 1 rfl) ?_
  refine lv_aload_n (pc := 11) hx hb dM_flags_11 rfl (lv_at hl 1 rfl) ?_
  refine mo_g_flags (pc := 12) hx hb hts hown hw w_360 dM_flags_12 ?_
  refine lv_iload_n (pc := 15) hx hb dM_flags_15 rfl (lv_at hl 2 rfl) ?_
  refine lv_iconst (v := (-1)) (pc := 16) hx hb dM_flags_16 (by decide) ?_
  refine lv_ixor (pc := 17) hx hb dM_flags_17 ?_
  refine lv_iand (pc := 18) hx hb dM_flags_18 ?_
  refine mo_p_flags (pc := 19) hx hb hts hown hw hS w_360 dM_flags_19 (fun H locs hw hS => ?_)
  refine lv_iload_n (pc := 22) hx hb dM_flags_22 rfl (lv_at hl 0 rfl) ?_
  have he9 := (show (fl, fl &&& (k1 ^^^ (-1)), 0) = C_M_flags fl k1 from by rw [C_M_flags])
  exact hret _ _ _ _ _ _ (congrArg Prod.fst he9) (by rw [← he9]) hw hS dM_flags_23
