/-! The reference: compare, whole, kind, negate, of (by program, loops by their fuel). -/
theorem fmt_b (z : Bool) : -5000 ≤ ((1 - (C_M_format z).2) - ((C_M_format z).1 - 1)).toInt := by cases z <;> decide
theorem fmt_pr (z : Bool) : 1 ≤ (C_M_format z).1.toInt ∧ (C_M_format z).1.toInt ≤ 64 := by cases z <;> decide
theorem fmt_bi (z : Bool) : 0 ≤ (C_M_format z).2.toInt ∧ (C_M_format z).2.toInt ≤ 1023 := by cases z <;> decide
theorem c53 : (53 : Int32).toInt = 53 := rfl
theorem inc1 {k : Int32} (h : k.toInt < 1000) : (k + 1).toInt = k.toInt + 1 := by
  obtain ⟨z, hz, rfl⟩ := iI_of k
  rw [iI_toInt hz] at h
  obtain ⟨a1, a2⟩ := hz
  rw [show (1 : Int32) = iI 1 from rfl, iI_add, iI_toInt ⟨by omega, by omega⟩, iI_toInt ⟨a1, a2⟩]
theorem neg_ne {x : Int64} (h : ¬ x = 0) : ¬ -x = 0 := by
  intro q
  refine h ?_
  have : -(-x) = -0 := by rw [q]
  rw [Int64.neg_neg] at this
  rw [this]
  rfl
def C_M_compare_282 (er9 : Int32) (kx9 : Int32) (ky9 : Int32) (sx9 : Int32) (sy9 : Int32) (px9 : Int32) (py9 : Int32) (fx9 : Int64) (fy9 : Int64) (pr9 : Int32) (bi9 : Int32) (u7 : Int32) (u9 : Int32) : Int32 × Int32 × Int32 × Int32 × Int32 × Int32 × Int32 × Int32 × Int64 × Int64 × Int32 × Int32 :=
  if u9 = 0 then
    (0, er9, kx9, ky9, sx9, sy9, px9, py9, fx9, fy9, pr9, bi9)
  else
    if u9 ≤ 0 then
      if u7 ≤ 0 then
        (1, er9, kx9, ky9, sx9, sy9, px9, py9, fx9, fy9, pr9, bi9)
      else
        ((-1), er9, kx9, ky9, sx9, sy9, px9, py9, fx9, fy9, pr9, bi9)
    else
      if u7 ≤ 0 then
        ((-1), er9, kx9, ky9, sx9, sy9, px9, py9, fx9, fy9, pr9, bi9)
      else
        (1, er9, kx9, ky9, sx9, sy9, px9, py9, fx9, fy9, pr9, bi9)
def C_M_compare_222 (er9 : Int32) (kx9 : Int32) (ky9 : Int32) (sx9 : Int32) (sy9 : Int32) (px9 : Int32) (py9 : Int32) (fx9 : Int64) (fy9 : Int64) (pr9 : Int32) (bi9 : Int32) : Nat → Int32 → Int32 → Int32 → Int32 × Int32 × Int32 × Int32 × Int32 × Int32 × Int32 × Int32 × Int64 × Int64 × Int32 × Int32
  | 0, u7, u9, u10 => C_M_compare_282 er9 kx9 ky9 sx9 sy9 px9 py9 fx9 fy9 pr9 bi9 u7 u9
  | n + 1, u7, u9, u10 =>
    if u10 < ((1 - bi9) - (pr9 - 1)) then
      C_M_compare_282 er9 kx9 ky9 sx9 sy9 px9 py9 fx9 fy9 pr9 bi9 u7 u9
    else
      if u9 = 0 then
        C_M_compare_222 er9 kx9 ky9 sx9 sy9 px9 py9 fx9 fy9 pr9 bi9 n u7 ((C_M_bit fx9 (u10 - px9)) - (C_M_bit fy9 (u10 - py9))) (u10 + (-1))
      else
        C_M_compare_282 er9 kx9 ky9 sx9 sy9 px9 py9 fx9 fy9 pr9 bi9 u7 u9
def C_M_compare_154 (er9 : Int32) (kx9 : Int32) (ky9 : Int32) (sx9 : Int32) (sy9 : Int32) (px9 : Int32) (py9 : Int32) (fx9 : Int64) (fy9 : Int64) (pr9 : Int32) (bi9 : Int32) (u7 : Int32) (u8 : Int32) : Int32 × Int32 × Int32 × Int32 × Int32 × Int32 × Int32 × Int32 × Int64 × Int64 × Int32 × Int32 :=
  if u7 = u8 then
    if u7 = 0 then
      (0, er9, kx9, ky9, sx9, sy9, px9, py9, fx9, fy9, pr9, bi9)
    else
      if kx9 = 1 then
        C_M_compare_282 er9 kx9 ky9 sx9 sy9 px9 py9 fx9 fy9 pr9 bi9 u7 (ky9 - kx9)
      else
        if ky9 = 1 then
          C_M_compare_282 er9 kx9 ky9 sx9 sy9 px9 py9 fx9 fy9 pr9 bi9 u7 (ky9 - kx9)
        else
          C_M_compare_222 er9 kx9 ky9 sx9 sy9 px9 py9 fx9 fy9 pr9 bi9 ((bi9.toInt - ((1 - bi9) - (pr9 - 1)).toInt + 1).toNat) u7 0 bi9
  else
    if u8 ≤ u7 then
      (1, er9, kx9, ky9, sx9, sy9, px9, py9, fx9, fy9, pr9, bi9)
    else
      ((-1), er9, kx9, ky9, sx9, sy9, px9, py9, fx9, fy9, pr9, bi9)
def C_M_compare_130 (er9 : Int32) (kx9 : Int32) (ky9 : Int32) (sx9 : Int32) (sy9 : Int32) (px9 : Int32) (py9 : Int32) (fx9 : Int64) (fy9 : Int64) (pr9 : Int32) (bi9 : Int32) (v6 : Bool) (u7 : Int32) : Int32 × Int32 × Int32 × Int32 × Int32 × Int32 × Int32 × Int32 × Int64 × Int64 × Int32 × Int32 :=
  if v6 = false then
    if sy9 = 1 then
      C_M_compare_154 er9 kx9 ky9 sx9 sy9 px9 py9 fx9 fy9 pr9 bi9 u7 (-1)
    else
      C_M_compare_154 er9 kx9 ky9 sx9 sy9 px9 py9 fx9 fy9 pr9 bi9 u7 1
  else
    C_M_compare_154 er9 kx9 ky9 sx9 sy9 px9 py9 fx9 fy9 pr9 bi9 u7 0
def C_M_compare_106 (er9 : Int32) (kx9 : Int32) (ky9 : Int32) (sx9 : Int32) (sy9 : Int32) (px9 : Int32) (py9 : Int32) (fx9 : Int64) (fy9 : Int64) (pr9 : Int32) (bi9 : Int32) (v5 : Bool) (v6 : Bool) : Int32 × Int32 × Int32 × Int32 × Int32 × Int32 × Int32 × Int32 × Int64 × Int64 × Int32 × Int32 :=
  if v5 = false then
    if sx9 = 1 then
      C_M_compare_130 er9 kx9 ky9 sx9 sy9 px9 py9 fx9 fy9 pr9 bi9 v6 (-1)
    else
      C_M_compare_130 er9 kx9 ky9 sx9 sy9 px9 py9 fx9 fy9 pr9 bi9 v6 1
  else
    C_M_compare_130 er9 kx9 ky9 sx9 sy9 px9 py9 fx9 fy9 pr9 bi9 v6 0
def C_M_compare_82 (er9 : Int32) (kx9 : Int32) (ky9 : Int32) (sx9 : Int32) (sy9 : Int32) (px9 : Int32) (py9 : Int32) (fx9 : Int64) (fy9 : Int64) (pr9 : Int32) (bi9 : Int32) (v5 : Bool) : Int32 × Int32 × Int32 × Int32 × Int32 × Int32 × Int32 × Int32 × Int64 × Int64 × Int32 × Int32 :=
  if ky9 = 2 then
    if fy9 = 0 then
      C_M_compare_106 er9 kx9 ky9 sx9 sy9 px9 py9 fx9 fy9 pr9 bi9 v5 true
    else
      C_M_compare_106 er9 kx9 ky9 sx9 sy9 px9 py9 fx9 fy9 pr9 bi9 v5 false
  else
    C_M_compare_106 er9 kx9 ky9 sx9 sy9 px9 py9 fx9 fy9 pr9 bi9 v5 false
def C_M_compare (kx : Int32) (ky : Int32) (sx : Int32) (sy : Int32) (px : Int32) (py : Int32) (fx : Int64) (fy : Int64) (pr : Int32) (bi : Int32) (rg : Nat → Int64) (z1 : Bool) (k2 : Int32) (k3 : Int32) (k4 : Int32) : Int32 × Int32 × Int32 × Int32 × Int32 × Int32 × Int32 × Int32 × Int64 × Int64 × Int32 × Int32 :=
  if (C_M_in k2 15) = false then
    (0, bI true, kx, ky, sx, sy, px, py, fx, fy, pr, bi)
  else
    if (C_M_in k3 15) = false then
      (0, bI true, kx, ky, sx, sy, px, py, fx, fy, pr, bi)
    else
      if ((C_M_takeBoth ((C_M_format z1).1) ((C_M_format z1).2) rg k2 k3).1) = 0 then
        (k4, bI false, (C_M_takeBoth ((C_M_format z1).1) ((C_M_format z1).2) rg k2 k3).1, (C_M_takeBoth ((C_M_format z1).1) ((C_M_format z1).2) rg k2 k3).2.1, (C_M_takeBoth ((C_M_format z1).1) ((C_M_format z1).2) rg k2 k3).2.2.1, (C_M_takeBoth ((C_M_format z1).1) ((C_M_format z1).2) rg k2 k3).2.2.2.1, (C_M_takeBoth ((C_M_format z1).1) ((C_M_format z1).2) rg k2 k3).2.2.2.2.1, (C_M_takeBoth ((C_M_format z1).1) ((C_M_format z1).2) rg k2 k3).2.2.2.2.2.1, (C_M_takeBoth ((C_M_format z1).1) ((C_M_format z1).2) rg k2 k3).2.2.2.2.2.2.1, (C_M_takeBoth ((C_M_format z1).1) ((C_M_format z1).2) rg k2 k3).2.2.2.2.2.2.2, (C_M_format z1).1, (C_M_format z1).2)
      else
        if ((C_M_takeBoth ((C_M_format z1).1) ((C_M_format z1).2) rg k2 k3).2.1) = 0 then
          (k4, bI false, (C_M_takeBoth ((C_M_format z1).1) ((C_M_format z1).2) rg k2 k3).1, (C_M_takeBoth ((C_M_format z1).1) ((C_M_format z1).2) rg k2 k3).2.1, (C_M_takeBoth ((C_M_format z1).1) ((C_M_format z1).2) rg k2 k3).2.2.1, (C_M_takeBoth ((C_M_format z1).1) ((C_M_format z1).2) rg k2 k3).2.2.2.1, (C_M_takeBoth ((C_M_format z1).1) ((C_M_format z1).2) rg k2 k3).2.2.2.2.1, (C_M_takeBoth ((C_M_format z1).1) ((C_M_format z1).2) rg k2 k3).2.2.2.2.2.1, (C_M_takeBoth ((C_M_format z1).1) ((C_M_format z1).2) rg k2 k3).2.2.2.2.2.2.1, (C_M_takeBoth ((C_M_format z1).1) ((C_M_format z1).2) rg k2 k3).2.2.2.2.2.2.2, (C_M_format z1).1, (C_M_format z1).2)
        else
          if ((C_M_takeBoth ((C_M_format z1).1) ((C_M_format z1).2) rg k2 k3).1) = 2 then
            if ((C_M_takeBoth ((C_M_format z1).1) ((C_M_format z1).2) rg k2 k3).2.2.2.2.2.2.1) = 0 then
              C_M_compare_82 (bI false) ((C_M_takeBoth ((C_M_format z1).1) ((C_M_format z1).2) rg k2 k3).1) ((C_M_takeBoth ((C_M_format z1).1) ((C_M_format z1).2) rg k2 k3).2.1) ((C_M_takeBoth ((C_M_format z1).1) ((C_M_format z1).2) rg k2 k3).2.2.1) ((C_M_takeBoth ((C_M_format z1).1) ((C_M_format z1).2) rg k2 k3).2.2.2.1) ((C_M_takeBoth ((C_M_format z1).1) ((C_M_format z1).2) rg k2 k3).2.2.2.2.1) ((C_M_takeBoth ((C_M_format z1).1) ((C_M_format z1).2) rg k2 k3).2.2.2.2.2.1) ((C_M_takeBoth ((C_M_format z1).1) ((C_M_format z1).2) rg k2 k3).2.2.2.2.2.2.1) ((C_M_takeBoth ((C_M_format z1).1) ((C_M_format z1).2) rg k2 k3).2.2.2.2.2.2.2) ((C_M_format z1).1) ((C_M_format z1).2) true
            else
              C_M_compare_82 (bI false) ((C_M_takeBoth ((C_M_format z1).1) ((C_M_format z1).2) rg k2 k3).1) ((C_M_takeBoth ((C_M_format z1).1) ((C_M_format z1).2) rg k2 k3).2.1) ((C_M_takeBoth ((C_M_format z1).1) ((C_M_format z1).2) rg k2 k3).2.2.1) ((C_M_takeBoth ((C_M_format z1).1) ((C_M_format z1).2) rg k2 k3).2.2.2.1) ((C_M_takeBoth ((C_M_format z1).1) ((C_M_format z1).2) rg k2 k3).2.2.2.2.1) ((C_M_takeBoth ((C_M_format z1).1) ((C_M_format z1).2) rg k2 k3).2.2.2.2.2.1) ((C_M_takeBoth ((C_M_format z1).1) ((C_M_format z1).2) rg k2 k3).2.2.2.2.2.2.1) ((C_M_takeBoth ((C_M_format z1).1) ((C_M_format z1).2) rg k2 k3).2.2.2.2.2.2.2) ((C_M_format z1).1) ((C_M_format z1).2) false
          else
            C_M_compare_82 (bI false) ((C_M_takeBoth ((C_M_format z1).1) ((C_M_format z1).2) rg k2 k3).1) ((C_M_takeBoth ((C_M_format z1).1) ((C_M_format z1).2) rg k2 k3).2.1) ((C_M_takeBoth ((C_M_format z1).1) ((C_M_format z1).2) rg k2 k3).2.2.1) ((C_M_takeBoth ((C_M_format z1).1) ((C_M_format z1).2) rg k2 k3).2.2.2.1) ((C_M_takeBoth ((C_M_format z1).1) ((C_M_format z1).2) rg k2 k3).2.2.2.2.1) ((C_M_takeBoth ((C_M_format z1).1) ((C_M_format z1).2) rg k2 k3).2.2.2.2.2.1) ((C_M_takeBoth ((C_M_format z1).1) ((C_M_format z1).2) rg k2 k3).2.2.2.2.2.2.1) ((C_M_takeBoth ((C_M_format z1).1) ((C_M_format z1).2) rg k2 k3).2.2.2.2.2.2.2) ((C_M_format z1).1) ((C_M_format z1).2) false
abbrev rmM_compare : Room := { frames := 2, cells := 0, slots := 0, locals := 49 }
theorem cwM_compare {R : Room} {s : State} {args : Array Value} {w0 : Cond} {own : String} {idx : Nat} (hts : ∀ w ∈ (w0 :: bigW), w.before args s = true) (hl : Cond.methodLink own idx yM_compare ∈ bigW) (hR : rmM_compare.frames + 1 ≤ R.frames ∧ 8 + (11 + 11) + rmM_compare.locals ≤ R.locals) : CallW R s args own "FloatUnitModel" idx yM_compare cM_compare 11 (some .int) (wsM yM_compare cM_compare 11 (some .int)) rmM_compare 0 0 4 :=
  cwV 4 hts (big_V hl w_499 w_500 w_2 w_501) rfl rfl rfl ⟨rfl, by decide, by decide, by decide +kernel⟩ hR
set_option maxRecDepth 100000 in
set_option maxHeartbeats 8000000 in
theorem c_M_compare (l : Launch) (D : va_G) (cI cL : ClassId) (m0 ra rb rc : Nat) (md fl er kx ky sx sy px py : Int32) (fx fy : Int64) (pr bi : Int32) (row oth : Nat → Int32) (rg : Nat → Int64) (z1 : Bool) (k2 : Int32) (k3 : Int32) (k4 : Int32) : MoM l D cI cL m0 ra rb rc yM_compare (wsM yM_compare cM_compare 11 (some .int)) rmM_compare [.int (bI z1), .int k2, .int k3, .int k4] ((md, fl, er, kx, ky, sx, sy, px, py), (fx, fy), (pr, bi), row, oth, rg) (some (.int ((C_M_compare kx ky sx sy px py fx fy pr bi rg z1 k2 k3 k4).1))) ((md, fl, ((C_M_compare kx ky sx sy px py fx fy pr bi rg z1 k2 k3 k4).2.1), ((C_M_compare kx ky sx sy px py fx fy pr bi rg z1 k2 k3 k4).2.2.1), ((C_M_compare kx ky sx sy px py fx fy pr bi rg z1 k2 k3 k4).2.2.2.1), ((C_M_compare kx ky sx sy px py fx fy pr bi rg z1 k2 k3 k4).2.2.2.2.1), ((C_M_compare kx ky sx sy px py fx fy pr bi rg z1 k2 k3 k4).2.2.2.2.2.1), ((C_M_compare kx ky sx sy px py fx fy pr bi rg z1 k2 k3 k4).2.2.2.2.2.2.1), ((C_M_compare kx ky sx sy px py fx fy pr bi rg z1 k2 k3 k4).2.2.2.2.2.2.2.1)), (((C_M_compare kx ky sx sy px py fx fy pr bi rg z1 k2 k3 k4).2.2.2.2.2.2.2.2.1), ((C_M_compare kx ky sx sy px py fx fy pr bi rg z1 k2 k3 k4).2.2.2.2.2.2.2.2.2.1)), (((C_M_compare kx ky sx sy px py fx fy pr bi rg z1 k2 k3 k4).2.2.2.2.2.2.2.2.2.2.1), ((C_M_compare kx ky sx sy px py fx fy pr bi rg z1 k2 k3 k4).2.2.2.2.2.2.2.2.2.2.2)), row, oth, rg) := by
  refine mo_ofI (cc := cM_compare) (maxL := 11) (by decide) rfl (Nat.le_of_ble_eq_true rfl) ?_
  intro p e s m args below meth c Q hx hb hml hown hts H locs hS hw hret ls hl
  have hl : lv_has ls 11 [(0, .ref m0), (1, .int (bI z1)), (2, .int k2), (3, .int k3), (4, .int k4)] := hl
  have J282 : ∀ (er9 : Int32) (kx9 : Int32) (ky9 : Int32) (sx9 : Int32) (sy9 : Int32) (px9 : Int32) (py9 : Int32) (fx9 : Int64) (fy9 : Int64) (pr9 : Int32) (bi9 : Int32) (u7 : Int32) (u9 : Int32) (ls : Array Slot) (H : Heap) (locs : List Loc), lv_has ls 11 [(0, .ref m0), (7, .int u7), (9, .int u9)] → MOw D cI cL m0 ra rb rc ((md, fl, er9, kx9, ky9, sx9, sy9, px9, py9), (fx9, fy9), (pr9, bi9), row, oth, rg) s H → va_S (mA m0 ra rb rc) s.heap H locs → C_M_compare_282 er9 kx9 ky9 sx9 sy9 px9 py9 fx9 fy9 pr9 bi9 u7 u9 = C_M_compare kx ky sx sy px py fx fy pr bi rg z1 k2 k3 k4 → W p l e rmM_compare s m args below meth c H locs 0 0 Q (F0 m 282 ls []) := by
    intro er9 kx9 ky9 sx9 sy9 px9 py9 fx9 fy9 pr9 bi9 u7 u9 ls H locs hl hw hS he
    refine lv_iload (pc := 282) hx hb dM_compare_282 (lv_at hl 2 rfl) ?_
    refine lv_if_ne (tgt := 291) (pc := 284) hx hb dM_compare_284 (by decide) (fun h501 => ?_) (fun h501 => ?_)
    · skip
      refine lv_iload (pc := 291) hx hb dM_compare_291 (lv_at hl 2 rfl) ?_
      refine lv_if_le (tgt := 300) (pc := 293) hx hb dM_compare_293 (by decide) (fun h502 => ?_) (fun h502 => ?_)
      · skip
        refine lv_iconst (v := 0) (pc := 300) hx hb dM_compare_300 (by decide) ?_
        refine lv_iload (pc := 301) hx hb dM_compare_301 (lv_at hl 1 rfl) ?_
        refine lv_if_le (tgt := 310) (pc := 303) hx hb dM_compare_303 (by decide) (fun h503 => ?_) (fun h503 => ?_)
        · skip
          refine lv_iconst (v := 0) (pc := 310) hx hb dM_compare_310 (by decide) ?_
          refine lv_icmp_ne (tgt := 318) (pc := 311) hx hb dM_compare_311 (by decide) (fun h504 => ?_) (fun h504 => ?_)
          · exact absurd h504 (by decide)
          · skip
            refine lv_iconst (v := 1) (pc := 314) hx hb dM_compare_314 (by decide) ?_
            refine lv_goto (tgt := 319) (pc := 315) hx hb dM_compare_315 (by decide) ?_
            have he9 := (show (1, er9, kx9, ky9, sx9, sy9, px9, py9, fx9, fy9, pr9, bi9) = C_M_compare_282 er9 kx9 ky9 sx9 sy9 px9 py9 fx9 fy9 pr9 bi9 u7 u9 from by rw [C_M_compare_282, if_neg h501, if_pos h502, if_pos h503]).trans he
            exact hret _ _ _ _ _ _ (congrArg Prod.fst he9) (by rw [← he9]) hw hS dM_compare_319
        · skip
          refine lv_iconst (v := 1) (pc := 306) hx hb dM_compare_306 (by decide) ?_
          refine lv_goto (tgt := 311) (pc := 307) hx hb dM_compare_307 (by decide) ?_
          refine lv_icmp_ne (tgt := 318) (pc := 311) hx hb dM_compare_311 (by decide) (fun h505 => ?_) (fun h505 => ?_)
          · skip
            refine lv_iconst (v := (-1)) (pc := 318) hx hb dM_compare_318 (by decide) ?_
            have he9 := (show ((-1), er9, kx9, ky9, sx9, sy9, px9, py9, fx9, fy9, pr9, bi9) = C_M_compare_282 er9 kx9 ky9 sx9 sy9 px9 py9 fx9 fy9 pr9 bi9 u7 u9 from by rw [C_M_compare_282, if_neg h501, if_pos h502, if_neg h503]).trans he
            exact hret _ _ _ _ _ _ (congrArg Prod.fst he9) (by rw [← he9]) hw hS dM_compare_319
          · exact absurd h505 (by decide)
      · skip
        refine lv_iconst (v := 1) (pc := 296) hx hb dM_compare_296 (by decide) ?_
        refine lv_goto (tgt := 301) (pc := 297) hx hb dM_compare_297 (by decide) ?_
        refine lv_iload (pc := 301) hx hb dM_compare_301 (lv_at hl 1 rfl) ?_
        refine lv_if_le (tgt := 310) (pc := 303) hx hb dM_compare_303 (by decide) (fun h506 => ?_) (fun h506 => ?_)
        · skip
          refine lv_iconst (v := 0) (pc := 310) hx hb dM_compare_310 (by decide) ?_
          refine lv_icmp_ne (tgt := 318) (pc := 311) hx hb dM_compare_311 (by decide) (fun h507 => ?_) (fun h507 => ?_)
          · skip
            refine lv_iconst (v := (-1)) (pc := 318) hx hb dM_compare_318 (by decide) ?_
            have he9 := (show ((-1), er9, kx9, ky9, sx9, sy9, px9, py9, fx9, fy9, pr9, bi9) = C_M_compare_282 er9 kx9 ky9 sx9 sy9 px9 py9 fx9 fy9 pr9 bi9 u7 u9 from by rw [C_M_compare_282, if_neg h501, if_neg h502, if_pos h506]).trans he
            exact hret _ _ _ _ _ _ (congrArg Prod.fst he9) (by rw [← he9]) hw hS dM_compare_319
          · exact absurd h507 (by decide)
        · skip
          refine lv_iconst (v := 1) (pc := 306) hx hb dM_compare_306 (by decide) ?_
          refine lv_goto (tgt := 311) (pc := 307) hx hb dM_compare_307 (by decide) ?_
          refine lv_icmp_ne (tgt := 318) (pc := 311) hx hb dM_compare_311 (by decide) (fun h508 => ?_) (fun h508 => ?_)
          · exact absurd h508 (by decide)
          · skip
            refine lv_iconst (v := 1) (pc := 314) hx hb dM_compare_314 (by decide) ?_
            refine lv_goto (tgt := 319) (pc := 315) hx hb dM_compare_315 (by decide) ?_
            have he9 := (show (1, er9, kx9, ky9, sx9, sy9, px9, py9, fx9, fy9, pr9, bi9) = C_M_compare_282 er9 kx9 ky9 sx9 sy9 px9 py9 fx9 fy9 pr9 bi9 u7 u9 from by rw [C_M_compare_282, if_neg h501, if_neg h502, if_neg h506]).trans he
            exact hret _ _ _ _ _ _ (congrArg Prod.fst he9) (by rw [← he9]) hw hS dM_compare_319
    · skip
      refine lv_iconst (v := 0) (pc := 287) hx hb dM_compare_287 (by decide) ?_
      refine lv_goto (tgt := 319) (pc := 288) hx hb dM_compare_288 (by decide) ?_
      have he9 := (show (0, er9, kx9, ky9, sx9, sy9, px9, py9, fx9, fy9, pr9, bi9) = C_M_compare_282 er9 kx9 ky9 sx9 sy9 px9 py9 fx9 fy9 pr9 bi9 u7 u9 from by rw [C_M_compare_282, if_pos h501]).trans he
      exact hret _ _ _ _ _ _ (congrArg Prod.fst he9) (by rw [← he9]) hw hS dM_compare_319
  have L222 : ∀ (n : Nat) (er9 : Int32) (kx9 : Int32) (ky9 : Int32) (sx9 : Int32) (sy9 : Int32) (px9 : Int32) (py9 : Int32) (fx9 : Int64) (fy9 : Int64) (pr9 : Int32) (bi9 : Int32) (u7 : Int32) (u9 : Int32) (u10 : Int32) (hbp : -5000 ≤ ((1 - bi9) - (pr9 - 1)).toInt) (ls : Array Slot) (H : Heap) (locs : List Loc), u10.toInt - ((1 - bi9) - (pr9 - 1)).toInt + 1 ≤ (n : Int) → lv_has ls 11 [(0, .ref m0), (7, .int u7), (9, .int u9), (10, .int u10)] → MOw D cI cL m0 ra rb rc ((md, fl, er9, kx9, ky9, sx9, sy9, px9, py9), (fx9, fy9), (pr9, bi9), row, oth, rg) s H → va_S (mA m0 ra rb rc) s.heap H locs → C_M_compare_222 er9 kx9 ky9 sx9 sy9 px9 py9 fx9 fy9 pr9 bi9 n u7 u9 u10 = C_M_compare kx ky sx sy px py fx fy pr bi rg z1 k2 k3 k4 → W p l e rmM_compare s m args below meth c H locs 0 0 Q (F0 m 222 ls []) := by
    intro n
    induction n with
    | zero =>
      intro er9 kx9 ky9 sx9 sy9 px9 py9 fx9 fy9 pr9 bi9 u7 u9 u10 hbp ls H locs hm hl hw hS he
      refine lv_iload (pc := 222) hx hb dM_compare_222 (lv_at hl 3 rfl) ?_
      refine lv_iconst (v := 1) (pc := 224) hx hb dM_compare_224 (by decide) ?_
      refine lv_aload_n (pc := 225) hx hb dM_compare_225 rfl (lv_at hl 0 rfl) ?_
      refine mo_g_bias (pc := 226) hx hb hts hown hw w_371 dM_compare_226 ?_
      refine lv_isub (pc := 229) hx hb dM_compare_229 ?_
      refine lv_aload_n (pc := 230) hx hb dM_compare_230 rfl (lv_at hl 0 rfl) ?_
      refine mo_g_precision (pc := 231) hx hb hts hown hw w_370 dM_compare_231 ?_
      refine lv_iconst (v := 1) (pc := 234) hx hb dM_compare_234 (by decide) ?_
      refine lv_isub (pc := 235) hx hb dM_compare_235 ?_
      refine lv_isub (pc := 236) hx hb dM_compare_236 ?_
      refine lv_icmp_lt (tgt := 282) (pc := 237) hx hb dM_compare_237 (by decide) (fun _ => J282 er9 kx9 ky9 sx9 sy9 px9 py9 fx9 fy9 pr9 bi9 u7 u9 ls _ _ (lv_sub hl [0, 1, 2] rfl) hw hS he) (fun h => absurd (lt_of_toInt (by omega)) h)
    | succ n ih =>
      intro er9 kx9 ky9 sx9 sy9 px9 py9 fx9 fy9 pr9 bi9 u7 u9 u10 hbp ls H locs hm hl hw hS he
      refine lv_iload (pc := 222) hx hb dM_compare_222 (lv_at hl 3 rfl) ?_
      refine lv_iconst (v := 1) (pc := 224) hx hb dM_compare_224 (by decide) ?_
      refine lv_aload_n (pc := 225) hx hb dM_compare_225 rfl (lv_at hl 0 rfl) ?_
      refine mo_g_bias (pc := 226) hx hb hts hown hw w_371 dM_compare_226 ?_
      refine lv_isub (pc := 229) hx hb dM_compare_229 ?_
      refine lv_aload_n (pc := 230) hx hb dM_compare_230 rfl (lv_at hl 0 rfl) ?_
      refine mo_g_precision (pc := 231) hx hb hts hown hw w_370 dM_compare_231 ?_
      refine lv_iconst (v := 1) (pc := 234) hx hb dM_compare_234 (by decide) ?_
      refine lv_isub (pc := 235) hx hb dM_compare_235 ?_
      refine lv_isub (pc := 236) hx hb dM_compare_236 ?_
      refine lv_icmp_lt (tgt := 282) (pc := 237) hx hb dM_compare_237 (by decide) (fun h601 => ?_) (fun h601 => ?_)
      · skip
        exact J282 er9 kx9 ky9 sx9 sy9 px9 py9 fx9 fy9 pr9 bi9 u7 u9 ls _ _ (lv_sub hl [0, 1, 2] rfl) hw hS ((show C_M_compare_282 er9 kx9 ky9 sx9 sy9 px9 py9 fx9 fy9 pr9 bi9 u7 u9 = C_M_compare_222 er9 kx9 ky9 sx9 sy9 px9 py9 fx9 fy9 pr9 bi9 (n + 1) u7 u9 u10 from by rw [C_M_compare_222, if_pos h601]).trans he)
      · skip
        refine lv_iload (pc := 240) hx hb dM_compare_240 (lv_at hl 2 rfl) ?_
        refine lv_if_ne (tgt := 282) (pc := 242) hx hb dM_compare_242 (by decide) (fun h602 => ?_) (fun h602 => ?_)
        · skip
          exact J282 er9 kx9 ky9 sx9 sy9 px9 py9 fx9 fy9 pr9 bi9 u7 u9 ls _ _ (lv_sub hl [0, 1, 2] rfl) hw hS ((show C_M_compare_282 er9 kx9 ky9 sx9 sy9 px9 py9 fx9 fy9 pr9 bi9 u7 u9 = C_M_compare_222 er9 kx9 ky9 sx9 sy9 px9 py9 fx9 fy9 pr9 bi9 (n + 1) u7 u9 u10 from by rw [C_M_compare_222, if_neg h601, if_neg h602]).trans he)
        · skip
          refine lv_aload_n (pc := 245) hx hb dM_compare_245 rfl (lv_at hl 0 rfl) ?_
          refine mo_g_partX (pc := 246) hx hb hts hown hw w_368 dM_compare_246 ?_
          refine lv_iload (pc := 249) hx hb dM_compare_249 (lv_at hl 3 rfl) ?_
          refine lv_aload_n (pc := 251) hx hb dM_compare_251 rfl (lv_at hl 0 rfl) ?_
          refine mo_g_powerX (pc := 252) hx hb hts hown hw w_366 dM_compare_252 ?_
          refine lv_isub (pc := 255) hx hb dM_compare_255 ?_
          refine ps_S (pc := 256) (rest := []) ⟨hx, hb, hml, hown, hts⟩ (c_M_bit l fx9 (u10 - px9)) (cwM_bit hts w_502 ⟨by decide, by decide⟩) rfl hl.1 rfl (Nat.le_of_ble_eq_true rfl) dM_compare_256 ⟨Nat.zero_le _, Nat.zero_le _⟩ ?_
          refine lv_aload_n (pc := 259) hx hb dM_compare_259 rfl (lv_at hl 0 rfl) ?_
          refine mo_g_partY (pc := 260) hx hb hts hown hw w_369 dM_compare_260 ?_
          refine lv_iload (pc := 263) hx hb dM_compare_263 (lv_at hl 3 rfl) ?_
          refine lv_aload_n (pc := 265) hx hb dM_compare_265 rfl (lv_at hl 0 rfl) ?_
          refine mo_g_powerY (pc := 266) hx hb hts hown hw w_367 dM_compare_266 ?_
          refine lv_isub (pc := 269) hx hb dM_compare_269 ?_
          refine ps_S (pc := 270) (rest := [.int (C_M_bit fx9 (u10 - px9))]) ⟨hx, hb, hml, hown, hts⟩ (c_M_bit l fy9 (u10 - py9)) (cwM_bit hts w_502 ⟨by decide, by decide⟩) rfl hl.1 rfl (Nat.le_of_ble_eq_true rfl) dM_compare_270 ⟨Nat.zero_le _, Nat.zero_le _⟩ ?_
          refine lv_isub (pc := 273) hx hb dM_compare_273 ?_
          refine lv_istore (lv' := [(9, .int ((C_M_bit fx9 (u10 - px9)) - (C_M_bit fy9 (u10 - py9)))), (0, .ref m0), (7, .int u7), (10, .int u10)]) (pc := 274) hx hb dM_compare_274 hl (by decide) rfl (fun ls hl => ?_)
          refine lv_iinc (k := 3) (v := u10 + (-1)) (lv' := [(10, .int (u10 + (-1))), (9, .int ((C_M_bit fx9 (u10 - px9)) - (C_M_bit fy9 (u10 - py9)))), (0, .ref m0), (7, .int u7)]) (pc := 276) hx hb dM_compare_276 hl rfl (by rfl) (by decide) rfl (fun ls hl => ?_)
          refine lv_goto (tgt := 222) (pc := 279) hx hb dM_compare_279 (by decide) ?_
          exact ih er9 kx9 ky9 sx9 sy9 px9 py9 fx9 fy9 pr9 bi9 u7 ((C_M_bit fx9 (u10 - px9)) - (C_M_bit fy9 (u10 - py9))) (u10 + (-1)) hbp ls _ _ (by have q := not_lt_toInt h601; have := dec1 (k := u10) (b := (n : Int) + ((1 - bi9) - (pr9 - 1)).toInt) (by omega) (by omega); omega) (lv_sub hl [2, 3, 1, 0] rfl) hw hS ((show C_M_compare_222 er9 kx9 ky9 sx9 sy9 px9 py9 fx9 fy9 pr9 bi9 n u7 ((C_M_bit fx9 (u10 - px9)) - (C_M_bit fy9 (u10 - py9))) (u10 + (-1)) = C_M_compare_222 er9 kx9 ky9 sx9 sy9 px9 py9 fx9 fy9 pr9 bi9 (n + 1) u7 u9 u10 from by rw [C_M_compare_222, if_neg h601, if_pos h602]).trans he)
  have J222 : ∀ (er9 : Int32) (kx9 : Int32) (ky9 : Int32) (sx9 : Int32) (sy9 : Int32) (px9 : Int32) (py9 : Int32) (fx9 : Int64) (fy9 : Int64) (pr9 : Int32) (bi9 : Int32) (u7 : Int32) (u9 : Int32) (u10 : Int32) (hbp : -5000 ≤ ((1 - bi9) - (pr9 - 1)).toInt) (ls : Array Slot) (H : Heap) (locs : List Loc), lv_has ls 11 [(0, .ref m0), (7, .int u7), (9, .int u9), (10, .int u10)] → MOw D cI cL m0 ra rb rc ((md, fl, er9, kx9, ky9, sx9, sy9, px9, py9), (fx9, fy9), (pr9, bi9), row, oth, rg) s H → va_S (mA m0 ra rb rc) s.heap H locs → C_M_compare_222 er9 kx9 ky9 sx9 sy9 px9 py9 fx9 fy9 pr9 bi9 ((u10.toInt - ((1 - bi9) - (pr9 - 1)).toInt + 1).toNat) u7 u9 u10 = C_M_compare kx ky sx sy px py fx fy pr bi rg z1 k2 k3 k4 → W p l e rmM_compare s m args below meth c H locs 0 0 Q (F0 m 222 ls []) := by
    intro er9 kx9 ky9 sx9 sy9 px9 py9 fx9 fy9 pr9 bi9 u7 u9 u10 hbp ls H locs hl hw hS he
    exact L222 _ er9 kx9 ky9 sx9 sy9 px9 py9 fx9 fy9 pr9 bi9 u7 u9 u10 hbp ls H locs (by omega) hl hw hS he
  have J154 : ∀ (er9 : Int32) (kx9 : Int32) (ky9 : Int32) (sx9 : Int32) (sy9 : Int32) (px9 : Int32) (py9 : Int32) (fx9 : Int64) (fy9 : Int64) (pr9 : Int32) (bi9 : Int32) (u7 : Int32) (u8 : Int32) (hbp : -5000 ≤ ((1 - bi9) - (pr9 - 1)).toInt) (ls : Array Slot) (H : Heap) (locs : List Loc), lv_has ls 11 [(0, .ref m0), (7, .int u7)] → MOw D cI cL m0 ra rb rc ((md, fl, er9, kx9, ky9, sx9, sy9, px9, py9), (fx9, fy9), (pr9, bi9), row, oth, rg) s H → va_S (mA m0 ra rb rc) s.heap H locs → C_M_compare_154 er9 kx9 ky9 sx9 sy9 px9 py9 fx9 fy9 pr9 bi9 u7 u8 = C_M_compare kx ky sx sy px py fx fy pr bi rg z1 k2 k3 k4 → W p l e rmM_compare s m args below meth c H locs 0 0 Q (F0 m 154 ls [.int u8]) := by
    intro er9 kx9 ky9 sx9 sy9 px9 py9 fx9 fy9 pr9 bi9 u7 u8 hbp ls H locs hl hw hS he
    refine lv_istore (lv' := [(8, .int u8), (0, .ref m0), (7, .int u7)]) (pc := 154) hx hb dM_compare_154 hl (by decide) rfl (fun ls hl => ?_)
    refine lv_iload (pc := 156) hx hb dM_compare_156 (lv_at hl 2 rfl) ?_
    refine lv_iload (pc := 158) hx hb dM_compare_158 (lv_at hl 0 rfl) ?_
    refine lv_icmp_eq (tgt := 176) (pc := 160) hx hb dM_compare_160 (by decide) (fun h401 => ?_) (fun h401 => ?_)
    · skip
      refine lv_iload (pc := 176) hx hb dM_compare_176 (lv_at hl 2 rfl) ?_
      refine lv_if_ne (tgt := 183) (pc := 178) hx hb dM_compare_178 (by decide) (fun h402 => ?_) (fun h402 => ?_)
      · skip
        refine lv_iconst (v := 0) (pc := 183) hx hb dM_compare_183 (by decide) ?_
        refine lv_istore (lv' := [(9, .int 0), (8, .int u8), (0, .ref m0), (7, .int u7)]) (pc := 184) hx hb dM_compare_184 hl (by decide) rfl (fun ls hl => ?_)
        refine lv_aload_n (pc := 186) hx hb dM_compare_186 rfl (lv_at hl 2 rfl) ?_
        refine mo_g_kindX (pc := 187) hx hb hts hown hw w_362 dM_compare_187 ?_
        refine lv_iconst (v := 1) (pc := 190) hx hb dM_compare_190 (by decide) ?_
        refine lv_icmp_eq (tgt := 202) (pc := 191) hx hb dM_compare_191 (by decide) (fun h403 => ?_) (fun h403 => ?_)
        · skip
          refine lv_aload_n (pc := 202) hx hb dM_compare_202 rfl (lv_at hl 2 rfl) ?_
          refine mo_g_kindY (pc := 203) hx hb hts hown hw w_363 dM_compare_203 ?_
          refine lv_aload_n (pc := 206) hx hb dM_compare_206 rfl (lv_at hl 2 rfl) ?_
          refine mo_g_kindX (pc := 207) hx hb hts hown hw w_362 dM_compare_207 ?_
          refine lv_isub (pc := 210) hx hb dM_compare_210 ?_
          refine lv_istore (lv' := [(9, .int (ky9 - kx9)), (8, .int u8), (0, .ref m0), (7, .int u7)]) (pc := 211) hx hb dM_compare_211 hl (by decide) rfl (fun ls hl => ?_)
          refine lv_goto (tgt := 282) (pc := 213) hx hb dM_compare_213 (by decide) ?_
          exact J282 er9 kx9 ky9 sx9 sy9 px9 py9 fx9 fy9 pr9 bi9 u7 (ky9 - kx9) ls _ _ (lv_sub hl [2, 3, 0] rfl) hw hS ((show C_M_compare_282 er9 kx9 ky9 sx9 sy9 px9 py9 fx9 fy9 pr9 bi9 u7 (ky9 - kx9) = C_M_compare_154 er9 kx9 ky9 sx9 sy9 px9 py9 fx9 fy9 pr9 bi9 u7 u8 from by rw [C_M_compare_154, if_pos h401, if_neg h402, if_pos h403]).trans he)
        · skip
          refine lv_aload_n (pc := 194) hx hb dM_compare_194 rfl (lv_at hl 2 rfl) ?_
          refine mo_g_kindY (pc := 195) hx hb hts hown hw w_363 dM_compare_195 ?_
          refine lv_iconst (v := 1) (pc := 198) hx hb dM_compare_198 (by decide) ?_
          refine lv_icmp_ne (tgt := 216) (pc := 199) hx hb dM_compare_199 (by decide) (fun h404 => ?_) (fun h404 => ?_)
          · skip
            refine lv_aload_n (pc := 216) hx hb dM_compare_216 rfl (lv_at hl 2 rfl) ?_
            refine mo_g_bias (pc := 217) hx hb hts hown hw w_371 dM_compare_217 ?_
            refine lv_istore (lv' := [(10, .int bi9), (9, .int 0), (8, .int u8), (0, .ref m0), (7, .int u7)]) (pc := 220) hx hb dM_compare_220 hl (by decide) rfl (fun ls hl => ?_)
            exact J222 er9 kx9 ky9 sx9 sy9 px9 py9 fx9 fy9 pr9 bi9 u7 0 bi9 hbp ls _ _ (lv_sub hl [3, 4, 1, 0] rfl) hw hS ((show C_M_compare_222 er9 kx9 ky9 sx9 sy9 px9 py9 fx9 fy9 pr9 bi9 ((bi9.toInt - ((1 - bi9) - (pr9 - 1)).toInt + 1).toNat) u7 0 bi9 = C_M_compare_154 er9 kx9 ky9 sx9 sy9 px9 py9 fx9 fy9 pr9 bi9 u7 u8 from by rw [C_M_compare_154, if_pos h401, if_neg h402, if_neg h403, if_neg h404]).trans he)
          · skip
            refine lv_aload_n (pc := 202) hx hb dM_compare_202 rfl (lv_at hl 2 rfl) ?_
            refine mo_g_kindY (pc := 203) hx hb hts hown hw w_363 dM_compare_203 ?_
            refine lv_aload_n (pc := 206) hx hb dM_compare_206 rfl (lv_at hl 2 rfl) ?_
            refine mo_g_kindX (pc := 207) hx hb hts hown hw w_362 dM_compare_207 ?_
            refine lv_isub (pc := 210) hx hb dM_compare_210 ?_
            refine lv_istore (lv' := [(9, .int (ky9 - kx9)), (8, .int u8), (0, .ref m0), (7, .int u7)]) (pc := 211) hx hb dM_compare_211 hl (by decide) rfl (fun ls hl => ?_)
            refine lv_goto (tgt := 282) (pc := 213) hx hb dM_compare_213 (by decide) ?_
            exact J282 er9 kx9 ky9 sx9 sy9 px9 py9 fx9 fy9 pr9 bi9 u7 (ky9 - kx9) ls _ _ (lv_sub hl [2, 3, 0] rfl) hw hS ((show C_M_compare_282 er9 kx9 ky9 sx9 sy9 px9 py9 fx9 fy9 pr9 bi9 u7 (ky9 - kx9) = C_M_compare_154 er9 kx9 ky9 sx9 sy9 px9 py9 fx9 fy9 pr9 bi9 u7 u8 from by rw [C_M_compare_154, if_pos h401, if_neg h402, if_neg h403, if_pos h404]).trans he)
      · skip
        refine lv_iconst (v := 0) (pc := 181) hx hb dM_compare_181 (by decide) ?_
        have he9 := (show (0, er9, kx9, ky9, sx9, sy9, px9, py9, fx9, fy9, pr9, bi9) = C_M_compare_154 er9 kx9 ky9 sx9 sy9 px9 py9 fx9 fy9 pr9 bi9 u7 u8 from by rw [C_M_compare_154, if_pos h401, if_pos h402]).trans he
        exact hret _ _ _ _ _ _ (congrArg Prod.fst he9) (by rw [← he9]) hw hS dM_compare_182
    · skip
      refine lv_iload (pc := 163) hx hb dM_compare_163 (lv_at hl 2 rfl) ?_
      refine lv_iload (pc := 165) hx hb dM_compare_165 (lv_at hl 0 rfl) ?_
      refine lv_icmp_ge (tgt := 174) (pc := 167) hx hb dM_compare_167 (by decide) (fun h405 => ?_) (fun h405 => ?_)
      · skip
        refine lv_iconst (v := 1) (pc := 174) hx hb dM_compare_174 (by decide) ?_
        have he9 := (show (1, er9, kx9, ky9, sx9, sy9, px9, py9, fx9, fy9, pr9, bi9) = C_M_compare_154 er9 kx9 ky9 sx9 sy9 px9 py9 fx9 fy9 pr9 bi9 u7 u8 from by rw [C_M_compare_154, if_neg h401, if_pos h405]).trans he
        exact hret _ _ _ _ _ _ (congrArg Prod.fst he9) (by rw [← he9]) hw hS dM_compare_175
      · skip
        refine lv_iconst (v := (-1)) (pc := 170) hx hb dM_compare_170 (by decide) ?_
        refine lv_goto (tgt := 175) (pc := 171) hx hb dM_compare_171 (by decide) ?_
        have he9 := (show ((-1), er9, kx9, ky9, sx9, sy9, px9, py9, fx9, fy9, pr9, bi9) = C_M_compare_154 er9 kx9 ky9 sx9 sy9 px9 py9 fx9 fy9 pr9 bi9 u7 u8 from by rw [C_M_compare_154, if_neg h401, if_neg h405]).trans he
        exact hret _ _ _ _ _ _ (congrArg Prod.fst he9) (by rw [← he9]) hw hS dM_compare_175
  have J130 : ∀ (er9 : Int32) (kx9 : Int32) (ky9 : Int32) (sx9 : Int32) (sy9 : Int32) (px9 : Int32) (py9 : Int32) (fx9 : Int64) (fy9 : Int64) (pr9 : Int32) (bi9 : Int32) (v6 : Bool) (u7 : Int32) (hbp : -5000 ≤ ((1 - bi9) - (pr9 - 1)).toInt) (ls : Array Slot) (H : Heap) (locs : List Loc), lv_has ls 11 [(0, .ref m0), (6, .int (bI v6))] → MOw D cI cL m0 ra rb rc ((md, fl, er9, kx9, ky9, sx9, sy9, px9, py9), (fx9, fy9), (pr9, bi9), row, oth, rg) s H → va_S (mA m0 ra rb rc) s.heap H locs → C_M_compare_130 er9 kx9 ky9 sx9 sy9 px9 py9 fx9 fy9 pr9 bi9 v6 u7 = C_M_compare kx ky sx sy px py fx fy pr bi rg z1 k2 k3 k4 → W p l e rmM_compare s m args below meth c H locs 0 0 Q (F0 m 130 ls [.int u7]) := by
    intro er9 kx9 ky9 sx9 sy9 px9 py9 fx9 fy9 pr9 bi9 v6 u7 hbp ls H locs hl hw hS he
    refine lv_istore (lv' := [(7, .int u7), (0, .ref m0), (6, .int (bI v6))]) (pc := 130) hx hb dM_compare_130 hl (by decide) rfl (fun ls hl => ?_)
    refine lv_iload (pc := 132) hx hb dM_compare_132 (lv_at hl 2 rfl) ?_
    refine lv_if_eq (tgt := 141) (pc := 134) hx hb dM_compare_134 (by decide) (fun h301 => ?_) (fun h301 => ?_)
    · skip
      have h301 : v6 = false := (bI_0 _).1 h301
      refine lv_aload_n (pc := 141) hx hb dM_compare_141 rfl (lv_at hl 1 rfl) ?_
      refine mo_g_signY (pc := 142) hx hb hts hown hw w_365 dM_compare_142 ?_
      refine lv_iconst (v := 1) (pc := 145) hx hb dM_compare_145 (by decide) ?_
      refine lv_icmp_ne (tgt := 153) (pc := 146) hx hb dM_compare_146 (by decide) (fun h302 => ?_) (fun h302 => ?_)
      · skip
        refine lv_iconst (v := 1) (pc := 153) hx hb dM_compare_153 (by decide) ?_
        exact J154 er9 kx9 ky9 sx9 sy9 px9 py9 fx9 fy9 pr9 bi9 u7 1 hbp ls _ _ (lv_sub hl [1, 0] rfl) hw hS ((show C_M_compare_154 er9 kx9 ky9 sx9 sy9 px9 py9 fx9 fy9 pr9 bi9 u7 1 = C_M_compare_130 er9 kx9 ky9 sx9 sy9 px9 py9 fx9 fy9 pr9 bi9 v6 u7 from by rw [C_M_compare_130, if_pos h301, if_neg h302]).trans he)
      · skip
        refine lv_iconst (v := (-1)) (pc := 149) hx hb dM_compare_149 (by decide) ?_
        refine lv_goto (tgt := 154) (pc := 150) hx hb dM_compare_150 (by decide) ?_
        exact J154 er9 kx9 ky9 sx9 sy9 px9 py9 fx9 fy9 pr9 bi9 u7 (-1) hbp ls _ _ (lv_sub hl [1, 0] rfl) hw hS ((show C_M_compare_154 er9 kx9 ky9 sx9 sy9 px9 py9 fx9 fy9 pr9 bi9 u7 (-1) = C_M_compare_130 er9 kx9 ky9 sx9 sy9 px9 py9 fx9 fy9 pr9 bi9 v6 u7 from by rw [C_M_compare_130, if_pos h301, if_pos h302]).trans he)
    · skip
      have h301 : ¬ (v6 = false) := fun q => h301 ((bI_0 _).2 q)
      refine lv_iconst (v := 0) (pc := 137) hx hb dM_compare_137 (by decide) ?_
      refine lv_goto (tgt := 154) (pc := 138) hx hb dM_compare_138 (by decide) ?_
      exact J154 er9 kx9 ky9 sx9 sy9 px9 py9 fx9 fy9 pr9 bi9 u7 0 hbp ls _ _ (lv_sub hl [1, 0] rfl) hw hS ((show C_M_compare_154 er9 kx9 ky9 sx9 sy9 px9 py9 fx9 fy9 pr9 bi9 u7 0 = C_M_compare_130 er9 kx9 ky9 sx9 sy9 px9 py9 fx9 fy9 pr9 bi9 v6 u7 from by rw [C_M_compare_130, if_neg h301]).trans he)
  have J106 : ∀ (er9 : Int32) (kx9 : Int32) (ky9 : Int32) (sx9 : Int32) (sy9 : Int32) (px9 : Int32) (py9 : Int32) (fx9 : Int64) (fy9 : Int64) (pr9 : Int32) (bi9 : Int32) (v5 : Bool) (v6 : Bool) (hbp : -5000 ≤ ((1 - bi9) - (pr9 - 1)).toInt) (ls : Array Slot) (H : Heap) (locs : List Loc), lv_has ls 11 [(0, .ref m0), (5, .int (bI v5))] → MOw D cI cL m0 ra rb rc ((md, fl, er9, kx9, ky9, sx9, sy9, px9, py9), (fx9, fy9), (pr9, bi9), row, oth, rg) s H → va_S (mA m0 ra rb rc) s.heap H locs → C_M_compare_106 er9 kx9 ky9 sx9 sy9 px9 py9 fx9 fy9 pr9 bi9 v5 v6 = C_M_compare kx ky sx sy px py fx fy pr bi rg z1 k2 k3 k4 → W p l e rmM_compare s m args below meth c H locs 0 0 Q (F0 m 106 ls [.int (bI v6)]) := by
    intro er9 kx9 ky9 sx9 sy9 px9 py9 fx9 fy9 pr9 bi9 v5 v6 hbp ls H locs hl hw hS he
    refine lv_istore (lv' := [(6, .int (bI v6)), (0, .ref m0), (5, .int (bI v5))]) (pc := 106) hx hb dM_compare_106 hl (by decide) rfl (fun ls hl => ?_)
    refine lv_iload (pc := 108) hx hb dM_compare_108 (lv_at hl 2 rfl) ?_
    refine lv_if_eq (tgt := 117) (pc := 110) hx hb dM_compare_110 (by decide) (fun h201 => ?_) (fun h201 => ?_)
    · skip
      have h201 : v5 = false := (bI_0 _).1 h201
      refine lv_aload_n (pc := 117) hx hb dM_compare_117 rfl (lv_at hl 1 rfl) ?_
      refine mo_g_signX (pc := 118) hx hb hts hown hw w_364 dM_compare_118 ?_
      refine lv_iconst (v := 1) (pc := 121) hx hb dM_compare_121 (by decide) ?_
      refine lv_icmp_ne (tgt := 129) (pc := 122) hx hb dM_compare_122 (by decide) (fun h202 => ?_) (fun h202 => ?_)
      · skip
        refine lv_iconst (v := 1) (pc := 129) hx hb dM_compare_129 (by decide) ?_
        exact J130 er9 kx9 ky9 sx9 sy9 px9 py9 fx9 fy9 pr9 bi9 v6 1 hbp ls _ _ (lv_sub hl [1, 0] rfl) hw hS ((show C_M_compare_130 er9 kx9 ky9 sx9 sy9 px9 py9 fx9 fy9 pr9 bi9 v6 1 = C_M_compare_106 er9 kx9 ky9 sx9 sy9 px9 py9 fx9 fy9 pr9 bi9 v5 v6 from by rw [C_M_compare_106, if_pos h201, if_neg h202]).trans he)
      · skip
        refine lv_iconst (v := (-1)) (pc := 125) hx hb dM_compare_125 (by decide) ?_
        refine lv_goto (tgt := 130) (pc := 126) hx hb dM_compare_126 (by decide) ?_
        exact J130 er9 kx9 ky9 sx9 sy9 px9 py9 fx9 fy9 pr9 bi9 v6 (-1) hbp ls _ _ (lv_sub hl [1, 0] rfl) hw hS ((show C_M_compare_130 er9 kx9 ky9 sx9 sy9 px9 py9 fx9 fy9 pr9 bi9 v6 (-1) = C_M_compare_106 er9 kx9 ky9 sx9 sy9 px9 py9 fx9 fy9 pr9 bi9 v5 v6 from by rw [C_M_compare_106, if_pos h201, if_pos h202]).trans he)
    · skip
      have h201 : ¬ (v5 = false) := fun q => h201 ((bI_0 _).2 q)
      refine lv_iconst (v := 0) (pc := 113) hx hb dM_compare_113 (by decide) ?_
      refine lv_goto (tgt := 130) (pc := 114) hx hb dM_compare_114 (by decide) ?_
      exact J130 er9 kx9 ky9 sx9 sy9 px9 py9 fx9 fy9 pr9 bi9 v6 0 hbp ls _ _ (lv_sub hl [1, 0] rfl) hw hS ((show C_M_compare_130 er9 kx9 ky9 sx9 sy9 px9 py9 fx9 fy9 pr9 bi9 v6 0 = C_M_compare_106 er9 kx9 ky9 sx9 sy9 px9 py9 fx9 fy9 pr9 bi9 v5 v6 from by rw [C_M_compare_106, if_neg h201]).trans he)
  have J82 : ∀ (er9 : Int32) (kx9 : Int32) (ky9 : Int32) (sx9 : Int32) (sy9 : Int32) (px9 : Int32) (py9 : Int32) (fx9 : Int64) (fy9 : Int64) (pr9 : Int32) (bi9 : Int32) (v5 : Bool) (hbp : -5000 ≤ ((1 - bi9) - (pr9 - 1)).toInt) (ls : Array Slot) (H : Heap) (locs : List Loc), lv_has ls 11 [(0, .ref m0)] → MOw D cI cL m0 ra rb rc ((md, fl, er9, kx9, ky9, sx9, sy9, px9, py9), (fx9, fy9), (pr9, bi9), row, oth, rg) s H → va_S (mA m0 ra rb rc) s.heap H locs → C_M_compare_82 er9 kx9 ky9 sx9 sy9 px9 py9 fx9 fy9 pr9 bi9 v5 = C_M_compare kx ky sx sy px py fx fy pr bi rg z1 k2 k3 k4 → W p l e rmM_compare s m args below meth c H locs 0 0 Q (F0 m 82 ls [.int (bI v5)]) := by
    intro er9 kx9 ky9 sx9 sy9 px9 py9 fx9 fy9 pr9 bi9 v5 hbp ls H locs hl hw hS he
    refine lv_istore (lv' := [(5, .int (bI v5)), (0, .ref m0)]) (pc := 82) hx hb dM_compare_82 hl (by decide) rfl (fun ls hl => ?_)
    refine lv_aload_n (pc := 84) hx hb dM_compare_84 rfl (lv_at hl 1 rfl) ?_
    refine mo_g_kindY (pc := 85) hx hb hts hown hw w_363 dM_compare_85 ?_
    refine lv_iconst (v := 2) (pc := 88) hx hb dM_compare_88 (by decide) ?_
    refine lv_icmp_ne (tgt := 105) (pc := 89) hx hb dM_compare_89 (by decide) (fun h101 => ?_) (fun h101 => ?_)
    · skip
      refine lv_iconst (v := 0) (pc := 105) hx hb dM_compare_105 (by decide) ?_
      exact J106 er9 kx9 ky9 sx9 sy9 px9 py9 fx9 fy9 pr9 bi9 v5 false hbp ls _ _ (lv_sub hl [1, 0] rfl) hw hS ((show C_M_compare_106 er9 kx9 ky9 sx9 sy9 px9 py9 fx9 fy9 pr9 bi9 v5 false = C_M_compare_82 er9 kx9 ky9 sx9 sy9 px9 py9 fx9 fy9 pr9 bi9 v5 from by rw [C_M_compare_82, if_neg h101]).trans he)
    · skip
      refine lv_aload_n (pc := 92) hx hb dM_compare_92 rfl (lv_at hl 1 rfl) ?_
      refine mo_g_partY (pc := 93) hx hb hts hown hw w_369 dM_compare_93 ?_
      refine lv_lconst (v := 0) (pc := 96) hx hb dM_compare_96 (by decide) ?_
      refine W.lcmp (pc := 97) hx hb dM_compare_97 ?_
      refine lv_if_ne (tgt := 105) (pc := 98) hx hb dM_compare_98 (by decide) (fun h102 => ?_) (fun h102 => ?_)
      · skip
        have h102 : ¬ (fy9 = 0) := fun q => h102 ((lg_cmp_eq _ _).2 q)
        refine lv_iconst (v := 0) (pc := 105) hx hb dM_compare_105 (by decide) ?_
        exact J106 er9 kx9 ky9 sx9 sy9 px9 py9 fx9 fy9 pr9 bi9 v5 false hbp ls _ _ (lv_sub hl [1, 0] rfl) hw hS ((show C_M_compare_106 er9 kx9 ky9 sx9 sy9 px9 py9 fx9 fy9 pr9 bi9 v5 false = C_M_compare_82 er9 kx9 ky9 sx9 sy9 px9 py9 fx9 fy9 pr9 bi9 v5 from by rw [C_M_compare_82, if_pos h101, if_neg h102]).trans he)
      · skip
        have h102 : fy9 = 0 := (lg_cmp_eq _ _).1 h102
        refine lv_iconst (v := 1) (pc := 101) hx hb dM_compare_101 (by decide) ?_
        refine lv_goto (tgt := 106) (pc := 102) hx hb dM_compare_102 (by decide) ?_
        exact J106 er9 kx9 ky9 sx9 sy9 px9 py9 fx9 fy9 pr9 bi9 v5 true hbp ls _ _ (lv_sub hl [1, 0] rfl) hw hS ((show C_M_compare_106 er9 kx9 ky9 sx9 sy9 px9 py9 fx9 fy9 pr9 bi9 v5 true = C_M_compare_82 er9 kx9 ky9 sx9 sy9 px9 py9 fx9 fy9 pr9 bi9 v5 from by rw [C_M_compare_82, if_pos h101, if_pos h102]).trans he)
  refine lv_aload_n (pc := 0) hx hb dM_compare_0 rfl (lv_at hl 0 rfl) ?_
  refine lv_iload_n (pc := 1) hx hb dM_compare_1 rfl (lv_at hl 2 rfl) ?_
  refine lv_bipush (v := 15) (pc := 2) hx hb dM_compare_2 (by decide) ?_
  refine ps_S (pc := 4) (rest := [.ref m0]) ⟨hx, hb, hml, hown, hts⟩ (c_M_in l k2 15) (cwM_in hts w_414 ⟨by decide, by decide⟩) rfl hl.1 rfl (Nat.le_of_ble_eq_true rfl) dM_compare_4 ⟨Nat.zero_le _, Nat.zero_le _⟩ ?_
  refine lv_if_eq (tgt := 19) (pc := 7) hx hb dM_compare_7 (by decide) (fun h1 => ?_) (fun h1 => ?_)
  · skip
    have h1 : (C_M_in k2 15) = false := (bI_0 _).1 h1
    refine lv_iconst (v := 1) (pc := 19) hx hb dM_compare_19 (by decide) ?_
    refine lv_goto (tgt := 24) (pc := 20) hx hb dM_compare_20 (by decide) ?_
    refine mo_V (pc := 24) (rest := []) ⟨hx, hb, hml, hown, hts⟩ (c_M_fails l D cI cL m0 ra rb rc md fl er kx ky sx sy px py fx fy pr bi row oth rg true) (cwM_fails hts w_417 ⟨by decide, by decide⟩) hw hS rfl hl.1 rfl (Nat.le_of_ble_eq_true rfl) dM_compare_24 ⟨Nat.zero_le _, Nat.zero_le _⟩ (fun H locs hw hS => ?_)
    refine W.eq (g2 := F0 m 27 ls [.int 1]) rfl ?_
    refine lv_if_eq (tgt := 32) (pc := 27) hx hb dM_compare_27 (by decide) (fun h2 => ?_) (fun h2 => ?_)
    · exact absurd h2 (by decide)
    · skip
      refine lv_iconst (v := 0) (pc := 30) hx hb dM_compare_30 (by decide) ?_
      have he9 := (show (0, bI true, kx, ky, sx, sy, px, py, fx, fy, pr, bi) = C_M_compare kx ky sx sy px py fx fy pr bi rg z1 k2 k3 k4 from by rw [C_M_compare, if_pos h1])
      exact hret _ _ _ _ _ _ (congrArg Prod.fst he9) (by rw [← he9]) hw hS dM_compare_31
  · skip
    have h1 : ¬ ((C_M_in k2 15) = false) := fun q => h1 ((bI_0 _).2 q)
    refine lv_iload_n (pc := 10) hx hb dM_compare_10 rfl (lv_at hl 3 rfl) ?_
    refine lv_bipush (v := 15) (pc := 11) hx hb dM_compare_11 (by decide) ?_
    refine ps_S (pc := 13) (rest := [.ref m0]) ⟨hx, hb, hml, hown, hts⟩ (c_M_in l k3 15) (cwM_in hts w_414 ⟨by decide, by decide⟩) rfl hl.1 rfl (Nat.le_of_ble_eq_true rfl) dM_compare_13 ⟨Nat.zero_le _, Nat.zero_le _⟩ ?_
    refine lv_if_ne (tgt := 23) (pc := 16) hx hb dM_compare_16 (by decide) (fun h3 => ?_) (fun h3 => ?_)
    · skip
      have h3 : ¬ ((C_M_in k3 15) = false) := fun q => h3 ((bI_0 _).2 q)
      refine lv_iconst (v := 0) (pc := 23) hx hb dM_compare_23 (by decide) ?_
      refine mo_V (pc := 24) (rest := []) ⟨hx, hb, hml, hown, hts⟩ (c_M_fails l D cI cL m0 ra rb rc md fl er kx ky sx sy px py fx fy pr bi row oth rg false) (cwM_fails hts w_417 ⟨by decide, by decide⟩) hw hS rfl hl.1 rfl (Nat.le_of_ble_eq_true rfl) dM_compare_24 ⟨Nat.zero_le _, Nat.zero_le _⟩ (fun H locs hw hS => ?_)
      refine W.eq (g2 := F0 m 27 ls [.int 0]) rfl ?_
      refine lv_if_eq (tgt := 32) (pc := 27) hx hb dM_compare_27 (by decide) (fun h4 => ?_) (fun h4 => ?_)
      · skip
        refine lv_aload_n (pc := 32) hx hb dM_compare_32 rfl (lv_at hl 0 rfl) ?_
        refine lv_iload_n (pc := 33) hx hb dM_compare_33 rfl (lv_at hl 1 rfl) ?_
        refine mo_V (pc := 34) (rest := []) ⟨hx, hb, hml, hown, hts⟩ (c_M_format l D cI cL m0 ra rb rc md fl (bI false) kx ky sx sy px py fx fy pr bi row oth rg z1) (cwM_format hts w_437 ⟨by decide, by decide⟩) hw hS rfl hl.1 rfl (Nat.le_of_ble_eq_true rfl) dM_compare_34 ⟨Nat.zero_le _, Nat.zero_le _⟩ (fun H locs hw hS => ?_)
        refine W.eq (g2 := F0 m 37 ls []) rfl ?_
        refine lv_aload_n (pc := 37) hx hb dM_compare_37 rfl (lv_at hl 0 rfl) ?_
        refine lv_iload_n (pc := 38) hx hb dM_compare_38 rfl (lv_at hl 2 rfl) ?_
        refine lv_iload_n (pc := 39) hx hb dM_compare_39 rfl (lv_at hl 3 rfl) ?_
        refine mo_V (pc := 40) (rest := []) ⟨hx, hb, hml, hown, hts⟩ (c_M_takeBoth l D cI cL m0 ra rb rc md fl (bI false) kx ky sx sy px py fx fy ((C_M_format z1).1) ((C_M_format z1).2) row oth rg k2 k3 (min_in h1) (min_in h3)) (cwM_takeBoth hts w_441 ⟨by decide, by decide⟩) hw hS rfl hl.1 rfl (Nat.le_of_ble_eq_true rfl) dM_compare_40 ⟨Nat.zero_le _, Nat.zero_le _⟩ (fun H locs hw hS => ?_)
        refine W.eq (g2 := F0 m 43 ls []) rfl ?_
        refine lv_aload_n (pc := 43) hx hb dM_compare_43 rfl (lv_at hl 0 rfl) ?_
        refine mo_g_kindX (pc := 44) hx hb hts hown hw w_362 dM_compare_44 ?_
        refine lv_if_eq (tgt := 57) (pc := 47) hx hb dM_compare_47 (by decide) (fun h5 => ?_) (fun h5 => ?_)
        · skip
          refine lv_iload (pc := 57) hx hb dM_compare_57 (lv_at hl 4 rfl) ?_
          have he9 := (show (k4, bI false, (C_M_takeBoth ((C_M_format z1).1) ((C_M_format z1).2) rg k2 k3).1, (C_M_takeBoth ((C_M_format z1).1) ((C_M_format z1).2) rg k2 k3).2.1, (C_M_takeBoth ((C_M_format z1).1) ((C_M_format z1).2) rg k2 k3).2.2.1, (C_M_takeBoth ((C_M_format z1).1) ((C_M_format z1).2) rg k2 k3).2.2.2.1, (C_M_takeBoth ((C_M_format z1).1) ((C_M_format z1).2) rg k2 k3).2.2.2.2.1, (C_M_takeBoth ((C_M_format z1).1) ((C_M_format z1).2) rg k2 k3).2.2.2.2.2.1, (C_M_takeBoth ((C_M_format z1).1) ((C_M_format z1).2) rg k2 k3).2.2.2.2.2.2.1, (C_M_takeBoth ((C_M_format z1).1) ((C_M_format z1).2) rg k2 k3).2.2.2.2.2.2.2, (C_M_format z1).1, (C_M_format z1).2) = C_M_compare kx ky sx sy px py fx fy pr bi rg z1 k2 k3 k4 from by rw [C_M_compare, if_neg h1, if_neg h3, if_pos h5])
          exact hret _ _ _ _ _ _ (congrArg Prod.fst he9) (by rw [← he9]) hw hS dM_compare_59
        · skip
          refine lv_aload_n (pc := 50) hx hb dM_compare_50 rfl (lv_at hl 0 rfl) ?_
          refine mo_g_kindY (pc := 51) hx hb hts hown hw w_363 dM_compare_51 ?_
          refine lv_if_ne (tgt := 60) (pc := 54) hx hb dM_compare_54 (by decide) (fun h6 => ?_) (fun h6 => ?_)
          · skip
            refine lv_aload_n (pc := 60) hx hb dM_compare_60 rfl (lv_at hl 0 rfl) ?_
            refine mo_g_kindX (pc := 61) hx hb hts hown hw w_362 dM_compare_61 ?_
            refine lv_iconst (v := 2) (pc := 64) hx hb dM_compare_64 (by decide) ?_
            refine lv_icmp_ne (tgt := 81) (pc := 65) hx hb dM_compare_65 (by decide) (fun h7 => ?_) (fun h7 => ?_)
            · skip
              refine lv_iconst (v := 0) (pc := 81) hx hb dM_compare_81 (by decide) ?_
              exact J82 (bI false) ((C_M_takeBoth ((C_M_format z1).1) ((C_M_format z1).2) rg k2 k3).1) ((C_M_takeBoth ((C_M_format z1).1) ((C_M_format z1).2) rg k2 k3).2.1) ((C_M_takeBoth ((C_M_format z1).1) ((C_M_format z1).2) rg k2 k3).2.2.1) ((C_M_takeBoth ((C_M_format z1).1) ((C_M_format z1).2) rg k2 k3).2.2.2.1) ((C_M_takeBoth ((C_M_format z1).1) ((C_M_format z1).2) rg k2 k3).2.2.2.2.1) ((C_M_takeBoth ((C_M_format z1).1) ((C_M_format z1).2) rg k2 k3).2.2.2.2.2.1) ((C_M_takeBoth ((C_M_format z1).1) ((C_M_format z1).2) rg k2 k3).2.2.2.2.2.2.1) ((C_M_takeBoth ((C_M_format z1).1) ((C_M_format z1).2) rg k2 k3).2.2.2.2.2.2.2) ((C_M_format z1).1) ((C_M_format z1).2) false (fmt_b _) ls _ _ (lv_sub hl [0] rfl) hw hS ((show C_M_compare_82 (bI false) ((C_M_takeBoth ((C_M_format z1).1) ((C_M_format z1).2) rg k2 k3).1) ((C_M_takeBoth ((C_M_format z1).1) ((C_M_format z1).2) rg k2 k3).2.1) ((C_M_takeBoth ((C_M_format z1).1) ((C_M_format z1).2) rg k2 k3).2.2.1) ((C_M_takeBoth ((C_M_format z1).1) ((C_M_format z1).2) rg k2 k3).2.2.2.1) ((C_M_takeBoth ((C_M_format z1).1) ((C_M_format z1).2) rg k2 k3).2.2.2.2.1) ((C_M_takeBoth ((C_M_format z1).1) ((C_M_format z1).2) rg k2 k3).2.2.2.2.2.1) ((C_M_takeBoth ((C_M_format z1).1) ((C_M_format z1).2) rg k2 k3).2.2.2.2.2.2.1) ((C_M_takeBoth ((C_M_format z1).1) ((C_M_format z1).2) rg k2 k3).2.2.2.2.2.2.2) ((C_M_format z1).1) ((C_M_format z1).2) false = C_M_compare kx ky sx sy px py fx fy pr bi rg z1 k2 k3 k4 from by rw [C_M_compare, if_neg h1, if_neg h3, if_neg h5, if_neg h6, if_neg h7]))
            · skip
              refine lv_aload_n (pc := 68) hx hb dM_compare_68 rfl (lv_at hl 0 rfl) ?_
              refine mo_g_partX (pc := 69) hx hb hts hown hw w_368 dM_compare_69 ?_
              refine lv_lconst (v := 0) (pc := 72) hx hb dM_compare_72 (by decide) ?_
              refine W.lcmp (pc := 73) hx hb dM_compare_73 ?_
              refine lv_if_ne (tgt := 81) (pc := 74) hx hb dM_compare_74 (by decide) (fun h8 => ?_) (fun h8 => ?_)
              · skip
                have h8 : ¬ (((C_M_takeBoth ((C_M_format z1).1) ((C_M_format z1).2) rg k2 k3).2.2.2.2.2.2.1) = 0) := fun q => h8 ((lg_cmp_eq _ _).2 q)
                refine lv_iconst (v := 0) (pc := 81) hx hb dM_compare_81 (by decide) ?_
                exact J82 (bI false) ((C_M_takeBoth ((C_M_format z1).1) ((C_M_format z1).2) rg k2 k3).1) ((C_M_takeBoth ((C_M_format z1).1) ((C_M_format z1).2) rg k2 k3).2.1) ((C_M_takeBoth ((C_M_format z1).1) ((C_M_format z1).2) rg k2 k3).2.2.1) ((C_M_takeBoth ((C_M_format z1).1) ((C_M_format z1).2) rg k2 k3).2.2.2.1) ((C_M_takeBoth ((C_M_format z1).1) ((C_M_format z1).2) rg k2 k3).2.2.2.2.1) ((C_M_takeBoth ((C_M_format z1).1) ((C_M_format z1).2) rg k2 k3).2.2.2.2.2.1) ((C_M_takeBoth ((C_M_format z1).1) ((C_M_format z1).2) rg k2 k3).2.2.2.2.2.2.1) ((C_M_takeBoth ((C_M_format z1).1) ((C_M_format z1).2) rg k2 k3).2.2.2.2.2.2.2) ((C_M_format z1).1) ((C_M_format z1).2) false (fmt_b _) ls _ _ (lv_sub hl [0] rfl) hw hS ((show C_M_compare_82 (bI false) ((C_M_takeBoth ((C_M_format z1).1) ((C_M_format z1).2) rg k2 k3).1) ((C_M_takeBoth ((C_M_format z1).1) ((C_M_format z1).2) rg k2 k3).2.1) ((C_M_takeBoth ((C_M_format z1).1) ((C_M_format z1).2) rg k2 k3).2.2.1) ((C_M_takeBoth ((C_M_format z1).1) ((C_M_format z1).2) rg k2 k3).2.2.2.1) ((C_M_takeBoth ((C_M_format z1).1) ((C_M_format z1).2) rg k2 k3).2.2.2.2.1) ((C_M_takeBoth ((C_M_format z1).1) ((C_M_format z1).2) rg k2 k3).2.2.2.2.2.1) ((C_M_takeBoth ((C_M_format z1).1) ((C_M_format z1).2) rg k2 k3).2.2.2.2.2.2.1) ((C_M_takeBoth ((C_M_format z1).1) ((C_M_format z1).2) rg k2 k3).2.2.2.2.2.2.2) ((C_M_format z1).1) ((C_M_format z1).2) false = C_M_compare kx ky sx sy px py fx fy pr bi rg z1 k2 k3 k4 from by rw [C_M_compare, if_neg h1, if_neg h3, if_neg h5, if_neg h6, if_pos h7, if_neg h8]))
              · skip
                have h8 : ((C_M_takeBoth ((C_M_format z1).1) ((C_M_format z1).2) rg k2 k3).2.2.2.2.2.2.1) = 0 := (lg_cmp_eq _ _).1 h8
                refine lv_iconst (v := 1) (pc := 77) hx hb dM_compare_77 (by decide) ?_
                refine lv_goto (tgt := 82) (pc := 78) hx hb dM_compare_78 (by decide) ?_
                exact J82 (bI false) ((C_M_takeBoth ((C_M_format z1).1) ((C_M_format z1).2) rg k2 k3).1) ((C_M_takeBoth ((C_M_format z1).1) ((C_M_format z1).2) rg k2 k3).2.1) ((C_M_takeBoth ((C_M_format z1).1) ((C_M_format z1).2) rg k2 k3).2.2.1) ((C_M_takeBoth ((C_M_format z1).1) ((C_M_format z1).2) rg k2 k3).2.2.2.1) ((C_M_takeBoth ((C_M_format z1).1) ((C_M_format z1).2) rg k2 k3).2.2.2.2.1) ((C_M_takeBoth ((C_M_format z1).1) ((C_M_format z1).2) rg k2 k3).2.2.2.2.2.1) ((C_M_takeBoth ((C_M_format z1).1) ((C_M_format z1).2) rg k2 k3).2.2.2.2.2.2.1) ((C_M_takeBoth ((C_M_format z1).1) ((C_M_format z1).2) rg k2 k3).2.2.2.2.2.2.2) ((C_M_format z1).1) ((C_M_format z1).2) true (fmt_b _) ls _ _ (lv_sub hl [0] rfl) hw hS ((show C_M_compare_82 (bI false) ((C_M_takeBoth ((C_M_format z1).1) ((C_M_format z1).2) rg k2 k3).1) ((C_M_takeBoth ((C_M_format z1).1) ((C_M_format z1).2) rg k2 k3).2.1) ((C_M_takeBoth ((C_M_format z1).1) ((C_M_format z1).2) rg k2 k3).2.2.1) ((C_M_takeBoth ((C_M_format z1).1) ((C_M_format z1).2) rg k2 k3).2.2.2.1) ((C_M_takeBoth ((C_M_format z1).1) ((C_M_format z1).2) rg k2 k3).2.2.2.2.1) ((C_M_takeBoth ((C_M_format z1).1) ((C_M_format z1).2) rg k2 k3).2.2.2.2.2.1) ((C_M_takeBoth ((C_M_format z1).1) ((C_M_format z1).2) rg k2 k3).2.2.2.2.2.2.1) ((C_M_takeBoth ((C_M_format z1).1) ((C_M_format z1).2) rg k2 k3).2.2.2.2.2.2.2) ((C_M_format z1).1) ((C_M_format z1).2) true = C_M_compare kx ky sx sy px py fx fy pr bi rg z1 k2 k3 k4 from by rw [C_M_compare, if_neg h1, if_neg h3, if_neg h5, if_neg h6, if_pos h7, if_pos h8]))
          · skip
            refine lv_iload (pc := 57) hx hb dM_compare_57 (lv_at hl 4 rfl) ?_
            have he9 := (show (k4, bI false, (C_M_takeBoth ((C_M_format z1).1) ((C_M_format z1).2) rg k2 k3).1, (C_M_takeBoth ((C_M_format z1).1) ((C_M_format z1).2) rg k2 k3).2.1, (C_M_takeBoth ((C_M_format z1).1) ((C_M_format z1).2) rg k2 k3).2.2.1, (C_M_takeBoth ((C_M_format z1).1) ((C_M_format z1).2) rg k2 k3).2.2.2.1, (C_M_takeBoth ((C_M_format z1).1) ((C_M_format z1).2) rg k2 k3).2.2.2.2.1, (C_M_takeBoth ((C_M_format z1).1) ((C_M_format z1).2) rg k2 k3).2.2.2.2.2.1, (C_M_takeBoth ((C_M_format z1).1) ((C_M_format z1).2) rg k2 k3).2.2.2.2.2.2.1, (C_M_takeBoth ((C_M_format z1).1) ((C_M_format z1).2) rg k2 k3).2.2.2.2.2.2.2, (C_M_format z1).1, (C_M_format z1).2) = C_M_compare kx ky sx sy px py fx fy pr bi rg z1 k2 k3 k4 from by rw [C_M_compare, if_neg h1, if_neg h3, if_neg h5, if_pos h6])
            exact hret _ _ _ _ _ _ (congrArg Prod.fst he9) (by rw [← he9]) hw hS dM_compare_59
      · exact absurd h4 (by decide)
    · skip
      have h3 : (C_M_in k3 15) = false := (bI_0 _).1 h3
      refine lv_iconst (v := 1) (pc := 19) hx hb dM_compare_19 (by decide) ?_
      refine lv_goto (tgt := 24) (pc := 20) hx hb dM_compare_20 (by decide) ?_
      refine mo_V (pc := 24) (rest := []) ⟨hx, hb, hml, hown, hts⟩ (c_M_fails l D cI cL m0 ra rb rc md fl er kx ky sx sy px py fx fy pr bi row oth rg true) (cwM_fails hts w_417 ⟨by decide, by decide⟩) hw hS rfl hl.1 rfl (Nat.le_of_ble_eq_true rfl) dM_compare_24 ⟨Nat.zero_le _, Nat.zero_le _⟩ (fun H locs hw hS => ?_)
      refine W.eq (g2 := F0 m 27 ls [.int 1]) rfl ?_
      refine lv_if_eq (tgt := 32) (pc := 27) hx hb dM_compare_27 (by decide) (fun h9 => ?_) (fun h9 => ?_)
      · exact absurd h9 (by decide)
      · skip
        refine lv_iconst (v := 0) (pc := 30) hx hb dM_compare_30 (by decide) ?_
        have he9 := (show (0, bI true, kx, ky, sx, sy, px, py, fx, fy, pr, bi) = C_M_compare kx ky sx sy px py fx fy pr bi rg z1 k2 k3 k4 from by rw [C_M_compare, if_neg h1, if_pos h3])
        exact hret _ _ _ _ _ _ (congrArg Prod.fst he9) (by rw [← he9]) hw hS dM_compare_31
def C_M_whole_289 (fl9 : Int32) (er9 : Int32) (kx9 : Int32) (sx9 : Int32) (px9 : Int32) (fx9 : Int64) (pr9 : Int32) (bi9 : Int32) (u9 : Int64) : Int64 × Int32 × Int32 × Int32 × Int32 × Int32 × Int64 × Int32 × Int32 :=
  if sx9 = 1 then
    (-u9, fl9, er9, kx9, sx9, px9, fx9, pr9, bi9)
  else
    (u9, fl9, er9, kx9, sx9, px9, fx9, pr9, bi9)
def C_M_whole_274 (fl9 : Int32) (er9 : Int32) (kx9 : Int32) (sx9 : Int32) (px9 : Int32) (fx9 : Int64) (pr9 : Int32) (bi9 : Int32) (u9 : Int64) (v11 : Bool) : Int64 × Int32 × Int32 × Int32 × Int32 × Int32 × Int64 × Int32 × Int32 :=
  if v11 = false then
    C_M_whole_289 fl9 er9 kx9 sx9 px9 fx9 pr9 bi9 u9
  else
    C_M_whole_289 (fl9 ||| 1) er9 kx9 sx9 px9 fx9 pr9 bi9 u9
def C_M_whole_227 (fl9 : Int32) (er9 : Int32) (kx9 : Int32) (sx9 : Int32) (px9 : Int32) (fx9 : Int64) (pr9 : Int32) (bi9 : Int32) (u5 : Int64) (u7 : Int64) (u9 : Int64) (v11 : Bool) (v12 : Bool) : Int64 × Int32 × Int32 × Int32 × Int32 × Int32 × Int64 × Int32 × Int32 :=
  if v12 = false then
    if u9 < 0 then
      if sx9 = 1 then
        (u7, fl9 ||| 16, er9, kx9, sx9, px9, fx9, pr9, bi9)
      else
        (u5, fl9 ||| 16, er9, kx9, sx9, px9, fx9, pr9, bi9)
    else
      if u9 ≤ u5 then
        C_M_whole_274 fl9 er9 kx9 sx9 px9 fx9 pr9 bi9 u9 v11
      else
        if sx9 = 1 then
          (u7, fl9 ||| 16, er9, kx9, sx9, px9, fx9, pr9, bi9)
        else
          (u5, fl9 ||| 16, er9, kx9, sx9, px9, fx9, pr9, bi9)
  else
    if sx9 = 1 then
      (u7, fl9 ||| 16, er9, kx9, sx9, px9, fx9, pr9, bi9)
    else
      (u5, fl9 ||| 16, er9, kx9, sx9, px9, fx9, pr9, bi9)
def C_M_whole_224 (fl9 : Int32) (er9 : Int32) (kx9 : Int32) (sx9 : Int32) (px9 : Int32) (fx9 : Int64) (pr9 : Int32) (bi9 : Int32) (u7 : Int64) : Int64 × Int32 × Int32 × Int32 × Int32 × Int32 × Int64 × Int32 × Int32 :=
  (u7, fl9, er9, kx9, sx9, px9, fx9, pr9, bi9)
def C_M_whole_186 (fl9 : Int32) (er9 : Int32) (kx9 : Int32) (sx9 : Int32) (px9 : Int32) (fx9 : Int64) (pr9 : Int32) (bi9 : Int32) (u4 : Int32) (u5 : Int64) (u7 : Int64) (u9 : Int64) (v11 : Bool) (v12 : Bool) : Int64 × Int32 × Int32 × Int32 × Int32 × Int32 × Int64 × Int32 × Int32 :=
  if v12 = false then
    if u9 = (jShl 1 u4) then
      if sx9 = 1 then
        if v11 = false then
          C_M_whole_224 fl9 er9 kx9 sx9 px9 fx9 pr9 bi9 u7
        else
          C_M_whole_224 (fl9 ||| 1) er9 kx9 sx9 px9 fx9 pr9 bi9 u7
      else
        C_M_whole_227 fl9 er9 kx9 sx9 px9 fx9 pr9 bi9 u5 u7 u9 v11 v12
    else
      C_M_whole_227 fl9 er9 kx9 sx9 px9 fx9 pr9 bi9 u5 u7 u9 v11 v12
  else
    C_M_whole_227 fl9 er9 kx9 sx9 px9 fx9 pr9 bi9 u5 u7 u9 v11 v12
def C_M_whole_112 (fl9 : Int32) (er9 : Int32) (kx9 : Int32) (sx9 : Int32) (px9 : Int32) (fx9 : Int64) (pr9 : Int32) (bi9 : Int32) : Nat → Int32 → Int64 → Int64 → Int64 → Bool → Bool → Int32 → Int64 × Int32 × Int32 × Int32 × Int32 × Int32 × Int64 × Int32 × Int32
  | 0, u4, u5, u7, u9, v11, v12, u13 => C_M_whole_186 fl9 er9 kx9 sx9 px9 fx9 pr9 bi9 u4 u5 u7 u9 v11 v12
  | n + 1, u4, u5, u7, u9, v11, v12, u13 =>
    if 53 ≤ u13 then
      C_M_whole_186 fl9 er9 kx9 sx9 px9 fx9 pr9 bi9 u4 u5 u7 u9 v11 v12
    else
      if v12 = false then
        if ((jShr fx9 u13) &&& 1) = 1 then
          if 0 ≤ (px9 + u13) then
            if (px9 + u13) ≤ u4 then
              C_M_whole_112 fl9 er9 kx9 sx9 px9 fx9 pr9 bi9 n u4 u5 u7 (u9 + (jShl 1 (px9 + u13))) v11 v12 (u13 + 1)
            else
              C_M_whole_112 fl9 er9 kx9 sx9 px9 fx9 pr9 bi9 n u4 u5 u7 u9 v11 true (u13 + 1)
          else
            C_M_whole_112 fl9 er9 kx9 sx9 px9 fx9 pr9 bi9 n u4 u5 u7 u9 true v12 (u13 + 1)
        else
          C_M_whole_112 fl9 er9 kx9 sx9 px9 fx9 pr9 bi9 n u4 u5 u7 u9 v11 v12 (u13 + 1)
      else
        C_M_whole_186 fl9 er9 kx9 sx9 px9 fx9 pr9 bi9 u4 u5 u7 u9 v11 v12
def C_M_whole_107 (fl9 : Int32) (er9 : Int32) (kx9 : Int32) (sx9 : Int32) (px9 : Int32) (fx9 : Int64) (pr9 : Int32) (bi9 : Int32) (u4 : Int32) (u5 : Int64) (u7 : Int64) (u9 : Int64) (v11 : Bool) (v12 : Bool) : Int64 × Int32 × Int32 × Int32 × Int32 × Int32 × Int64 × Int32 × Int32 :=
  C_M_whole_112 fl9 er9 kx9 sx9 px9 fx9 pr9 bi9 ((53 - (0 : Int32).toInt).toNat) u4 u5 u7 u9 v11 v12 0
def C_M_whole_59 (fl9 : Int32) (er9 : Int32) (kx9 : Int32) (sx9 : Int32) (px9 : Int32) (fx9 : Int64) (pr9 : Int32) (bi9 : Int32) (u4 : Int32) (u5 : Int64) : Int64 × Int32 × Int32 × Int32 × Int32 × Int32 × Int64 × Int32 × Int32 :=
  if kx9 = 0 then
    (0, fl9 ||| 16, er9, kx9, sx9, px9, fx9, pr9, bi9)
  else
    if kx9 = 1 then
      C_M_whole_107 fl9 er9 kx9 sx9 px9 fx9 pr9 bi9 u4 u5 ((-u5) - 1) 0 false true
    else
      C_M_whole_107 fl9 er9 kx9 sx9 px9 fx9 pr9 bi9 u4 u5 ((-u5) - 1) 0 false false
def C_M_whole_44 (fl9 : Int32) (er9 : Int32) (kx9 : Int32) (sx9 : Int32) (px9 : Int32) (fx9 : Int64) (pr9 : Int32) (bi9 : Int32) (v3 : Bool) (u4 : Int32) : Int64 × Int32 × Int32 × Int32 × Int32 × Int32 × Int64 × Int32 × Int32 :=
  if v3 = false then
    C_M_whole_59 fl9 er9 kx9 sx9 px9 fx9 pr9 bi9 u4 9223372036854775807
  else
    C_M_whole_59 fl9 er9 kx9 sx9 px9 fx9 pr9 bi9 u4 2147483647
def C_M_whole (fl : Int32) (kx : Int32) (sx : Int32) (px : Int32) (fx : Int64) (pr : Int32) (bi : Int32) (rg : Nat → Int64) (z1 : Bool) (k2 : Int32) (z3 : Bool) : Int64 × Int32 × Int32 × Int32 × Int32 × Int32 × Int64 × Int32 × Int32 :=
  if (C_M_in k2 15) = false then
    (0, fl, bI true, kx, sx, px, fx, pr, bi)
  else
    if z3 = false then
      C_M_whole_44 fl (bI false) ((C_M_take ((C_M_format z1).1) ((C_M_format z1).2) rg k2).1) ((C_M_take ((C_M_format z1).1) ((C_M_format z1).2) rg k2).2.1) ((C_M_take ((C_M_format z1).1) ((C_M_format z1).2) rg k2).2.2.1) ((C_M_take ((C_M_format z1).1) ((C_M_format z1).2) rg k2).2.2.2) ((C_M_format z1).1) ((C_M_format z1).2) z3 63
    else
      C_M_whole_44 fl (bI false) ((C_M_take ((C_M_format z1).1) ((C_M_format z1).2) rg k2).1) ((C_M_take ((C_M_format z1).1) ((C_M_format z1).2) rg k2).2.1) ((C_M_take ((C_M_format z1).1) ((C_M_format z1).2) rg k2).2.2.1) ((C_M_take ((C_M_format z1).1) ((C_M_format z1).2) rg k2).2.2.2) ((C_M_format z1).1) ((C_M_format z1).2) z3 31
abbrev rmM_whole : Room := { frames := 1, cells := 0, slots := 0, locals := 27 }
theorem cwM_whole {R : Room} {s : State} {args : Array Value} {w0 : Cond} {own : String} {idx : Nat} (hts : ∀ w ∈ (w0 :: bigW), w.before args s = true) (hl : Cond.methodLink own idx yM_whole ∈ bigW) (hR : rmM_whole.frames + 1 ≤ R.frames ∧ 8 + (15 + 11) + rmM_whole.locals ≤ R.locals) : CallW R s args own "FloatUnitModel" idx yM_whole cM_whole 15 (some .long) (wsM yM_whole cM_whole 15 (some .long)) rmM_whole 0 0 3 :=
  cwV 3 hts (big_V hl w_510 w_511 w_2 w_512) rfl rfl rfl ⟨rfl, by decide, by decide, by decide +kernel⟩ hR
set_option maxRecDepth 100000 in
set_option maxHeartbeats 8000000 in
theorem c_M_whole (l : Launch) (D : va_G) (cI cL : ClassId) (m0 ra rb rc : Nat) (md fl er kx ky sx sy px py : Int32) (fx fy : Int64) (pr bi : Int32) (row oth : Nat → Int32) (rg : Nat → Int64) (z1 : Bool) (k2 : Int32) (z3 : Bool) : MoM l D cI cL m0 ra rb rc yM_whole (wsM yM_whole cM_whole 15 (some .long)) rmM_whole [.int (bI z1), .int k2, .int (bI z3)] ((md, fl, er, kx, ky, sx, sy, px, py), (fx, fy), (pr, bi), row, oth, rg) (some (.long ((C_M_whole fl kx sx px fx pr bi rg z1 k2 z3).1))) ((md, ((C_M_whole fl kx sx px fx pr bi rg z1 k2 z3).2.1), ((C_M_whole fl kx sx px fx pr bi rg z1 k2 z3).2.2.1), ((C_M_whole fl kx sx px fx pr bi rg z1 k2 z3).2.2.2.1), ky, ((C_M_whole fl kx sx px fx pr bi rg z1 k2 z3).2.2.2.2.1), sy, ((C_M_whole fl kx sx px fx pr bi rg z1 k2 z3).2.2.2.2.2.1), py), (((C_M_whole fl kx sx px fx pr bi rg z1 k2 z3).2.2.2.2.2.2.1), fy), (((C_M_whole fl kx sx px fx pr bi rg z1 k2 z3).2.2.2.2.2.2.2.1), ((C_M_whole fl kx sx px fx pr bi rg z1 k2 z3).2.2.2.2.2.2.2.2)), row, oth, rg) := by
  refine mo_ofL (cc := cM_whole) (maxL := 15) (by decide) rfl (Nat.le_of_ble_eq_true rfl) ?_
  intro p e s m args below meth c Q hx hb hml hown hts H locs hS hw hret ls hl
  have hl : lv_has ls 15 [(0, .ref m0), (1, .int (bI z1)), (2, .int k2), (3, .int (bI z3))] := hl
  have J289 : ∀ (fl9 : Int32) (er9 : Int32) (kx9 : Int32) (sx9 : Int32) (px9 : Int32) (fx9 : Int64) (pr9 : Int32) (bi9 : Int32) (u9 : Int64) (ls : Array Slot) (H : Heap) (locs : List Loc), lv_has ls 15 [(0, .ref m0), (9, .long u9)] → MOw D cI cL m0 ra rb rc ((md, fl9, er9, kx9, ky, sx9, sy, px9, py), (fx9, fy), (pr9, bi9), row, oth, rg) s H → va_S (mA m0 ra rb rc) s.heap H locs → C_M_whole_289 fl9 er9 kx9 sx9 px9 fx9 pr9 bi9 u9 = C_M_whole fl kx sx px fx pr bi rg z1 k2 z3 → W p l e rmM_whole s m args below meth c H locs 0 0 Q (F0 m 289 ls []) := by
    intro fl9 er9 kx9 sx9 px9 fx9 pr9 bi9 u9 ls H locs hl hw hS he
    refine lv_aload_n (pc := 289) hx hb dM_whole_289 rfl (lv_at hl 0 rfl) ?_
    refine mo_g_signX (pc := 290) hx hb hts hown hw w_364 dM_whole_290 ?_
    refine lv_iconst (v := 1) (pc := 293) hx hb dM_whole_293 (by decide) ?_
    refine lv_icmp_ne (tgt := 303) (pc := 294) hx hb dM_whole_294 (by decide) (fun h701 => ?_) (fun h701 => ?_)
    · skip
      refine lv_lload (pc := 303) hx hb dM_whole_303 (lv_at hl 1 rfl) ?_
      have he9 := (show (u9, fl9, er9, kx9, sx9, px9, fx9, pr9, bi9) = C_M_whole_289 fl9 er9 kx9 sx9 px9 fx9 pr9 bi9 u9 from by rw [C_M_whole_289, if_neg h701]).trans he
      exact hret _ _ _ _ _ _ (congrArg Prod.fst he9) (by rw [← he9]) hw hS dM_whole_305
    · skip
      refine lv_lload (pc := 297) hx hb dM_whole_297 (lv_at hl 1 rfl) ?_
      refine lv_lneg (pc := 299) hx hb dM_whole_299 ?_
      refine lv_goto (tgt := 305) (pc := 300) hx hb dM_whole_300 (by decide) ?_
      have he9 := (show (-u9, fl9, er9, kx9, sx9, px9, fx9, pr9, bi9) = C_M_whole_289 fl9 er9 kx9 sx9 px9 fx9 pr9 bi9 u9 from by rw [C_M_whole_289, if_pos h701]).trans he
      exact hret _ _ _ _ _ _ (congrArg Prod.fst he9) (by rw [← he9]) hw hS dM_whole_305
  have J274 : ∀ (fl9 : Int32) (er9 : Int32) (kx9 : Int32) (sx9 : Int32) (px9 : Int32) (fx9 : Int64) (pr9 : Int32) (bi9 : Int32) (u9 : Int64) (v11 : Bool) (ls : Array Slot) (H : Heap) (locs : List Loc), lv_has ls 15 [(0, .ref m0), (9, .long u9), (11, .int (bI v11))] → MOw D cI cL m0 ra rb rc ((md, fl9, er9, kx9, ky, sx9, sy, px9, py), (fx9, fy), (pr9, bi9), row, oth, rg) s H → va_S (mA m0 ra rb rc) s.heap H locs → C_M_whole_274 fl9 er9 kx9 sx9 px9 fx9 pr9 bi9 u9 v11 = C_M_whole fl kx sx px fx pr bi rg z1 k2 z3 → W p l e rmM_whole s m args below meth c H locs 0 0 Q (F0 m 274 ls []) := by
    intro fl9 er9 kx9 sx9 px9 fx9 pr9 bi9 u9 v11 ls H locs hl hw hS he
    refine lv_iload (pc := 274) hx hb dM_whole_274 (lv_at hl 2 rfl) ?_
    refine lv_if_eq (tgt := 289) (pc := 276) hx hb dM_whole_276 (by decide) (fun h601 => ?_) (fun h601 => ?_)
    · skip
      have h601 : v11 = false := (bI_0 _).1 h601
      exact J289 fl9 er9 kx9 sx9 px9 fx9 pr9 bi9 u9 ls _ _ (lv_sub hl [0, 1] rfl) hw hS ((show C_M_whole_289 fl9 er9 kx9 sx9 px9 fx9 pr9 bi9 u9 = C_M_whole_274 fl9 er9 kx9 sx9 px9 fx9 pr9 bi9 u9 v11 from by rw [C_M_whole_274, if_pos h601]).trans he)
    · skip
      have h601 : ¬ (v11 = false) := fun q => h601 ((bI_0 _).2 q)
      refine lv_aload_n (pc := 279) hx hb dM_whole_279 rfl (lv_at hl 0 rfl) ?_
      refine lv_dup (pc := 280) hx hb dM_whole_280 rfl ?_
      refine mo_g_flags (pc := 281) hx hb hts hown hw w_360 dM_whole_281 ?_
      refine lv_iconst (v := 1) (pc := 284) hx hb dM_whole_284 (by decide) ?_
      refine lv_ior (pc := 285) hx hb dM_whole_285 ?_
      refine mo_p_flags (pc := 286) hx hb hts hown hw hS w_360 dM_whole_286 (fun H locs hw hS => ?_)
      exact J289 (fl9 ||| 1) er9 kx9 sx9 px9 fx9 pr9 bi9 u9 ls _ _ (lv_sub hl [0, 1] rfl) hw hS ((show C_M_whole_289 (fl9 ||| 1) er9 kx9 sx9 px9 fx9 pr9 bi9 u9 = C_M_whole_274 fl9 er9 kx9 sx9 px9 fx9 pr9 bi9 u9 v11 from by rw [C_M_whole_274, if_neg h601]).trans he)
  have J227 : ∀ (fl9 : Int32) (er9 : Int32) (kx9 : Int32) (sx9 : Int32) (px9 : Int32) (fx9 : Int64) (pr9 : Int32) (bi9 : Int32) (u5 : Int64) (u7 : Int64) (u9 : Int64) (v11 : Bool) (v12 : Bool) (ls : Array Slot) (H : Heap) (locs : List Loc), lv_has ls 15 [(0, .ref m0), (5, .long u5), (7, .long u7), (9, .long u9), (11, .int (bI v11)), (12, .int (bI v12))] → MOw D cI cL m0 ra rb rc ((md, fl9, er9, kx9, ky, sx9, sy, px9, py), (fx9, fy), (pr9, bi9), row, oth, rg) s H → va_S (mA m0 ra rb rc) s.heap H locs → C_M_whole_227 fl9 er9 kx9 sx9 px9 fx9 pr9 bi9 u5 u7 u9 v11 v12 = C_M_whole fl kx sx px fx pr bi rg z1 k2 z3 → W p l e rmM_whole s m args below meth c H locs 0 0 Q (F0 m 227 ls []) := by
    intro fl9 er9 kx9 sx9 px9 fx9 pr9 bi9 u5 u7 u9 v11 v12 ls H locs hl hw hS he
    refine lv_iload (pc := 227) hx hb dM_whole_227 (lv_at hl 5 rfl) ?_
    refine lv_if_ne (tgt := 247) (pc := 229) hx hb dM_whole_229 (by decide) (fun h501 => ?_) (fun h501 => ?_)
    · skip
      have h501 : ¬ (v12 = false) := fun q => h501 ((bI_0 _).2 q)
      refine lv_aload_n (pc := 247) hx hb dM_whole_247 rfl (lv_at hl 0 rfl) ?_
      refine lv_dup (pc := 248) hx hb dM_whole_248 rfl ?_
      refine mo_g_flags (pc := 249) hx hb hts hown hw w_360 dM_whole_249 ?_
      refine lv_bipush (v := 16) (pc := 252) hx hb dM_whole_252 (by decide) ?_
      refine lv_ior (pc := 254) hx hb dM_whole_254 ?_
      refine mo_p_flags (pc := 255) hx hb hts hown hw hS w_360 dM_whole_255 (fun H locs hw hS => ?_)
      refine lv_aload_n (pc := 258) hx hb dM_whole_258 rfl (lv_at hl 0 rfl) ?_
      refine mo_g_signX (pc := 259) hx hb hts hown hw w_364 dM_whole_259 ?_
      refine lv_iconst (v := 1) (pc := 262) hx hb dM_whole_262 (by decide) ?_
      refine lv_icmp_ne (tgt := 271) (pc := 263) hx hb dM_whole_263 (by decide) (fun h502 => ?_) (fun h502 => ?_)
      · skip
        refine lv_lload (pc := 271) hx hb dM_whole_271 (lv_at hl 1 rfl) ?_
        have he9 := (show (u5, fl9 ||| 16, er9, kx9, sx9, px9, fx9, pr9, bi9) = C_M_whole_227 fl9 er9 kx9 sx9 px9 fx9 pr9 bi9 u5 u7 u9 v11 v12 from by rw [C_M_whole_227, if_neg h501, if_neg h502]).trans he
        exact hret _ _ _ _ _ _ (congrArg Prod.fst he9) (by rw [← he9]) hw hS dM_whole_273
      · skip
        refine lv_lload (pc := 266) hx hb dM_whole_266 (lv_at hl 2 rfl) ?_
        refine lv_goto (tgt := 273) (pc := 268) hx hb dM_whole_268 (by decide) ?_
        have he9 := (show (u7, fl9 ||| 16, er9, kx9, sx9, px9, fx9, pr9, bi9) = C_M_whole_227 fl9 er9 kx9 sx9 px9 fx9 pr9 bi9 u5 u7 u9 v11 v12 from by rw [C_M_whole_227, if_neg h501, if_pos h502]).trans he
        exact hret _ _ _ _ _ _ (congrArg Prod.fst he9) (by rw [← he9]) hw hS dM_whole_273
    · skip
      have h501 : v12 = false := (bI_0 _).1 h501
      refine lv_lload (pc := 232) hx hb dM_whole_232 (lv_at hl 3 rfl) ?_
      refine lv_lconst (v := 0) (pc := 234) hx hb dM_whole_234 (by decide) ?_
      refine W.lcmp (pc := 235) hx hb dM_whole_235 ?_
      refine lv_if_lt (tgt := 247) (pc := 236) hx hb dM_whole_236 (by decide) (fun h503 => ?_) (fun h503 => ?_)
      · skip
        have h503 : u9 < 0 := (lg_cmp_lt _ _).1 h503
        refine lv_aload_n (pc := 247) hx hb dM_whole_247 rfl (lv_at hl 0 rfl) ?_
        refine lv_dup (pc := 248) hx hb dM_whole_248 rfl ?_
        refine mo_g_flags (pc := 249) hx hb hts hown hw w_360 dM_whole_249 ?_
        refine lv_bipush (v := 16) (pc := 252) hx hb dM_whole_252 (by decide) ?_
        refine lv_ior (pc := 254) hx hb dM_whole_254 ?_
        refine mo_p_flags (pc := 255) hx hb hts hown hw hS w_360 dM_whole_255 (fun H locs hw hS => ?_)
        refine lv_aload_n (pc := 258) hx hb dM_whole_258 rfl (lv_at hl 0 rfl) ?_
        refine mo_g_signX (pc := 259) hx hb hts hown hw w_364 dM_whole_259 ?_
        refine lv_iconst (v := 1) (pc := 262) hx hb dM_whole_262 (by decide) ?_
        refine lv_icmp_ne (tgt := 271) (pc := 263) hx hb dM_whole_263 (by decide) (fun h504 => ?_) (fun h504 => ?_)
        · skip
          refine lv_lload (pc := 271) hx hb dM_whole_271 (lv_at hl 1 rfl) ?_
          have he9 := (show (u5, fl9 ||| 16, er9, kx9, sx9, px9, fx9, pr9, bi9) = C_M_whole_227 fl9 er9 kx9 sx9 px9 fx9 pr9 bi9 u5 u7 u9 v11 v12 from by rw [C_M_whole_227, if_pos h501, if_pos h503, if_neg h504]).trans he
          exact hret _ _ _ _ _ _ (congrArg Prod.fst he9) (by rw [← he9]) hw hS dM_whole_273
        · skip
          refine lv_lload (pc := 266) hx hb dM_whole_266 (lv_at hl 2 rfl) ?_
          refine lv_goto (tgt := 273) (pc := 268) hx hb dM_whole_268 (by decide) ?_
          have he9 := (show (u7, fl9 ||| 16, er9, kx9, sx9, px9, fx9, pr9, bi9) = C_M_whole_227 fl9 er9 kx9 sx9 px9 fx9 pr9 bi9 u5 u7 u9 v11 v12 from by rw [C_M_whole_227, if_pos h501, if_pos h503, if_pos h504]).trans he
          exact hret _ _ _ _ _ _ (congrArg Prod.fst he9) (by rw [← he9]) hw hS dM_whole_273
      · skip
        have h503 : ¬ (u9 < 0) := fun q => h503 ((lg_cmp_lt _ _).2 q)
        refine lv_lload (pc := 239) hx hb dM_whole_239 (lv_at hl 3 rfl) ?_
        refine lv_lload (pc := 241) hx hb dM_whole_241 (lv_at hl 1 rfl) ?_
        refine W.lcmp (pc := 243) hx hb dM_whole_243 ?_
        refine lv_if_le (tgt := 274) (pc := 244) hx hb dM_whole_244 (by decide) (fun h505 => ?_) (fun h505 => ?_)
        · skip
          have h505 : u9 ≤ u5 := (lg_cmp_le _ _).1 h505
          exact J274 fl9 er9 kx9 sx9 px9 fx9 pr9 bi9 u9 v11 ls _ _ (lv_sub hl [0, 3, 4] rfl) hw hS ((show C_M_whole_274 fl9 er9 kx9 sx9 px9 fx9 pr9 bi9 u9 v11 = C_M_whole_227 fl9 er9 kx9 sx9 px9 fx9 pr9 bi9 u5 u7 u9 v11 v12 from by rw [C_M_whole_227, if_pos h501, if_neg h503, if_pos h505]).trans he)
        · skip
          have h505 : ¬ (u9 ≤ u5) := fun q => h505 ((lg_cmp_le _ _).2 q)
          refine lv_aload_n (pc := 247) hx hb dM_whole_247 rfl (lv_at hl 0 rfl) ?_
          refine lv_dup (pc := 248) hx hb dM_whole_248 rfl ?_
          refine mo_g_flags (pc := 249) hx hb hts hown hw w_360 dM_whole_249 ?_
          refine lv_bipush (v := 16) (pc := 252) hx hb dM_whole_252 (by decide) ?_
          refine lv_ior (pc := 254) hx hb dM_whole_254 ?_
          refine mo_p_flags (pc := 255) hx hb hts hown hw hS w_360 dM_whole_255 (fun H locs hw hS => ?_)
          refine lv_aload_n (pc := 258) hx hb dM_whole_258 rfl (lv_at hl 0 rfl) ?_
          refine mo_g_signX (pc := 259) hx hb hts hown hw w_364 dM_whole_259 ?_
          refine lv_iconst (v := 1) (pc := 262) hx hb dM_whole_262 (by decide) ?_
          refine lv_icmp_ne (tgt := 271) (pc := 263) hx hb dM_whole_263 (by decide) (fun h506 => ?_) (fun h506 => ?_)
          · skip
            refine lv_lload (pc := 271) hx hb dM_whole_271 (lv_at hl 1 rfl) ?_
            have he9 := (show (u5, fl9 ||| 16, er9, kx9, sx9, px9, fx9, pr9, bi9) = C_M_whole_227 fl9 er9 kx9 sx9 px9 fx9 pr9 bi9 u5 u7 u9 v11 v12 from by rw [C_M_whole_227, if_pos h501, if_neg h503, if_neg h505, if_neg h506]).trans he
            exact hret _ _ _ _ _ _ (congrArg Prod.fst he9) (by rw [← he9]) hw hS dM_whole_273
          · skip
            refine lv_lload (pc := 266) hx hb dM_whole_266 (lv_at hl 2 rfl) ?_
            refine lv_goto (tgt := 273) (pc := 268) hx hb dM_whole_268 (by decide) ?_
            have he9 := (show (u7, fl9 ||| 16, er9, kx9, sx9, px9, fx9, pr9, bi9) = C_M_whole_227 fl9 er9 kx9 sx9 px9 fx9 pr9 bi9 u5 u7 u9 v11 v12 from by rw [C_M_whole_227, if_pos h501, if_neg h503, if_neg h505, if_pos h506]).trans he
            exact hret _ _ _ _ _ _ (congrArg Prod.fst he9) (by rw [← he9]) hw hS dM_whole_273
  have J224 : ∀ (fl9 : Int32) (er9 : Int32) (kx9 : Int32) (sx9 : Int32) (px9 : Int32) (fx9 : Int64) (pr9 : Int32) (bi9 : Int32) (u7 : Int64) (ls : Array Slot) (H : Heap) (locs : List Loc), lv_has ls 15 [(0, .ref m0), (7, .long u7)] → MOw D cI cL m0 ra rb rc ((md, fl9, er9, kx9, ky, sx9, sy, px9, py), (fx9, fy), (pr9, bi9), row, oth, rg) s H → va_S (mA m0 ra rb rc) s.heap H locs → C_M_whole_224 fl9 er9 kx9 sx9 px9 fx9 pr9 bi9 u7 = C_M_whole fl kx sx px fx pr bi rg z1 k2 z3 → W p l e rmM_whole s m args below meth c H locs 0 0 Q (F0 m 224 ls []) := by
    intro fl9 er9 kx9 sx9 px9 fx9 pr9 bi9 u7 ls H locs hl hw hS he
    refine lv_lload (pc := 224) hx hb dM_whole_224 (lv_at hl 1 rfl) ?_
    have he9 := (show (u7, fl9, er9, kx9, sx9, px9, fx9, pr9, bi9) = C_M_whole_224 fl9 er9 kx9 sx9 px9 fx9 pr9 bi9 u7 from by rw [C_M_whole_224]).trans he
    exact hret _ _ _ _ _ _ (congrArg Prod.fst he9) (by rw [← he9]) hw hS dM_whole_226
  have J186 : ∀ (fl9 : Int32) (er9 : Int32) (kx9 : Int32) (sx9 : Int32) (px9 : Int32) (fx9 : Int64) (pr9 : Int32) (bi9 : Int32) (u4 : Int32) (u5 : Int64) (u7 : Int64) (u9 : Int64) (v11 : Bool) (v12 : Bool) (ls : Array Slot) (H : Heap) (locs : List Loc), lv_has ls 15 [(0, .ref m0), (4, .int u4), (5, .long u5), (7, .long u7), (9, .long u9), (11, .int (bI v11)), (12, .int (bI v12))] → MOw D cI cL m0 ra rb rc ((md, fl9, er9, kx9, ky, sx9, sy, px9, py), (fx9, fy), (pr9, bi9), row, oth, rg) s H → va_S (mA m0 ra rb rc) s.heap H locs → C_M_whole_186 fl9 er9 kx9 sx9 px9 fx9 pr9 bi9 u4 u5 u7 u9 v11 v12 = C_M_whole fl kx sx px fx pr bi rg z1 k2 z3 → W p l e rmM_whole s m args below meth c H locs 0 0 Q (F0 m 186 ls []) := by
    intro fl9 er9 kx9 sx9 px9 fx9 pr9 bi9 u4 u5 u7 u9 v11 v12 ls H locs hl hw hS he
    refine lv_iload (pc := 186) hx hb dM_whole_186 (lv_at hl 6 rfl) ?_
    refine lv_if_ne (tgt := 227) (pc := 188) hx hb dM_whole_188 (by decide) (fun h401 => ?_) (fun h401 => ?_)
    · skip
      have h401 : ¬ (v12 = false) := fun q => h401 ((bI_0 _).2 q)
      exact J227 fl9 er9 kx9 sx9 px9 fx9 pr9 bi9 u5 u7 u9 v11 v12 ls _ _ (lv_sub hl [0, 2, 3, 4, 5, 6] rfl) hw hS ((show C_M_whole_227 fl9 er9 kx9 sx9 px9 fx9 pr9 bi9 u5 u7 u9 v11 v12 = C_M_whole_186 fl9 er9 kx9 sx9 px9 fx9 pr9 bi9 u4 u5 u7 u9 v11 v12 from by rw [C_M_whole_186, if_neg h401]).trans he)
    · skip
      have h401 : v12 = false := (bI_0 _).1 h401
      refine lv_lload (pc := 191) hx hb dM_whole_191 (lv_at hl 4 rfl) ?_
      refine lv_lconst (v := 1) (pc := 193) hx hb dM_whole_193 (by decide) ?_
      refine lv_iload (pc := 194) hx hb dM_whole_194 (lv_at hl 1 rfl) ?_
      refine lv_lshl (v := jShl 1 u4) (pc := 196) hx hb dM_whole_196 rfl ?_
      refine W.lcmp (pc := 197) hx hb dM_whole_197 ?_
      refine lv_if_ne (tgt := 227) (pc := 198) hx hb dM_whole_198 (by decide) (fun h402 => ?_) (fun h402 => ?_)
      · skip
        have h402 : ¬ (u9 = (jShl 1 u4)) := fun q => h402 ((lg_cmp_eq _ _).2 q)
        exact J227 fl9 er9 kx9 sx9 px9 fx9 pr9 bi9 u5 u7 u9 v11 v12 ls _ _ (lv_sub hl [0, 2, 3, 4, 5, 6] rfl) hw hS ((show C_M_whole_227 fl9 er9 kx9 sx9 px9 fx9 pr9 bi9 u5 u7 u9 v11 v12 = C_M_whole_186 fl9 er9 kx9 sx9 px9 fx9 pr9 bi9 u4 u5 u7 u9 v11 v12 from by rw [C_M_whole_186, if_pos h401, if_neg h402]).trans he)
      · skip
        have h402 : u9 = (jShl 1 u4) := (lg_cmp_eq _ _).1 h402
        refine lv_aload_n (pc := 201) hx hb dM_whole_201 rfl (lv_at hl 0 rfl) ?_
        refine mo_g_signX (pc := 202) hx hb hts hown hw w_364 dM_whole_202 ?_
        refine lv_iconst (v := 1) (pc := 205) hx hb dM_whole_205 (by decide) ?_
        refine lv_icmp_ne (tgt := 227) (pc := 206) hx hb dM_whole_206 (by decide) (fun h403 => ?_) (fun h403 => ?_)
        · skip
          exact J227 fl9 er9 kx9 sx9 px9 fx9 pr9 bi9 u5 u7 u9 v11 v12 ls _ _ (lv_sub hl [0, 2, 3, 4, 5, 6] rfl) hw hS ((show C_M_whole_227 fl9 er9 kx9 sx9 px9 fx9 pr9 bi9 u5 u7 u9 v11 v12 = C_M_whole_186 fl9 er9 kx9 sx9 px9 fx9 pr9 bi9 u4 u5 u7 u9 v11 v12 from by rw [C_M_whole_186, if_pos h401, if_pos h402, if_neg h403]).trans he)
        · skip
          refine lv_iload (pc := 209) hx hb dM_whole_209 (lv_at hl 5 rfl) ?_
          refine lv_if_eq (tgt := 224) (pc := 211) hx hb dM_whole_211 (by decide) (fun h404 => ?_) (fun h404 => ?_)
          · skip
            have h404 : v11 = false := (bI_0 _).1 h404
            exact J224 fl9 er9 kx9 sx9 px9 fx9 pr9 bi9 u7 ls _ _ (lv_sub hl [0, 3] rfl) hw hS ((show C_M_whole_224 fl9 er9 kx9 sx9 px9 fx9 pr9 bi9 u7 = C_M_whole_186 fl9 er9 kx9 sx9 px9 fx9 pr9 bi9 u4 u5 u7 u9 v11 v12 from by rw [C_M_whole_186, if_pos h401, if_pos h402, if_pos h403, if_pos h404]).trans he)
          · skip
            have h404 : ¬ (v11 = false) := fun q => h404 ((bI_0 _).2 q)
            refine lv_aload_n (pc := 214) hx hb dM_whole_214 rfl (lv_at hl 0 rfl) ?_
            refine lv_dup (pc := 215) hx hb dM_whole_215 rfl ?_
            refine mo_g_flags (pc := 216) hx hb hts hown hw w_360 dM_whole_216 ?_
            refine lv_iconst (v := 1) (pc := 219) hx hb dM_whole_219 (by decide) ?_
            refine lv_ior (pc := 220) hx hb dM_whole_220 ?_
            refine mo_p_flags (pc := 221) hx hb hts hown hw hS w_360 dM_whole_221 (fun H locs hw hS => ?_)
            exact J224 (fl9 ||| 1) er9 kx9 sx9 px9 fx9 pr9 bi9 u7 ls _ _ (lv_sub hl [0, 3] rfl) hw hS ((show C_M_whole_224 (fl9 ||| 1) er9 kx9 sx9 px9 fx9 pr9 bi9 u7 = C_M_whole_186 fl9 er9 kx9 sx9 px9 fx9 pr9 bi9 u4 u5 u7 u9 v11 v12 from by rw [C_M_whole_186, if_pos h401, if_pos h402, if_pos h403, if_neg h404]).trans he)
  have L112 : ∀ (n : Nat) (fl9 : Int32) (er9 : Int32) (kx9 : Int32) (sx9 : Int32) (px9 : Int32) (fx9 : Int64) (pr9 : Int32) (bi9 : Int32) (u4 : Int32) (u5 : Int64) (u7 : Int64) (u9 : Int64) (v11 : Bool) (v12 : Bool) (u13 : Int32) (ls : Array Slot) (H : Heap) (locs : List Loc), 53 - u13.toInt ≤ (n : Int) → lv_has ls 15 [(0, .ref m0), (4, .int u4), (5, .long u5), (7, .long u7), (9, .long u9), (11, .int (bI v11)), (12, .int (bI v12)), (13, .int u13)] → MOw D cI cL m0 ra rb rc ((md, fl9, er9, kx9, ky, sx9, sy, px9, py), (fx9, fy), (pr9, bi9), row, oth, rg) s H → va_S (mA m0 ra rb rc) s.heap H locs → C_M_whole_112 fl9 er9 kx9 sx9 px9 fx9 pr9 bi9 n u4 u5 u7 u9 v11 v12 u13 = C_M_whole fl kx sx px fx pr bi rg z1 k2 z3 → W p l e rmM_whole s m args below meth c H locs 0 0 Q (F0 m 112 ls []) := by
    intro n
    induction n with
    | zero =>
      intro fl9 er9 kx9 sx9 px9 fx9 pr9 bi9 u4 u5 u7 u9 v11 v12 u13 ls H locs hm hl hw hS he
      refine lv_iload (pc := 112) hx hb dM_whole_112 (lv_at hl 7 rfl) ?_
      refine lv_bipush (v := 53) (pc := 114) hx hb dM_whole_114 (by decide) ?_
      refine lv_icmp_ge (tgt := 186) (pc := 116) hx hb dM_whole_116 (by decide) (fun _ => J186 fl9 er9 kx9 sx9 px9 fx9 pr9 bi9 u4 u5 u7 u9 v11 v12 ls _ _ (lv_sub hl [0, 1, 2, 3, 4, 5, 6] rfl) hw hS he) (fun h => absurd (le_of_toInt (by rw [c53]; omega)) h)
    | succ n ih =>
      intro fl9 er9 kx9 sx9 px9 fx9 pr9 bi9 u4 u5 u7 u9 v11 v12 u13 ls H locs hm hl hw hS he
      refine lv_iload (pc := 112) hx hb dM_whole_112 (lv_at hl 7 rfl) ?_
      refine lv_bipush (v := 53) (pc := 114) hx hb dM_whole_114 (by decide) ?_
      refine lv_icmp_ge (tgt := 186) (pc := 116) hx hb dM_whole_116 (by decide) (fun h901 => ?_) (fun h901 => ?_)
      · skip
        exact J186 fl9 er9 kx9 sx9 px9 fx9 pr9 bi9 u4 u5 u7 u9 v11 v12 ls _ _ (lv_sub hl [0, 1, 2, 3, 4, 5, 6] rfl) hw hS ((show C_M_whole_186 fl9 er9 kx9 sx9 px9 fx9 pr9 bi9 u4 u5 u7 u9 v11 v12 = C_M_whole_112 fl9 er9 kx9 sx9 px9 fx9 pr9 bi9 (n + 1) u4 u5 u7 u9 v11 v12 u13 from by rw [C_M_whole_112, if_pos h901]).trans he)
      · skip
        refine lv_iload (pc := 119) hx hb dM_whole_119 (lv_at hl 6 rfl) ?_
        refine lv_if_ne (tgt := 186) (pc := 121) hx hb dM_whole_121 (by decide) (fun h902 => ?_) (fun h902 => ?_)
        · skip
          have h902 : ¬ (v12 = false) := fun q => h902 ((bI_0 _).2 q)
          exact J186 fl9 er9 kx9 sx9 px9 fx9 pr9 bi9 u4 u5 u7 u9 v11 v12 ls _ _ (lv_sub hl [0, 1, 2, 3, 4, 5, 6] rfl) hw hS ((show C_M_whole_186 fl9 er9 kx9 sx9 px9 fx9 pr9 bi9 u4 u5 u7 u9 v11 v12 = C_M_whole_112 fl9 er9 kx9 sx9 px9 fx9 pr9 bi9 (n + 1) u4 u5 u7 u9 v11 v12 u13 from by rw [C_M_whole_112, if_neg h901, if_neg h902]).trans he)
        · skip
          have h902 : v12 = false := (bI_0 _).1 h902
          refine lv_aload_n (pc := 124) hx hb dM_whole_124 rfl (lv_at hl 0 rfl) ?_
          refine mo_g_partX (pc := 125) hx hb hts hown hw w_368 dM_whole_125 ?_
          refine lv_iload (pc := 128) hx hb dM_whole_128 (lv_at hl 7 rfl) ?_
          refine lv_lshr (v := jShr fx9 u13) (pc := 130) hx hb dM_whole_130 rfl ?_
          refine lv_lconst (v := 1) (pc := 131) hx hb dM_whole_131 (by decide) ?_
          refine lv_land (pc := 132) hx hb dM_whole_132 ?_
          refine lv_lconst (v := 1) (pc := 133) hx hb dM_whole_133 (by decide) ?_
          refine W.lcmp (pc := 134) hx hb dM_whole_134 ?_
          refine lv_if_ne (tgt := 180) (pc := 135) hx hb dM_whole_135 (by decide) (fun h903 => ?_) (fun h903 => ?_)
          · skip
            have h903 : ¬ (((jShr fx9 u13) &&& 1) = 1) := fun q => h903 ((lg_cmp_eq _ _).2 q)
            refine lv_iinc (k := 7) (v := u13 + 1) (lv' := [(13, .int (u13 + 1)), (0, .ref m0), (4, .int u4), (5, .long u5), (7, .long u7), (9, .long u9), (11, .int (bI v11)), (12, .int (bI v12))]) (pc := 180) hx hb dM_whole_180 hl rfl (by rfl) (by decide) rfl (fun ls hl => ?_)
            refine lv_goto (tgt := 112) (pc := 183) hx hb dM_whole_183 (by decide) ?_
            exact ih fl9 er9 kx9 sx9 px9 fx9 pr9 bi9 u4 u5 u7 u9 v11 v12 (u13 + 1) ls _ _ (by have q := not_le_toInt h901; rw [c53] at q; have := inc1 (k := u13) (by omega); omega) (lv_sub hl [1, 2, 3, 4, 5, 6, 7, 0] rfl) hw hS ((show C_M_whole_112 fl9 er9 kx9 sx9 px9 fx9 pr9 bi9 n u4 u5 u7 u9 v11 v12 (u13 + 1) = C_M_whole_112 fl9 er9 kx9 sx9 px9 fx9 pr9 bi9 (n + 1) u4 u5 u7 u9 v11 v12 u13 from by rw [C_M_whole_112, if_neg h901, if_pos h902, if_neg h903]).trans he)
          · skip
            have h903 : ((jShr fx9 u13) &&& 1) = 1 := (lg_cmp_eq _ _).1 h903
            refine lv_aload_n (pc := 138) hx hb dM_whole_138 rfl (lv_at hl 0 rfl) ?_
            refine mo_g_powerX (pc := 139) hx hb hts hown hw w_366 dM_whole_139 ?_
            refine lv_iload (pc := 142) hx hb dM_whole_142 (lv_at hl 7 rfl) ?_
            refine lv_iadd (pc := 144) hx hb dM_whole_144 ?_
            refine lv_istore (lv' := [(14, .int (px9 + u13)), (0, .ref m0), (4, .int u4), (5, .long u5), (7, .long u7), (9, .long u9), (11, .int (bI v11)), (12, .int (bI v12)), (13, .int u13)]) (pc := 145) hx hb dM_whole_145 hl (by decide) rfl (fun ls hl => ?_)
            refine lv_iload (pc := 147) hx hb dM_whole_147 (lv_at hl 0 rfl) ?_
            refine lv_if_ge (tgt := 158) (pc := 149) hx hb dM_whole_149 (by decide) (fun h904 => ?_) (fun h904 => ?_)
            · skip
              refine lv_iload (pc := 158) hx hb dM_whole_158 (lv_at hl 0 rfl) ?_
              refine lv_iload (pc := 160) hx hb dM_whole_160 (lv_at hl 2 rfl) ?_
              refine lv_icmp_le (tgt := 171) (pc := 162) hx hb dM_whole_162 (by decide) (fun h905 => ?_) (fun h905 => ?_)
              · skip
                refine lv_lload (pc := 171) hx hb dM_whole_171 (lv_at hl 5 rfl) ?_
                refine lv_lconst (v := 1) (pc := 173) hx hb dM_whole_173 (by decide) ?_
                refine lv_iload (pc := 174) hx hb dM_whole_174 (lv_at hl 0 rfl) ?_
                refine lv_lshl (v := jShl 1 (px9 + u13)) (pc := 176) hx hb dM_whole_176 rfl ?_
                refine lv_ladd (pc := 177) hx hb dM_whole_177 ?_
                refine lv_lstore (lv' := [(9, .long (u9 + (jShl 1 (px9 + u13)))), (14, .int (px9 + u13)), (0, .ref m0), (4, .int u4), (5, .long u5), (7, .long u7), (11, .int (bI v11)), (12, .int (bI v12)), (13, .int u13)]) (pc := 178) hx hb dM_whole_178 hl (by decide) rfl (fun ls hl => ?_)
                refine lv_iinc (k := 8) (v := u13 + 1) (lv' := [(13, .int (u13 + 1)), (9, .long (u9 + (jShl 1 (px9 + u13)))), (14, .int (px9 + u13)), (0, .ref m0), (4, .int u4), (5, .long u5), (7, .long u7), (11, .int (bI v11)), (12, .int (bI v12))]) (pc := 180) hx hb dM_whole_180 hl rfl (by rfl) (by decide) rfl (fun ls hl => ?_)
                refine lv_goto (tgt := 112) (pc := 183) hx hb dM_whole_183 (by decide) ?_
                exact ih fl9 er9 kx9 sx9 px9 fx9 pr9 bi9 u4 u5 u7 (u9 + (jShl 1 (px9 + u13))) v11 v12 (u13 + 1) ls _ _ (by have q := not_le_toInt h901; rw [c53] at q; have := inc1 (k := u13) (by omega); omega) (lv_sub hl [3, 4, 5, 6, 1, 7, 8, 0] rfl) hw hS ((show C_M_whole_112 fl9 er9 kx9 sx9 px9 fx9 pr9 bi9 n u4 u5 u7 (u9 + (jShl 1 (px9 + u13))) v11 v12 (u13 + 1) = C_M_whole_112 fl9 er9 kx9 sx9 px9 fx9 pr9 bi9 (n + 1) u4 u5 u7 u9 v11 v12 u13 from by rw [C_M_whole_112, if_neg h901, if_pos h902, if_pos h903, if_pos h904, if_pos h905]).trans he)
              · skip
                refine lv_iconst (v := 1) (pc := 165) hx hb dM_whole_165 (by decide) ?_
                refine lv_istore (lv' := [(12, .int 1), (14, .int (px9 + u13)), (0, .ref m0), (4, .int u4), (5, .long u5), (7, .long u7), (9, .long u9), (11, .int (bI v11)), (13, .int u13)]) (pc := 166) hx hb dM_whole_166 hl (by decide) rfl (fun ls hl => ?_)
                refine lv_goto (tgt := 180) (pc := 168) hx hb dM_whole_168 (by decide) ?_
                refine lv_iinc (k := 8) (v := u13 + 1) (lv' := [(13, .int (u13 + 1)), (12, .int 1), (14, .int (px9 + u13)), (0, .ref m0), (4, .int u4), (5, .long u5), (7, .long u7), (9, .long u9), (11, .int (bI v11))]) (pc := 180) hx hb dM_whole_180 hl rfl (by rfl) (by decide) rfl (fun ls hl => ?_)
                refine lv_goto (tgt := 112) (pc := 183) hx hb dM_whole_183 (by decide) ?_
                exact ih fl9 er9 kx9 sx9 px9 fx9 pr9 bi9 u4 u5 u7 u9 v11 true (u13 + 1) ls _ _ (by have q := not_le_toInt h901; rw [c53] at q; have := inc1 (k := u13) (by omega); omega) (lv_sub hl [3, 4, 5, 6, 7, 8, 1, 0] rfl) hw hS ((show C_M_whole_112 fl9 er9 kx9 sx9 px9 fx9 pr9 bi9 n u4 u5 u7 u9 v11 true (u13 + 1) = C_M_whole_112 fl9 er9 kx9 sx9 px9 fx9 pr9 bi9 (n + 1) u4 u5 u7 u9 v11 v12 u13 from by rw [C_M_whole_112, if_neg h901, if_pos h902, if_pos h903, if_pos h904, if_neg h905]).trans he)
            · skip
              refine lv_iconst (v := 1) (pc := 152) hx hb dM_whole_152 (by decide) ?_
              refine lv_istore (lv' := [(11, .int 1), (14, .int (px9 + u13)), (0, .ref m0), (4, .int u4), (5, .long u5), (7, .long u7), (9, .long u9), (12, .int (bI v12)), (13, .int u13)]) (pc := 153) hx hb dM_whole_153 hl (by decide) rfl (fun ls hl => ?_)
              refine lv_goto (tgt := 180) (pc := 155) hx hb dM_whole_155 (by decide) ?_
              refine lv_iinc (k := 8) (v := u13 + 1) (lv' := [(13, .int (u13 + 1)), (11, .int 1), (14, .int (px9 + u13)), (0, .ref m0), (4, .int u4), (5, .long u5), (7, .long u7), (9, .long u9), (12, .int (bI v12))]) (pc := 180) hx hb dM_whole_180 hl rfl (by rfl) (by decide) rfl (fun ls hl => ?_)
              refine lv_goto (tgt := 112) (pc := 183) hx hb dM_whole_183 (by decide) ?_
              exact ih fl9 er9 kx9 sx9 px9 fx9 pr9 bi9 u4 u5 u7 u9 true v12 (u13 + 1) ls _ _ (by have q := not_le_toInt h901; rw [c53] at q; have := inc1 (k := u13) (by omega); omega) (lv_sub hl [3, 4, 5, 6, 7, 1, 8, 0] rfl) hw hS ((show C_M_whole_112 fl9 er9 kx9 sx9 px9 fx9 pr9 bi9 n u4 u5 u7 u9 true v12 (u13 + 1) = C_M_whole_112 fl9 er9 kx9 sx9 px9 fx9 pr9 bi9 (n + 1) u4 u5 u7 u9 v11 v12 u13 from by rw [C_M_whole_112, if_neg h901, if_pos h902, if_pos h903, if_neg h904]).trans he)
  have J112 : ∀ (fl9 : Int32) (er9 : Int32) (kx9 : Int32) (sx9 : Int32) (px9 : Int32) (fx9 : Int64) (pr9 : Int32) (bi9 : Int32) (u4 : Int32) (u5 : Int64) (u7 : Int64) (u9 : Int64) (v11 : Bool) (v12 : Bool) (u13 : Int32) (ls : Array Slot) (H : Heap) (locs : List Loc), lv_has ls 15 [(0, .ref m0), (4, .int u4), (5, .long u5), (7, .long u7), (9, .long u9), (11, .int (bI v11)), (12, .int (bI v12)), (13, .int u13)] → MOw D cI cL m0 ra rb rc ((md, fl9, er9, kx9, ky, sx9, sy, px9, py), (fx9, fy), (pr9, bi9), row, oth, rg) s H → va_S (mA m0 ra rb rc) s.heap H locs → C_M_whole_112 fl9 er9 kx9 sx9 px9 fx9 pr9 bi9 ((53 - u13.toInt).toNat) u4 u5 u7 u9 v11 v12 u13 = C_M_whole fl kx sx px fx pr bi rg z1 k2 z3 → W p l e rmM_whole s m args below meth c H locs 0 0 Q (F0 m 112 ls []) := by
    intro fl9 er9 kx9 sx9 px9 fx9 pr9 bi9 u4 u5 u7 u9 v11 v12 u13 ls H locs hl hw hS he
    exact L112 _ fl9 er9 kx9 sx9 px9 fx9 pr9 bi9 u4 u5 u7 u9 v11 v12 u13 ls H locs (by omega) hl hw hS he
  have J107 : ∀ (fl9 : Int32) (er9 : Int32) (kx9 : Int32) (sx9 : Int32) (px9 : Int32) (fx9 : Int64) (pr9 : Int32) (bi9 : Int32) (u4 : Int32) (u5 : Int64) (u7 : Int64) (u9 : Int64) (v11 : Bool) (v12 : Bool) (ls : Array Slot) (H : Heap) (locs : List Loc), lv_has ls 15 [(0, .ref m0), (4, .int u4), (5, .long u5), (7, .long u7), (9, .long u9), (11, .int (bI v11))] → MOw D cI cL m0 ra rb rc ((md, fl9, er9, kx9, ky, sx9, sy, px9, py), (fx9, fy), (pr9, bi9), row, oth, rg) s H → va_S (mA m0 ra rb rc) s.heap H locs → C_M_whole_107 fl9 er9 kx9 sx9 px9 fx9 pr9 bi9 u4 u5 u7 u9 v11 v12 = C_M_whole fl kx sx px fx pr bi rg z1 k2 z3 → W p l e rmM_whole s m args below meth c H locs 0 0 Q (F0 m 107 ls [.int (bI v12)]) := by
    intro fl9 er9 kx9 sx9 px9 fx9 pr9 bi9 u4 u5 u7 u9 v11 v12 ls H locs hl hw hS he
    refine lv_istore (lv' := [(12, .int (bI v12)), (0, .ref m0), (4, .int u4), (5, .long u5), (7, .long u7), (9, .long u9), (11, .int (bI v11))]) (pc := 107) hx hb dM_whole_107 hl (by decide) rfl (fun ls hl => ?_)
    refine lv_iconst (v := 0) (pc := 109) hx hb dM_whole_109 (by decide) ?_
    refine lv_istore (lv' := [(13, .int 0), (12, .int (bI v12)), (0, .ref m0), (4, .int u4), (5, .long u5), (7, .long u7), (9, .long u9), (11, .int (bI v11))]) (pc := 110) hx hb dM_whole_110 hl (by decide) rfl (fun ls hl => ?_)
    exact J112 fl9 er9 kx9 sx9 px9 fx9 pr9 bi9 u4 u5 u7 u9 v11 v12 0 ls _ _ (lv_sub hl [2, 3, 4, 5, 6, 7, 1, 0] rfl) hw hS ((show C_M_whole_112 fl9 er9 kx9 sx9 px9 fx9 pr9 bi9 ((53 - (0 : Int32).toInt).toNat) u4 u5 u7 u9 v11 v12 0 = C_M_whole_107 fl9 er9 kx9 sx9 px9 fx9 pr9 bi9 u4 u5 u7 u9 v11 v12 from by rw [C_M_whole_107]).trans he)
  have J59 : ∀ (fl9 : Int32) (er9 : Int32) (kx9 : Int32) (sx9 : Int32) (px9 : Int32) (fx9 : Int64) (pr9 : Int32) (bi9 : Int32) (u4 : Int32) (u5 : Int64) (ls : Array Slot) (H : Heap) (locs : List Loc), lv_has ls 15 [(0, .ref m0), (4, .int u4)] → MOw D cI cL m0 ra rb rc ((md, fl9, er9, kx9, ky, sx9, sy, px9, py), (fx9, fy), (pr9, bi9), row, oth, rg) s H → va_S (mA m0 ra rb rc) s.heap H locs → C_M_whole_59 fl9 er9 kx9 sx9 px9 fx9 pr9 bi9 u4 u5 = C_M_whole fl kx sx px fx pr bi rg z1 k2 z3 → W p l e rmM_whole s m args below meth c H locs 0 0 Q (F0 m 59 ls [.long u5]) := by
    intro fl9 er9 kx9 sx9 px9 fx9 pr9 bi9 u4 u5 ls H locs hl hw hS he
    refine lv_lstore (lv' := [(5, .long u5), (0, .ref m0), (4, .int u4)]) (pc := 59) hx hb dM_whole_59 hl (by decide) rfl (fun ls hl => ?_)
    refine lv_lload (pc := 61) hx hb dM_whole_61 (lv_at hl 0 rfl) ?_
    refine lv_lneg (pc := 63) hx hb dM_whole_63 ?_
    refine lv_lconst (v := 1) (pc := 64) hx hb dM_whole_64 (by decide) ?_
    refine lv_lsub (pc := 65) hx hb dM_whole_65 ?_
    refine lv_lstore (lv' := [(7, .long ((-u5) - 1)), (5, .long u5), (0, .ref m0), (4, .int u4)]) (pc := 66) hx hb dM_whole_66 hl (by decide) rfl (fun ls hl => ?_)
    refine lv_aload_n (pc := 68) hx hb dM_whole_68 rfl (lv_at hl 2 rfl) ?_
    refine mo_g_kindX (pc := 69) hx hb hts hown hw w_362 dM_whole_69 ?_
    refine lv_if_ne (tgt := 88) (pc := 72) hx hb dM_whole_72 (by decide) (fun h201 => ?_) (fun h201 => ?_)
    · skip
      refine lv_lconst (v := 0) (pc := 88) hx hb dM_whole_88 (by decide) ?_
      refine lv_lstore (lv' := [(9, .long 0), (7, .long ((-u5) - 1)), (5, .long u5), (0, .ref m0), (4, .int u4)]) (pc := 89) hx hb dM_whole_89 hl (by decide) rfl (fun ls hl => ?_)
      refine lv_iconst (v := 0) (pc := 91) hx hb dM_whole_91 (by decide) ?_
      refine lv_istore (lv' := [(11, .int 0), (9, .long 0), (7, .long ((-u5) - 1)), (5, .long u5), (0, .ref m0), (4, .int u4)]) (pc := 92) hx hb dM_whole_92 hl (by decide) rfl (fun ls hl => ?_)
      refine lv_aload_n (pc := 94) hx hb dM_whole_94 rfl (lv_at hl 4 rfl) ?_
      refine mo_g_kindX (pc := 95) hx hb hts hown hw w_362 dM_whole_95 ?_
      refine lv_iconst (v := 1) (pc := 98) hx hb dM_whole_98 (by decide) ?_
      refine lv_icmp_ne (tgt := 106) (pc := 99) hx hb dM_whole_99 (by decide) (fun h202 => ?_) (fun h202 => ?_)
      · skip
        refine lv_iconst (v := 0) (pc := 106) hx hb dM_whole_106 (by decide) ?_
        exact J107 fl9 er9 kx9 sx9 px9 fx9 pr9 bi9 u4 u5 ((-u5) - 1) 0 false false ls _ _ (lv_sub hl [4, 5, 3, 2, 1, 0] rfl) hw hS ((show C_M_whole_107 fl9 er9 kx9 sx9 px9 fx9 pr9 bi9 u4 u5 ((-u5) - 1) 0 false false = C_M_whole_59 fl9 er9 kx9 sx9 px9 fx9 pr9 bi9 u4 u5 from by rw [C_M_whole_59, if_neg h201, if_neg h202]).trans he)
      · skip
        refine lv_iconst (v := 1) (pc := 102) hx hb dM_whole_102 (by decide) ?_
        refine lv_goto (tgt := 107) (pc := 103) hx hb dM_whole_103 (by decide) ?_
        exact J107 fl9 er9 kx9 sx9 px9 fx9 pr9 bi9 u4 u5 ((-u5) - 1) 0 false true ls _ _ (lv_sub hl [4, 5, 3, 2, 1, 0] rfl) hw hS ((show C_M_whole_107 fl9 er9 kx9 sx9 px9 fx9 pr9 bi9 u4 u5 ((-u5) - 1) 0 false true = C_M_whole_59 fl9 er9 kx9 sx9 px9 fx9 pr9 bi9 u4 u5 from by rw [C_M_whole_59, if_neg h201, if_pos h202]).trans he)
    · skip
      refine lv_aload_n (pc := 75) hx hb dM_whole_75 rfl (lv_at hl 2 rfl) ?_
      refine lv_dup (pc := 76) hx hb dM_whole_76 rfl ?_
      refine mo_g_flags (pc := 77) hx hb hts hown hw w_360 dM_whole_77 ?_
      refine lv_bipush (v := 16) (pc := 80) hx hb dM_whole_80 (by decide) ?_
      refine lv_ior (pc := 82) hx hb dM_whole_82 ?_
      refine mo_p_flags (pc := 83) hx hb hts hown hw hS w_360 dM_whole_83 (fun H locs hw hS => ?_)
      refine lv_lconst (v := 0) (pc := 86) hx hb dM_whole_86 (by decide) ?_
      have he9 := (show (0, fl9 ||| 16, er9, kx9, sx9, px9, fx9, pr9, bi9) = C_M_whole_59 fl9 er9 kx9 sx9 px9 fx9 pr9 bi9 u4 u5 from by rw [C_M_whole_59, if_pos h201]).trans he
      exact hret _ _ _ _ _ _ (congrArg Prod.fst he9) (by rw [← he9]) hw hS dM_whole_87
  have J44 : ∀ (fl9 : Int32) (er9 : Int32) (kx9 : Int32) (sx9 : Int32) (px9 : Int32) (fx9 : Int64) (pr9 : Int32) (bi9 : Int32) (v3 : Bool) (u4 : Int32) (ls : Array Slot) (H : Heap) (locs : List Loc), lv_has ls 15 [(0, .ref m0), (3, .int (bI v3))] → MOw D cI cL m0 ra rb rc ((md, fl9, er9, kx9, ky, sx9, sy, px9, py), (fx9, fy), (pr9, bi9), row, oth, rg) s H → va_S (mA m0 ra rb rc) s.heap H locs → C_M_whole_44 fl9 er9 kx9 sx9 px9 fx9 pr9 bi9 v3 u4 = C_M_whole fl kx sx px fx pr bi rg z1 k2 z3 → W p l e rmM_whole s m args below meth c H locs 0 0 Q (F0 m 44 ls [.int u4]) := by
    intro fl9 er9 kx9 sx9 px9 fx9 pr9 bi9 v3 u4 ls H locs hl hw hS he
    refine lv_istore (lv' := [(4, .int u4), (0, .ref m0), (3, .int (bI v3))]) (pc := 44) hx hb dM_whole_44 hl (by decide) rfl (fun ls hl => ?_)
    refine lv_iload_n (pc := 46) hx hb dM_whole_46 rfl (lv_at hl 2 rfl) ?_
    refine lv_if_eq (tgt := 56) (pc := 47) hx hb dM_whole_47 (by decide) (fun h101 => ?_) (fun h101 => ?_)
    · skip
      have h101 : v3 = false := (bI_0 _).1 h101
      refine lv_ldc2 (v := 9223372036854775807) (pc := 56) hx hb hown (hts _ (List.mem_cons_of_mem _ w_514)) dM_whole_56 ?_
      exact J59 fl9 er9 kx9 sx9 px9 fx9 pr9 bi9 u4 9223372036854775807 ls _ _ (lv_sub hl [1, 0] rfl) hw hS ((show C_M_whole_59 fl9 er9 kx9 sx9 px9 fx9 pr9 bi9 u4 9223372036854775807 = C_M_whole_44 fl9 er9 kx9 sx9 px9 fx9 pr9 bi9 v3 u4 from by rw [C_M_whole_44, if_pos h101]).trans he)
    · skip
      have h101 : ¬ (v3 = false) := fun q => h101 ((bI_0 _).2 q)
      refine lv_ldc2 (v := 2147483647) (pc := 50) hx hb hown (hts _ (List.mem_cons_of_mem _ w_513)) dM_whole_50 ?_
      refine lv_goto (tgt := 59) (pc := 53) hx hb dM_whole_53 (by decide) ?_
      exact J59 fl9 er9 kx9 sx9 px9 fx9 pr9 bi9 u4 2147483647 ls _ _ (lv_sub hl [1, 0] rfl) hw hS ((show C_M_whole_59 fl9 er9 kx9 sx9 px9 fx9 pr9 bi9 u4 2147483647 = C_M_whole_44 fl9 er9 kx9 sx9 px9 fx9 pr9 bi9 v3 u4 from by rw [C_M_whole_44, if_neg h101]).trans he)
  refine lv_aload_n (pc := 0) hx hb dM_whole_0 rfl (lv_at hl 0 rfl) ?_
  refine lv_iload_n (pc := 1) hx hb dM_whole_1 rfl (lv_at hl 2 rfl) ?_
  refine lv_bipush (v := 15) (pc := 2) hx hb dM_whole_2 (by decide) ?_
  refine ps_S (pc := 4) (rest := [.ref m0]) ⟨hx, hb, hml, hown, hts⟩ (c_M_in l k2 15) (cwM_in hts w_414 ⟨by decide, by decide⟩) rfl hl.1 rfl (Nat.le_of_ble_eq_true rfl) dM_whole_4 ⟨Nat.zero_le _, Nat.zero_le _⟩ ?_
  refine lv_if_ne (tgt := 14) (pc := 7) hx hb dM_whole_7 (by decide) (fun h1 => ?_) (fun h1 => ?_)
  · skip
    have h1 : ¬ ((C_M_in k2 15) = false) := fun q => h1 ((bI_0 _).2 q)
    refine lv_iconst (v := 0) (pc := 14) hx hb dM_whole_14 (by decide) ?_
    refine mo_V (pc := 15) (rest := []) ⟨hx, hb, hml, hown, hts⟩ (c_M_fails l D cI cL m0 ra rb rc md fl er kx ky sx sy px py fx fy pr bi row oth rg false) (cwM_fails hts w_417 ⟨by decide, by decide⟩) hw hS rfl hl.1 rfl (Nat.le_of_ble_eq_true rfl) dM_whole_15 ⟨Nat.zero_le _, Nat.zero_le _⟩ (fun H locs hw hS => ?_)
    refine W.eq (g2 := F0 m 18 ls [.int 0]) rfl ?_
    refine lv_if_eq (tgt := 23) (pc := 18) hx hb dM_whole_18 (by decide) (fun h2 => ?_) (fun h2 => ?_)
    · skip
      refine lv_aload_n (pc := 23) hx hb dM_whole_23 rfl (lv_at hl 0 rfl) ?_
      refine lv_iload_n (pc := 24) hx hb dM_whole_24 rfl (lv_at hl 1 rfl) ?_
      refine mo_V (pc := 25) (rest := []) ⟨hx, hb, hml, hown, hts⟩ (c_M_format l D cI cL m0 ra rb rc md fl (bI false) kx ky sx sy px py fx fy pr bi row oth rg z1) (cwM_format hts w_437 ⟨by decide, by decide⟩) hw hS rfl hl.1 rfl (Nat.le_of_ble_eq_true rfl) dM_whole_25 ⟨Nat.zero_le _, Nat.zero_le _⟩ (fun H locs hw hS => ?_)
      refine W.eq (g2 := F0 m 28 ls []) rfl ?_
      refine lv_aload_n (pc := 28) hx hb dM_whole_28 rfl (lv_at hl 0 rfl) ?_
      refine lv_iload_n (pc := 29) hx hb dM_whole_29 rfl (lv_at hl 2 rfl) ?_
      refine mo_V (pc := 30) (rest := []) ⟨hx, hb, hml, hown, hts⟩ (c_M_take l D cI cL m0 ra rb rc md fl (bI false) kx ky sx sy px py fx fy ((C_M_format z1).1) ((C_M_format z1).2) row oth rg k2 (min_in h1)) (cwM_take hts w_445 ⟨by decide, by decide⟩) hw hS rfl hl.1 rfl (Nat.le_of_ble_eq_true rfl) dM_whole_30 ⟨Nat.zero_le _, Nat.zero_le _⟩ (fun H locs hw hS => ?_)
      refine W.eq (g2 := F0 m 33 ls []) rfl ?_
      refine lv_iload_n (pc := 33) hx hb dM_whole_33 rfl (lv_at hl 3 rfl) ?_
      refine lv_if_eq (tgt := 42) (pc := 34) hx hb dM_whole_34 (by decide) (fun h3 => ?_) (fun h3 => ?_)
      · skip
        have h3 : z3 = false := (bI_0 _).1 h3
        refine lv_bipush (v := 63) (pc := 42) hx hb dM_whole_42 (by decide) ?_
        exact J44 fl (bI false) ((C_M_take ((C_M_format z1).1) ((C_M_format z1).2) rg k2).1) ((C_M_take ((C_M_format z1).1) ((C_M_format z1).2) rg k2).2.1) ((C_M_take ((C_M_format z1).1) ((C_M_format z1).2) rg k2).2.2.1) ((C_M_take ((C_M_format z1).1) ((C_M_format z1).2) rg k2).2.2.2) ((C_M_format z1).1) ((C_M_format z1).2) z3 63 ls _ _ (lv_sub hl [0, 3] rfl) hw hS ((show C_M_whole_44 fl (bI false) ((C_M_take ((C_M_format z1).1) ((C_M_format z1).2) rg k2).1) ((C_M_take ((C_M_format z1).1) ((C_M_format z1).2) rg k2).2.1) ((C_M_take ((C_M_format z1).1) ((C_M_format z1).2) rg k2).2.2.1) ((C_M_take ((C_M_format z1).1) ((C_M_format z1).2) rg k2).2.2.2) ((C_M_format z1).1) ((C_M_format z1).2) z3 63 = C_M_whole fl kx sx px fx pr bi rg z1 k2 z3 from by rw [C_M_whole, if_neg h1, if_pos h3]))
      · skip
        have h3 : ¬ (z3 = false) := fun q => h3 ((bI_0 _).2 q)
        refine lv_bipush (v := 31) (pc := 37) hx hb dM_whole_37 (by decide) ?_
        refine lv_goto (tgt := 44) (pc := 39) hx hb dM_whole_39 (by decide) ?_
        exact J44 fl (bI false) ((C_M_take ((C_M_format z1).1) ((C_M_format z1).2) rg k2).1) ((C_M_take ((C_M_format z1).1) ((C_M_format z1).2) rg k2).2.1) ((C_M_take ((C_M_format z1).1) ((C_M_format z1).2) rg k2).2.2.1) ((C_M_take ((C_M_format z1).1) ((C_M_format z1).2) rg k2).2.2.2) ((C_M_format z1).1) ((C_M_format z1).2) z3 31 ls _ _ (lv_sub hl [0, 3] rfl) hw hS ((show C_M_whole_44 fl (bI false) ((C_M_take ((C_M_format z1).1) ((C_M_format z1).2) rg k2).1) ((C_M_take ((C_M_format z1).1) ((C_M_format z1).2) rg k2).2.1) ((C_M_take ((C_M_format z1).1) ((C_M_format z1).2) rg k2).2.2.1) ((C_M_take ((C_M_format z1).1) ((C_M_format z1).2) rg k2).2.2.2) ((C_M_format z1).1) ((C_M_format z1).2) z3 31 = C_M_whole fl kx sx px fx pr bi rg z1 k2 z3 from by rw [C_M_whole, if_neg h1, if_neg h3]))
    · exact absurd h2 (by decide)
  · skip
    have h1 : (C_M_in k2 15) = false := (bI_0 _).1 h1
    refine lv_iconst (v := 1) (pc := 10) hx hb dM_whole_10 (by decide) ?_
    refine lv_goto (tgt := 15) (pc := 11) hx hb dM_whole_11 (by decide) ?_
    refine mo_V (pc := 15) (rest := []) ⟨hx, hb, hml, hown, hts⟩ (c_M_fails l D cI cL m0 ra rb rc md fl er kx ky sx sy px py fx fy pr bi row oth rg true) (cwM_fails hts w_417 ⟨by decide, by decide⟩) hw hS rfl hl.1 rfl (Nat.le_of_ble_eq_true rfl) dM_whole_15 ⟨Nat.zero_le _, Nat.zero_le _⟩ (fun H locs hw hS => ?_)
    refine W.eq (g2 := F0 m 18 ls [.int 1]) rfl ?_
    refine lv_if_eq (tgt := 23) (pc := 18) hx hb dM_whole_18 (by decide) (fun h4 => ?_) (fun h4 => ?_)
    · exact absurd h4 (by decide)
    · skip
      refine lv_lconst (v := 0) (pc := 21) hx hb dM_whole_21 (by decide) ?_
      have he9 := (show (0, fl, bI true, kx, sx, px, fx, pr, bi) = C_M_whole fl kx sx px fx pr bi rg z1 k2 z3 from by rw [C_M_whole, if_pos h1])
      exact hret _ _ _ _ _ _ (congrArg Prod.fst he9) (by rw [← he9]) hw hS dM_whole_22
def C_M_kind (kx : Int32) (sx : Int32) (px : Int32) (fx : Int64) (pr : Int32) (bi : Int32) (rg : Nat → Int64) (z1 : Bool) (k2 : Int32) : Int32 × Int32 × Int32 × Int32 × Int32 × Int64 × Int32 × Int32 :=
  if (C_M_in k2 15) = false then
    (0, bI true, kx, sx, px, fx, pr, bi)
  else
    if ((C_M_take ((C_M_format z1).1) ((C_M_format z1).2) rg k2).1) = 0 then
      if ((C_M_take ((C_M_format z1).1) ((C_M_format z1).2) rg k2).2.1) = 1 then
        (8, bI false, (C_M_take ((C_M_format z1).1) ((C_M_format z1).2) rg k2).1, (C_M_take ((C_M_format z1).1) ((C_M_format z1).2) rg k2).2.1, (C_M_take ((C_M_format z1).1) ((C_M_format z1).2) rg k2).2.2.1, (C_M_take ((C_M_format z1).1) ((C_M_format z1).2) rg k2).2.2.2, (C_M_format z1).1, (C_M_format z1).2)
      else
        (0, bI false, (C_M_take ((C_M_format z1).1) ((C_M_format z1).2) rg k2).1, (C_M_take ((C_M_format z1).1) ((C_M_format z1).2) rg k2).2.1, (C_M_take ((C_M_format z1).1) ((C_M_format z1).2) rg k2).2.2.1, (C_M_take ((C_M_format z1).1) ((C_M_format z1).2) rg k2).2.2.2, (C_M_format z1).1, (C_M_format z1).2)
    else
      if ((C_M_take ((C_M_format z1).1) ((C_M_format z1).2) rg k2).1) = 1 then
        if ((C_M_take ((C_M_format z1).1) ((C_M_format z1).2) rg k2).2.1) = 1 then
          (9, bI false, (C_M_take ((C_M_format z1).1) ((C_M_format z1).2) rg k2).1, (C_M_take ((C_M_format z1).1) ((C_M_format z1).2) rg k2).2.1, (C_M_take ((C_M_format z1).1) ((C_M_format z1).2) rg k2).2.2.1, (C_M_take ((C_M_format z1).1) ((C_M_format z1).2) rg k2).2.2.2, (C_M_format z1).1, (C_M_format z1).2)
        else
          (1, bI false, (C_M_take ((C_M_format z1).1) ((C_M_format z1).2) rg k2).1, (C_M_take ((C_M_format z1).1) ((C_M_format z1).2) rg k2).2.1, (C_M_take ((C_M_format z1).1) ((C_M_format z1).2) rg k2).2.2.1, (C_M_take ((C_M_format z1).1) ((C_M_format z1).2) rg k2).2.2.2, (C_M_format z1).1, (C_M_format z1).2)
      else
        if ((C_M_take ((C_M_format z1).1) ((C_M_format z1).2) rg k2).2.2.2) = 0 then
          if ((C_M_take ((C_M_format z1).1) ((C_M_format z1).2) rg k2).2.1) = 1 then
            (12, bI false, (C_M_take ((C_M_format z1).1) ((C_M_format z1).2) rg k2).1, (C_M_take ((C_M_format z1).1) ((C_M_format z1).2) rg k2).2.1, (C_M_take ((C_M_format z1).1) ((C_M_format z1).2) rg k2).2.2.1, (C_M_take ((C_M_format z1).1) ((C_M_format z1).2) rg k2).2.2.2, (C_M_format z1).1, (C_M_format z1).2)
          else
            (4, bI false, (C_M_take ((C_M_format z1).1) ((C_M_format z1).2) rg k2).1, (C_M_take ((C_M_format z1).1) ((C_M_format z1).2) rg k2).2.1, (C_M_take ((C_M_format z1).1) ((C_M_format z1).2) rg k2).2.2.1, (C_M_take ((C_M_format z1).1) ((C_M_format z1).2) rg k2).2.2.2, (C_M_format z1).1, (C_M_format z1).2)
        else
          if ((C_M_take ((C_M_format z1).1) ((C_M_format z1).2) rg k2).2.2.2) < (jShl 1 (((C_M_format z1).1) - 1)) then
            if ((C_M_take ((C_M_format z1).1) ((C_M_format z1).2) rg k2).2.1) = 1 then
              (11, bI false, (C_M_take ((C_M_format z1).1) ((C_M_format z1).2) rg k2).1, (C_M_take ((C_M_format z1).1) ((C_M_format z1).2) rg k2).2.1, (C_M_take ((C_M_format z1).1) ((C_M_format z1).2) rg k2).2.2.1, (C_M_take ((C_M_format z1).1) ((C_M_format z1).2) rg k2).2.2.2, (C_M_format z1).1, (C_M_format z1).2)
            else
              (3, bI false, (C_M_take ((C_M_format z1).1) ((C_M_format z1).2) rg k2).1, (C_M_take ((C_M_format z1).1) ((C_M_format z1).2) rg k2).2.1, (C_M_take ((C_M_format z1).1) ((C_M_format z1).2) rg k2).2.2.1, (C_M_take ((C_M_format z1).1) ((C_M_format z1).2) rg k2).2.2.2, (C_M_format z1).1, (C_M_format z1).2)
          else
            if ((C_M_take ((C_M_format z1).1) ((C_M_format z1).2) rg k2).2.1) = 1 then
              (10, bI false, (C_M_take ((C_M_format z1).1) ((C_M_format z1).2) rg k2).1, (C_M_take ((C_M_format z1).1) ((C_M_format z1).2) rg k2).2.1, (C_M_take ((C_M_format z1).1) ((C_M_format z1).2) rg k2).2.2.1, (C_M_take ((C_M_format z1).1) ((C_M_format z1).2) rg k2).2.2.2, (C_M_format z1).1, (C_M_format z1).2)
            else
              (2, bI false, (C_M_take ((C_M_format z1).1) ((C_M_format z1).2) rg k2).1, (C_M_take ((C_M_format z1).1) ((C_M_format z1).2) rg k2).2.1, (C_M_take ((C_M_format z1).1) ((C_M_format z1).2) rg k2).2.2.1, (C_M_take ((C_M_format z1).1) ((C_M_format z1).2) rg k2).2.2.2, (C_M_format z1).1, (C_M_format z1).2)
abbrev rmM_kind : Room := { frames := 1, cells := 0, slots := 0, locals := 27 }
theorem cwM_kind {R : Room} {s : State} {args : Array Value} {w0 : Cond} {own : String} {idx : Nat} (hts : ∀ w ∈ (w0 :: bigW), w.before args s = true) (hl : Cond.methodLink own idx yM_kind ∈ bigW) (hR : rmM_kind.frames + 1 ≤ R.frames ∧ 8 + (4 + 11) + rmM_kind.locals ≤ R.locals) : CallW R s args own "FloatUnitModel" idx yM_kind cM_kind 4 (some .int) (wsM yM_kind cM_kind 4 (some .int)) rmM_kind 0 0 2 :=
  cwV 2 hts (big_V hl w_520 w_521 w_2 w_522) rfl rfl rfl ⟨rfl, by decide, by decide, by decide +kernel⟩ hR
set_option maxRecDepth 100000 in
set_option maxHeartbeats 8000000 in
theorem c_M_kind (l : Launch) (D : va_G) (cI cL : ClassId) (m0 ra rb rc : Nat) (md fl er kx ky sx sy px py : Int32) (fx fy : Int64) (pr bi : Int32) (row oth : Nat → Int32) (rg : Nat → Int64) (z1 : Bool) (k2 : Int32) : MoM l D cI cL m0 ra rb rc yM_kind (wsM yM_kind cM_kind 4 (some .int)) rmM_kind [.int (bI z1), .int k2] ((md, fl, er, kx, ky, sx, sy, px, py), (fx, fy), (pr, bi), row, oth, rg) (some (.int ((C_M_kind kx sx px fx pr bi rg z1 k2).1))) ((md, fl, ((C_M_kind kx sx px fx pr bi rg z1 k2).2.1), ((C_M_kind kx sx px fx pr bi rg z1 k2).2.2.1), ky, ((C_M_kind kx sx px fx pr bi rg z1 k2).2.2.2.1), sy, ((C_M_kind kx sx px fx pr bi rg z1 k2).2.2.2.2.1), py), (((C_M_kind kx sx px fx pr bi rg z1 k2).2.2.2.2.2.1), fy), (((C_M_kind kx sx px fx pr bi rg z1 k2).2.2.2.2.2.2.1), ((C_M_kind kx sx px fx pr bi rg z1 k2).2.2.2.2.2.2.2)), row, oth, rg) := by
  refine mo_ofI (cc := cM_kind) (maxL := 4) (by decide) rfl (Nat.le_of_ble_eq_true rfl) ?_
  intro p e s m args below meth c Q hx hb hml hown hts H locs hS hw hret ls hl
  have hl : lv_has ls 4 [(0, .ref m0), (1, .int (bI z1)), (2, .int k2)] := hl
  refine lv_aload_n (pc := 0) hx hb dM_kind_0 rfl (lv_at hl 0 rfl) ?_
  refine lv_iload_n (pc := 1) hx hb dM_kind_1 rfl (lv_at hl 2 rfl) ?_
  refine lv_bipush (v := 15) (pc := 2) hx hb dM_kind_2 (by decide) ?_
  refine ps_S (pc := 4) (rest := [.ref m0]) ⟨hx, hb, hml, hown, hts⟩ (c_M_in l k2 15) (cwM_in hts w_414 ⟨by decide, by decide⟩) rfl hl.1 rfl (Nat.le_of_ble_eq_true rfl) dM_kind_4 ⟨Nat.zero_le _, Nat.zero_le _⟩ ?_
  refine lv_if_ne (tgt := 14) (pc := 7) hx hb dM_kind_7 (by decide) (fun h1 => ?_) (fun h1 => ?_)
  · skip
    have h1 : ¬ ((C_M_in k2 15) = false) := fun q => h1 ((bI_0 _).2 q)
    refine lv_iconst (v := 0) (pc := 14) hx hb dM_kind_14 (by decide) ?_
    refine mo_V (pc := 15) (rest := []) ⟨hx, hb, hml, hown, hts⟩ (c_M_fails l D cI cL m0 ra rb rc md fl er kx ky sx sy px py fx fy pr bi row oth rg false) (cwM_fails hts w_417 ⟨by decide, by decide⟩) hw hS rfl hl.1 rfl (Nat.le_of_ble_eq_true rfl) dM_kind_15 ⟨Nat.zero_le _, Nat.zero_le _⟩ (fun H locs hw hS => ?_)
    refine W.eq (g2 := F0 m 18 ls [.int 0]) rfl ?_
    refine lv_if_eq (tgt := 23) (pc := 18) hx hb dM_kind_18 (by decide) (fun h2 => ?_) (fun h2 => ?_)
    · skip
      refine lv_aload_n (pc := 23) hx hb dM_kind_23 rfl (lv_at hl 0 rfl) ?_
      refine lv_iload_n (pc := 24) hx hb dM_kind_24 rfl (lv_at hl 1 rfl) ?_
      refine mo_V (pc := 25) (rest := []) ⟨hx, hb, hml, hown, hts⟩ (c_M_format l D cI cL m0 ra rb rc md fl (bI false) kx ky sx sy px py fx fy pr bi row oth rg z1) (cwM_format hts w_437 ⟨by decide, by decide⟩) hw hS rfl hl.1 rfl (Nat.le_of_ble_eq_true rfl) dM_kind_25 ⟨Nat.zero_le _, Nat.zero_le _⟩ (fun H locs hw hS => ?_)
      refine W.eq (g2 := F0 m 28 ls []) rfl ?_
      refine lv_aload_n (pc := 28) hx hb dM_kind_28 rfl (lv_at hl 0 rfl) ?_
      refine lv_iload_n (pc := 29) hx hb dM_kind_29 rfl (lv_at hl 2 rfl) ?_
      refine mo_V (pc := 30) (rest := []) ⟨hx, hb, hml, hown, hts⟩ (c_M_take l D cI cL m0 ra rb rc md fl (bI false) kx ky sx sy px py fx fy ((C_M_format z1).1) ((C_M_format z1).2) row oth rg k2 (min_in h1)) (cwM_take hts w_445 ⟨by decide, by decide⟩) hw hS rfl hl.1 rfl (Nat.le_of_ble_eq_true rfl) dM_kind_30 ⟨Nat.zero_le _, Nat.zero_le _⟩ (fun H locs hw hS => ?_)
      refine W.eq (g2 := F0 m 33 ls []) rfl ?_
      refine lv_aload_n (pc := 33) hx hb dM_kind_33 rfl (lv_at hl 0 rfl) ?_
      refine mo_g_kindX (pc := 34) hx hb hts hown hw w_362 dM_kind_34 ?_
      refine lv_if_ne (tgt := 44) (pc := 37) hx hb dM_kind_37 (by decide) (fun h3 => ?_) (fun h3 => ?_)
      · skip
        refine lv_aload_n (pc := 44) hx hb dM_kind_44 rfl (lv_at hl 0 rfl) ?_
        refine mo_g_kindX (pc := 45) hx hb hts hown hw w_362 dM_kind_45 ?_
        refine lv_iconst (v := 1) (pc := 48) hx hb dM_kind_48 (by decide) ?_
        refine lv_icmp_ne (tgt := 56) (pc := 49) hx hb dM_kind_49 (by decide) (fun h4 => ?_) (fun h4 => ?_)
        · skip
          refine lv_aload_n (pc := 56) hx hb dM_kind_56 rfl (lv_at hl 0 rfl) ?_
          refine mo_g_partX (pc := 57) hx hb hts hown hw w_368 dM_kind_57 ?_
          refine lv_lconst (v := 0) (pc := 60) hx hb dM_kind_60 (by decide) ?_
          refine W.lcmp (pc := 61) hx hb dM_kind_61 ?_
          refine lv_if_ne (tgt := 69) (pc := 62) hx hb dM_kind_62 (by decide) (fun h5 => ?_) (fun h5 => ?_)
          · skip
            have h5 : ¬ (((C_M_take ((C_M_format z1).1) ((C_M_format z1).2) rg k2).2.2.2) = 0) := fun q => h5 ((lg_cmp_eq _ _).2 q)
            refine lv_aload_n (pc := 69) hx hb dM_kind_69 rfl (lv_at hl 0 rfl) ?_
            refine mo_g_partX (pc := 70) hx hb hts hown hw w_368 dM_kind_70 ?_
            refine lv_lconst (v := 1) (pc := 73) hx hb dM_kind_73 (by decide) ?_
            refine lv_aload_n (pc := 74) hx hb dM_kind_74 rfl (lv_at hl 0 rfl) ?_
            refine mo_g_precision (pc := 75) hx hb hts hown hw w_370 dM_kind_75 ?_
            refine lv_iconst (v := 1) (pc := 78) hx hb dM_kind_78 (by decide) ?_
            refine lv_isub (pc := 79) hx hb dM_kind_79 ?_
            refine lv_lshl (v := jShl 1 (((C_M_format z1).1) - 1)) (pc := 80) hx hb dM_kind_80 rfl ?_
            refine W.lcmp (pc := 81) hx hb dM_kind_81 ?_
            refine lv_if_lt (tgt := 89) (pc := 82) hx hb dM_kind_82 (by decide) (fun h6 => ?_) (fun h6 => ?_)
            · skip
              have h6 : ((C_M_take ((C_M_format z1).1) ((C_M_format z1).2) rg k2).2.2.2) < (jShl 1 (((C_M_format z1).1) - 1)) := (lg_cmp_lt _ _).1 h6
              refine lv_iconst (v := 3) (pc := 89) hx hb dM_kind_89 (by decide) ?_
              refine lv_istore_n (lv' := [(3, .int 3), (0, .ref m0), (1, .int (bI z1)), (2, .int k2)]) (pc := 90) hx hb dM_kind_90 rfl hl (by decide) rfl (fun ls hl => ?_)
              refine lv_aload_n (pc := 91) hx hb dM_kind_91 rfl (lv_at hl 1 rfl) ?_
              refine mo_g_signX (pc := 92) hx hb hts hown hw w_364 dM_kind_92 ?_
              refine lv_iconst (v := 1) (pc := 95) hx hb dM_kind_95 (by decide) ?_
              refine lv_icmp_ne (tgt := 106) (pc := 96) hx hb dM_kind_96 (by decide) (fun h7 => ?_) (fun h7 => ?_)
              · skip
                refine lv_iload_n (pc := 106) hx hb dM_kind_106 rfl (lv_at hl 0 rfl) ?_
                have he9 := (show (3, bI false, (C_M_take ((C_M_format z1).1) ((C_M_format z1).2) rg k2).1, (C_M_take ((C_M_format z1).1) ((C_M_format z1).2) rg k2).2.1, (C_M_take ((C_M_format z1).1) ((C_M_format z1).2) rg k2).2.2.1, (C_M_take ((C_M_format z1).1) ((C_M_format z1).2) rg k2).2.2.2, (C_M_format z1).1, (C_M_format z1).2) = C_M_kind kx sx px fx pr bi rg z1 k2 from by rw [C_M_kind, if_neg h1, if_neg h3, if_neg h4, if_neg h5, if_pos h6, if_neg h7])
                exact hret _ _ _ _ _ _ (congrArg Prod.fst he9) (by rw [← he9]) hw hS dM_kind_107
              · skip
                refine lv_iload_n (pc := 99) hx hb dM_kind_99 rfl (lv_at hl 0 rfl) ?_
                refine lv_bipush (v := 8) (pc := 100) hx hb dM_kind_100 (by decide) ?_
                refine lv_iadd (pc := 102) hx hb dM_kind_102 ?_
                refine lv_topi (fun v1 e1 => ?_)
                obtain rfl : v1 = 11 := e1.trans (by decide)
                refine lv_goto (tgt := 107) (pc := 103) hx hb dM_kind_103 (by decide) ?_
                have he9 := (show (11, bI false, (C_M_take ((C_M_format z1).1) ((C_M_format z1).2) rg k2).1, (C_M_take ((C_M_format z1).1) ((C_M_format z1).2) rg k2).2.1, (C_M_take ((C_M_format z1).1) ((C_M_format z1).2) rg k2).2.2.1, (C_M_take ((C_M_format z1).1) ((C_M_format z1).2) rg k2).2.2.2, (C_M_format z1).1, (C_M_format z1).2) = C_M_kind kx sx px fx pr bi rg z1 k2 from by rw [C_M_kind, if_neg h1, if_neg h3, if_neg h4, if_neg h5, if_pos h6, if_pos h7])
                exact hret _ _ _ _ _ _ (congrArg Prod.fst he9) (by rw [← he9]) hw hS dM_kind_107
            · skip
              have h6 : ¬ (((C_M_take ((C_M_format z1).1) ((C_M_format z1).2) rg k2).2.2.2) < (jShl 1 (((C_M_format z1).1) - 1))) := fun q => h6 ((lg_cmp_lt _ _).2 q)
              refine lv_iconst (v := 2) (pc := 85) hx hb dM_kind_85 (by decide) ?_
              refine lv_goto (tgt := 90) (pc := 86) hx hb dM_kind_86 (by decide) ?_
              refine lv_istore_n (lv' := [(3, .int 2), (0, .ref m0), (1, .int (bI z1)), (2, .int k2)]) (pc := 90) hx hb dM_kind_90 rfl hl (by decide) rfl (fun ls hl => ?_)
              refine lv_aload_n (pc := 91) hx hb dM_kind_91 rfl (lv_at hl 1 rfl) ?_
              refine mo_g_signX (pc := 92) hx hb hts hown hw w_364 dM_kind_92 ?_
              refine lv_iconst (v := 1) (pc := 95) hx hb dM_kind_95 (by decide) ?_
              refine lv_icmp_ne (tgt := 106) (pc := 96) hx hb dM_kind_96 (by decide) (fun h8 => ?_) (fun h8 => ?_)
              · skip
                refine lv_iload_n (pc := 106) hx hb dM_kind_106 rfl (lv_at hl 0 rfl) ?_
                have he9 := (show (2, bI false, (C_M_take ((C_M_format z1).1) ((C_M_format z1).2) rg k2).1, (C_M_take ((C_M_format z1).1) ((C_M_format z1).2) rg k2).2.1, (C_M_take ((C_M_format z1).1) ((C_M_format z1).2) rg k2).2.2.1, (C_M_take ((C_M_format z1).1) ((C_M_format z1).2) rg k2).2.2.2, (C_M_format z1).1, (C_M_format z1).2) = C_M_kind kx sx px fx pr bi rg z1 k2 from by rw [C_M_kind, if_neg h1, if_neg h3, if_neg h4, if_neg h5, if_neg h6, if_neg h8])
                exact hret _ _ _ _ _ _ (congrArg Prod.fst he9) (by rw [← he9]) hw hS dM_kind_107
              · skip
                refine lv_iload_n (pc := 99) hx hb dM_kind_99 rfl (lv_at hl 0 rfl) ?_
                refine lv_bipush (v := 8) (pc := 100) hx hb dM_kind_100 (by decide) ?_
                refine lv_iadd (pc := 102) hx hb dM_kind_102 ?_
                refine lv_topi (fun v2 e2 => ?_)
                obtain rfl : v2 = 10 := e2.trans (by decide)
                refine lv_goto (tgt := 107) (pc := 103) hx hb dM_kind_103 (by decide) ?_
                have he9 := (show (10, bI false, (C_M_take ((C_M_format z1).1) ((C_M_format z1).2) rg k2).1, (C_M_take ((C_M_format z1).1) ((C_M_format z1).2) rg k2).2.1, (C_M_take ((C_M_format z1).1) ((C_M_format z1).2) rg k2).2.2.1, (C_M_take ((C_M_format z1).1) ((C_M_format z1).2) rg k2).2.2.2, (C_M_format z1).1, (C_M_format z1).2) = C_M_kind kx sx px fx pr bi rg z1 k2 from by rw [C_M_kind, if_neg h1, if_neg h3, if_neg h4, if_neg h5, if_neg h6, if_pos h8])
                exact hret _ _ _ _ _ _ (congrArg Prod.fst he9) (by rw [← he9]) hw hS dM_kind_107
          · skip
            have h5 : ((C_M_take ((C_M_format z1).1) ((C_M_format z1).2) rg k2).2.2.2) = 0 := (lg_cmp_eq _ _).1 h5
            refine lv_iconst (v := 4) (pc := 65) hx hb dM_kind_65 (by decide) ?_
            refine lv_goto (tgt := 90) (pc := 66) hx hb dM_kind_66 (by decide) ?_
            refine lv_istore_n (lv' := [(3, .int 4), (0, .ref m0), (1, .int (bI z1)), (2, .int k2)]) (pc := 90) hx hb dM_kind_90 rfl hl (by decide) rfl (fun ls hl => ?_)
            refine lv_aload_n (pc := 91) hx hb dM_kind_91 rfl (lv_at hl 1 rfl) ?_
            refine mo_g_signX (pc := 92) hx hb hts hown hw w_364 dM_kind_92 ?_
            refine lv_iconst (v := 1) (pc := 95) hx hb dM_kind_95 (by decide) ?_
            refine lv_icmp_ne (tgt := 106) (pc := 96) hx hb dM_kind_96 (by decide) (fun h9 => ?_) (fun h9 => ?_)
            · skip
              refine lv_iload_n (pc := 106) hx hb dM_kind_106 rfl (lv_at hl 0 rfl) ?_
              have he9 := (show (4, bI false, (C_M_take ((C_M_format z1).1) ((C_M_format z1).2) rg k2).1, (C_M_take ((C_M_format z1).1) ((C_M_format z1).2) rg k2).2.1, (C_M_take ((C_M_format z1).1) ((C_M_format z1).2) rg k2).2.2.1, (C_M_take ((C_M_format z1).1) ((C_M_format z1).2) rg k2).2.2.2, (C_M_format z1).1, (C_M_format z1).2) = C_M_kind kx sx px fx pr bi rg z1 k2 from by rw [C_M_kind, if_neg h1, if_neg h3, if_neg h4, if_pos h5, if_neg h9])
              exact hret _ _ _ _ _ _ (congrArg Prod.fst he9) (by rw [← he9]) hw hS dM_kind_107
            · skip
              refine lv_iload_n (pc := 99) hx hb dM_kind_99 rfl (lv_at hl 0 rfl) ?_
              refine lv_bipush (v := 8) (pc := 100) hx hb dM_kind_100 (by decide) ?_
              refine lv_iadd (pc := 102) hx hb dM_kind_102 ?_
              refine lv_topi (fun v3 e3 => ?_)
              obtain rfl : v3 = 12 := e3.trans (by decide)
              refine lv_goto (tgt := 107) (pc := 103) hx hb dM_kind_103 (by decide) ?_
              have he9 := (show (12, bI false, (C_M_take ((C_M_format z1).1) ((C_M_format z1).2) rg k2).1, (C_M_take ((C_M_format z1).1) ((C_M_format z1).2) rg k2).2.1, (C_M_take ((C_M_format z1).1) ((C_M_format z1).2) rg k2).2.2.1, (C_M_take ((C_M_format z1).1) ((C_M_format z1).2) rg k2).2.2.2, (C_M_format z1).1, (C_M_format z1).2) = C_M_kind kx sx px fx pr bi rg z1 k2 from by rw [C_M_kind, if_neg h1, if_neg h3, if_neg h4, if_pos h5, if_pos h9])
              exact hret _ _ _ _ _ _ (congrArg Prod.fst he9) (by rw [← he9]) hw hS dM_kind_107
        · skip
          refine lv_iconst (v := 1) (pc := 52) hx hb dM_kind_52 (by decide) ?_
          refine lv_goto (tgt := 90) (pc := 53) hx hb dM_kind_53 (by decide) ?_
          refine lv_istore_n (lv' := [(3, .int 1), (0, .ref m0), (1, .int (bI z1)), (2, .int k2)]) (pc := 90) hx hb dM_kind_90 rfl hl (by decide) rfl (fun ls hl => ?_)
          refine lv_aload_n (pc := 91) hx hb dM_kind_91 rfl (lv_at hl 1 rfl) ?_
          refine mo_g_signX (pc := 92) hx hb hts hown hw w_364 dM_kind_92 ?_
          refine lv_iconst (v := 1) (pc := 95) hx hb dM_kind_95 (by decide) ?_
          refine lv_icmp_ne (tgt := 106) (pc := 96) hx hb dM_kind_96 (by decide) (fun h10 => ?_) (fun h10 => ?_)
          · skip
            refine lv_iload_n (pc := 106) hx hb dM_kind_106 rfl (lv_at hl 0 rfl) ?_
            have he9 := (show (1, bI false, (C_M_take ((C_M_format z1).1) ((C_M_format z1).2) rg k2).1, (C_M_take ((C_M_format z1).1) ((C_M_format z1).2) rg k2).2.1, (C_M_take ((C_M_format z1).1) ((C_M_format z1).2) rg k2).2.2.1, (C_M_take ((C_M_format z1).1) ((C_M_format z1).2) rg k2).2.2.2, (C_M_format z1).1, (C_M_format z1).2) = C_M_kind kx sx px fx pr bi rg z1 k2 from by rw [C_M_kind, if_neg h1, if_neg h3, if_pos h4, if_neg h10])
            exact hret _ _ _ _ _ _ (congrArg Prod.fst he9) (by rw [← he9]) hw hS dM_kind_107
          · skip
            refine lv_iload_n (pc := 99) hx hb dM_kind_99 rfl (lv_at hl 0 rfl) ?_
            refine lv_bipush (v := 8) (pc := 100) hx hb dM_kind_100 (by decide) ?_
            refine lv_iadd (pc := 102) hx hb dM_kind_102 ?_
            refine lv_topi (fun v4 e4 => ?_)
            obtain rfl : v4 = 9 := e4.trans (by decide)
            refine lv_goto (tgt := 107) (pc := 103) hx hb dM_kind_103 (by decide) ?_
            have he9 := (show (9, bI false, (C_M_take ((C_M_format z1).1) ((C_M_format z1).2) rg k2).1, (C_M_take ((C_M_format z1).1) ((C_M_format z1).2) rg k2).2.1, (C_M_take ((C_M_format z1).1) ((C_M_format z1).2) rg k2).2.2.1, (C_M_take ((C_M_format z1).1) ((C_M_format z1).2) rg k2).2.2.2, (C_M_format z1).1, (C_M_format z1).2) = C_M_kind kx sx px fx pr bi rg z1 k2 from by rw [C_M_kind, if_neg h1, if_neg h3, if_pos h4, if_pos h10])
            exact hret _ _ _ _ _ _ (congrArg Prod.fst he9) (by rw [← he9]) hw hS dM_kind_107
      · skip
        refine lv_iconst (v := 0) (pc := 40) hx hb dM_kind_40 (by decide) ?_
        refine lv_goto (tgt := 90) (pc := 41) hx hb dM_kind_41 (by decide) ?_
        refine lv_istore_n (lv' := [(3, .int 0), (0, .ref m0), (1, .int (bI z1)), (2, .int k2)]) (pc := 90) hx hb dM_kind_90 rfl hl (by decide) rfl (fun ls hl => ?_)
        refine lv_aload_n (pc := 91) hx hb dM_kind_91 rfl (lv_at hl 1 rfl) ?_
        refine mo_g_signX (pc := 92) hx hb hts hown hw w_364 dM_kind_92 ?_
        refine lv_iconst (v := 1) (pc := 95) hx hb dM_kind_95 (by decide) ?_
        refine lv_icmp_ne (tgt := 106) (pc := 96) hx hb dM_kind_96 (by decide) (fun h11 => ?_) (fun h11 => ?_)
        · skip
          refine lv_iload_n (pc := 106) hx hb dM_kind_106 rfl (lv_at hl 0 rfl) ?_
          have he9 := (show (0, bI false, (C_M_take ((C_M_format z1).1) ((C_M_format z1).2) rg k2).1, (C_M_take ((C_M_format z1).1) ((C_M_format z1).2) rg k2).2.1, (C_M_take ((C_M_format z1).1) ((C_M_format z1).2) rg k2).2.2.1, (C_M_take ((C_M_format z1).1) ((C_M_format z1).2) rg k2).2.2.2, (C_M_format z1).1, (C_M_format z1).2) = C_M_kind kx sx px fx pr bi rg z1 k2 from by rw [C_M_kind, if_neg h1, if_pos h3, if_neg h11])
          exact hret _ _ _ _ _ _ (congrArg Prod.fst he9) (by rw [← he9]) hw hS dM_kind_107
        · skip
          refine lv_iload_n (pc := 99) hx hb dM_kind_99 rfl (lv_at hl 0 rfl) ?_
          refine lv_bipush (v := 8) (pc := 100) hx hb dM_kind_100 (by decide) ?_
          refine lv_iadd (pc := 102) hx hb dM_kind_102 ?_
          refine lv_topi (fun v5 e5 => ?_)
          obtain rfl : v5 = 8 := e5.trans (by decide)
          refine lv_goto (tgt := 107) (pc := 103) hx hb dM_kind_103 (by decide) ?_
          have he9 := (show (8, bI false, (C_M_take ((C_M_format z1).1) ((C_M_format z1).2) rg k2).1, (C_M_take ((C_M_format z1).1) ((C_M_format z1).2) rg k2).2.1, (C_M_take ((C_M_format z1).1) ((C_M_format z1).2) rg k2).2.2.1, (C_M_take ((C_M_format z1).1) ((C_M_format z1).2) rg k2).2.2.2, (C_M_format z1).1, (C_M_format z1).2) = C_M_kind kx sx px fx pr bi rg z1 k2 from by rw [C_M_kind, if_neg h1, if_pos h3, if_pos h11])
          exact hret _ _ _ _ _ _ (congrArg Prod.fst he9) (by rw [← he9]) hw hS dM_kind_107
    · exact absurd h2 (by decide)
  · skip
    have h1 : (C_M_in k2 15) = false := (bI_0 _).1 h1
    refine lv_iconst (v := 1) (pc := 10) hx hb dM_kind_10 (by decide) ?_
    refine lv_goto (tgt := 15) (pc := 11) hx hb dM_kind_11 (by decide) ?_
    refine mo_V (pc := 15) (rest := []) ⟨hx, hb, hml, hown, hts⟩ (c_M_fails l D cI cL m0 ra rb rc md fl er kx ky sx sy px py fx fy pr bi row oth rg true) (cwM_fails hts w_417 ⟨by decide, by decide⟩) hw hS rfl hl.1 rfl (Nat.le_of_ble_eq_true rfl) dM_kind_15 ⟨Nat.zero_le _, Nat.zero_le _⟩ (fun H locs hw hS => ?_)
    refine W.eq (g2 := F0 m 18 ls [.int 1]) rfl ?_
    refine lv_if_eq (tgt := 23) (pc := 18) hx hb dM_kind_18 (by decide) (fun h12 => ?_) (fun h12 => ?_)
    · exact absurd h12 (by decide)
    · skip
      refine lv_iconst (v := 0) (pc := 21) hx hb dM_kind_21 (by decide) ?_
      have he9 := (show (0, bI true, kx, sx, px, fx, pr, bi) = C_M_kind kx sx px fx pr bi rg z1 k2 from by rw [C_M_kind, if_pos h1])
      exact hret _ _ _ _ _ _ (congrArg Prod.fst he9) (by rw [← he9]) hw hS dM_kind_22
def C_M_negate (kx : Int32) (sx : Int32) (px : Int32) (fx : Int64) (pr : Int32) (bi : Int32) (rg : Nat → Int64) (z1 : Bool) (k2 : Int32) (k3 : Int32) : Int64 × Int32 × Int32 × Int32 × Int32 × Int64 × Int32 × Int32 × (Nat → Int64) :=
  if (C_M_in k2 15) = false then
    (0, bI true, kx, sx, px, fx, pr, bi, rg)
  else
    if (C_M_in k3 15) = false then
      (0, bI true, kx, sx, px, fx, pr, bi, rg)
    else
      if ((C_M_take ((C_M_format z1).1) ((C_M_format z1).2) rg k3).1) = 0 then
        (C_M_none ((C_M_format z1).1) ((C_M_format z1).2), bI false, (C_M_take ((C_M_format z1).1) ((C_M_format z1).2) rg k3).1, (C_M_take ((C_M_format z1).1) ((C_M_format z1).2) rg k3).2.1, (C_M_take ((C_M_format z1).1) ((C_M_format z1).2) rg k3).2.2.1, (C_M_take ((C_M_format z1).1) ((C_M_format z1).2) rg k3).2.2.2, (C_M_format z1).1, (C_M_format z1).2, vp_updL rg k2.toNatClampNeg (C_M_none ((C_M_format z1).1) ((C_M_format z1).2)))
      else
        if ((C_M_take ((C_M_format z1).1) ((C_M_format z1).2) rg k3).1) = 1 then
          (C_M_endless ((C_M_format z1).1) ((C_M_format z1).2) (1 - ((C_M_take ((C_M_format z1).1) ((C_M_format z1).2) rg k3).2.1)), bI false, (C_M_take ((C_M_format z1).1) ((C_M_format z1).2) rg k3).1, (C_M_take ((C_M_format z1).1) ((C_M_format z1).2) rg k3).2.1, (C_M_take ((C_M_format z1).1) ((C_M_format z1).2) rg k3).2.2.1, (C_M_take ((C_M_format z1).1) ((C_M_format z1).2) rg k3).2.2.2, (C_M_format z1).1, (C_M_format z1).2, vp_updL rg k2.toNatClampNeg (C_M_endless ((C_M_format z1).1) ((C_M_format z1).2) (1 - ((C_M_take ((C_M_format z1).1) ((C_M_format z1).2) rg k3).2.1))))
        else
          if ((C_M_take ((C_M_format z1).1) ((C_M_format z1).2) rg k3).2.2.2) < (jShl 1 (((C_M_format z1).1) - 1)) then
            (C_M_made ((C_M_format z1).1) (1 - ((C_M_take ((C_M_format z1).1) ((C_M_format z1).2) rg k3).2.1)) 0 (((C_M_take ((C_M_format z1).1) ((C_M_format z1).2) rg k3).2.2.2) &&& ((jShl 1 (((C_M_format z1).1) - 1)) - 1)), bI false, (C_M_take ((C_M_format z1).1) ((C_M_format z1).2) rg k3).1, (C_M_take ((C_M_format z1).1) ((C_M_format z1).2) rg k3).2.1, (C_M_take ((C_M_format z1).1) ((C_M_format z1).2) rg k3).2.2.1, (C_M_take ((C_M_format z1).1) ((C_M_format z1).2) rg k3).2.2.2, (C_M_format z1).1, (C_M_format z1).2, vp_updL rg k2.toNatClampNeg (C_M_made ((C_M_format z1).1) (1 - ((C_M_take ((C_M_format z1).1) ((C_M_format z1).2) rg k3).2.1)) 0 (((C_M_take ((C_M_format z1).1) ((C_M_format z1).2) rg k3).2.2.2) &&& ((jShl 1 (((C_M_format z1).1) - 1)) - 1))))
          else
            (C_M_made ((C_M_format z1).1) (1 - ((C_M_take ((C_M_format z1).1) ((C_M_format z1).2) rg k3).2.1)) ((((((C_M_take ((C_M_format z1).1) ((C_M_format z1).2) rg k3).2.2.1) + ((C_M_format z1).1)) - 1) + ((C_M_format z1).2)).toInt64) (((C_M_take ((C_M_format z1).1) ((C_M_format z1).2) rg k3).2.2.2) &&& ((jShl 1 (((C_M_format z1).1) - 1)) - 1)), bI false, (C_M_take ((C_M_format z1).1) ((C_M_format z1).2) rg k3).1, (C_M_take ((C_M_format z1).1) ((C_M_format z1).2) rg k3).2.1, (C_M_take ((C_M_format z1).1) ((C_M_format z1).2) rg k3).2.2.1, (C_M_take ((C_M_format z1).1) ((C_M_format z1).2) rg k3).2.2.2, (C_M_format z1).1, (C_M_format z1).2, vp_updL rg k2.toNatClampNeg (C_M_made ((C_M_format z1).1) (1 - ((C_M_take ((C_M_format z1).1) ((C_M_format z1).2) rg k3).2.1)) ((((((C_M_take ((C_M_format z1).1) ((C_M_format z1).2) rg k3).2.2.1) + ((C_M_format z1).1)) - 1) + ((C_M_format z1).2)).toInt64) (((C_M_take ((C_M_format z1).1) ((C_M_format z1).2) rg k3).2.2.2) &&& ((jShl 1 (((C_M_format z1).1) - 1)) - 1))))
abbrev rmM_negate : Room := { frames := 2, cells := 0, slots := 0, locals := 46 }
theorem cwM_negate {R : Room} {s : State} {args : Array Value} {w0 : Cond} {own : String} {idx : Nat} (hts : ∀ w ∈ (w0 :: bigW), w.before args s = true) (hl : Cond.methodLink own idx yM_negate ∈ bigW) (hR : rmM_negate.frames + 1 ≤ R.frames ∧ 8 + (6 + 11) + rmM_negate.locals ≤ R.locals) : CallW R s args own "FloatUnitModel" idx yM_negate cM_negate 6 (some .long) (wsM yM_negate cM_negate 6 (some .long)) rmM_negate 0 0 3 :=
  cwV 3 hts (big_V hl w_524 w_525 w_2 w_526) rfl rfl rfl ⟨rfl, by decide, by decide, by decide +kernel⟩ hR
set_option maxRecDepth 100000 in
set_option maxHeartbeats 8000000 in
theorem c_M_negate (l : Launch) (D : va_G) (cI cL : ClassId) (m0 ra rb rc : Nat) (md fl er kx ky sx sy px py : Int32) (fx fy : Int64) (pr bi : Int32) (row oth : Nat → Int32) (rg : Nat → Int64) (z1 : Bool) (k2 : Int32) (k3 : Int32) : MoM l D cI cL m0 ra rb rc yM_negate (wsM yM_negate cM_negate 6 (some .long)) rmM_negate [.int (bI z1), .int k2, .int k3] ((md, fl, er, kx, ky, sx, sy, px, py), (fx, fy), (pr, bi), row, oth, rg) (some (.long ((C_M_negate kx sx px fx pr bi rg z1 k2 k3).1))) ((md, fl, ((C_M_negate kx sx px fx pr bi rg z1 k2 k3).2.1), ((C_M_negate kx sx px fx pr bi rg z1 k2 k3).2.2.1), ky, ((C_M_negate kx sx px fx pr bi rg z1 k2 k3).2.2.2.1), sy, ((C_M_negate kx sx px fx pr bi rg z1 k2 k3).2.2.2.2.1), py), (((C_M_negate kx sx px fx pr bi rg z1 k2 k3).2.2.2.2.2.1), fy), (((C_M_negate kx sx px fx pr bi rg z1 k2 k3).2.2.2.2.2.2.1), ((C_M_negate kx sx px fx pr bi rg z1 k2 k3).2.2.2.2.2.2.2.1)), row, oth, ((C_M_negate kx sx px fx pr bi rg z1 k2 k3).2.2.2.2.2.2.2.2)) := by
  refine mo_ofL (cc := cM_negate) (maxL := 6) (by decide) rfl (Nat.le_of_ble_eq_true rfl) ?_
  intro p e s m args below meth c Q hx hb hml hown hts H locs hS hw hret ls hl
  have hl : lv_has ls 6 [(0, .ref m0), (1, .int (bI z1)), (2, .int k2), (3, .int k3)] := hl
  refine lv_aload_n (pc := 0) hx hb dM_negate_0 rfl (lv_at hl 0 rfl) ?_
  refine lv_iload_n (pc := 1) hx hb dM_negate_1 rfl (lv_at hl 2 rfl) ?_
  refine lv_bipush (v := 15) (pc := 2) hx hb dM_negate_2 (by decide) ?_
  refine ps_S (pc := 4) (rest := [.ref m0]) ⟨hx, hb, hml, hown, hts⟩ (c_M_in l k2 15) (cwM_in hts w_414 ⟨by decide, by decide⟩) rfl hl.1 rfl (Nat.le_of_ble_eq_true rfl) dM_negate_4 ⟨Nat.zero_le _, Nat.zero_le _⟩ ?_
  refine lv_if_eq (tgt := 19) (pc := 7) hx hb dM_negate_7 (by decide) (fun h1 => ?_) (fun h1 => ?_)
  · skip
    have h1 : (C_M_in k2 15) = false := (bI_0 _).1 h1
    refine lv_iconst (v := 1) (pc := 19) hx hb dM_negate_19 (by decide) ?_
    refine lv_goto (tgt := 24) (pc := 20) hx hb dM_negate_20 (by decide) ?_
    refine mo_V (pc := 24) (rest := []) ⟨hx, hb, hml, hown, hts⟩ (c_M_fails l D cI cL m0 ra rb rc md fl er kx ky sx sy px py fx fy pr bi row oth rg true) (cwM_fails hts w_417 ⟨by decide, by decide⟩) hw hS rfl hl.1 rfl (Nat.le_of_ble_eq_true rfl) dM_negate_24 ⟨Nat.zero_le _, Nat.zero_le _⟩ (fun H locs hw hS => ?_)
    refine W.eq (g2 := F0 m 27 ls [.int 1]) rfl ?_
    refine lv_if_eq (tgt := 32) (pc := 27) hx hb dM_negate_27 (by decide) (fun h2 => ?_) (fun h2 => ?_)
    · exact absurd h2 (by decide)
    · skip
      refine lv_lconst (v := 0) (pc := 30) hx hb dM_negate_30 (by decide) ?_
      have he9 := (show (0, bI true, kx, sx, px, fx, pr, bi, rg) = C_M_negate kx sx px fx pr bi rg z1 k2 k3 from by rw [C_M_negate, if_pos h1])
      exact hret _ _ _ _ _ _ (congrArg Prod.fst he9) (by rw [← he9]) hw hS dM_negate_31
  · skip
    have h1 : ¬ ((C_M_in k2 15) = false) := fun q => h1 ((bI_0 _).2 q)
    refine lv_iload_n (pc := 10) hx hb dM_negate_10 rfl (lv_at hl 3 rfl) ?_
    refine lv_bipush (v := 15) (pc := 11) hx hb dM_negate_11 (by decide) ?_
    refine ps_S (pc := 13) (rest := [.ref m0]) ⟨hx, hb, hml, hown, hts⟩ (c_M_in l k3 15) (cwM_in hts w_414 ⟨by decide, by decide⟩) rfl hl.1 rfl (Nat.le_of_ble_eq_true rfl) dM_negate_13 ⟨Nat.zero_le _, Nat.zero_le _⟩ ?_
    refine lv_if_ne (tgt := 23) (pc := 16) hx hb dM_negate_16 (by decide) (fun h3 => ?_) (fun h3 => ?_)
    · skip
      have h3 : ¬ ((C_M_in k3 15) = false) := fun q => h3 ((bI_0 _).2 q)
      refine lv_iconst (v := 0) (pc := 23) hx hb dM_negate_23 (by decide) ?_
      refine mo_V (pc := 24) (rest := []) ⟨hx, hb, hml, hown, hts⟩ (c_M_fails l D cI cL m0 ra rb rc md fl er kx ky sx sy px py fx fy pr bi row oth rg false) (cwM_fails hts w_417 ⟨by decide, by decide⟩) hw hS rfl hl.1 rfl (Nat.le_of_ble_eq_true rfl) dM_negate_24 ⟨Nat.zero_le _, Nat.zero_le _⟩ (fun H locs hw hS => ?_)
      refine W.eq (g2 := F0 m 27 ls [.int 0]) rfl ?_
      refine lv_if_eq (tgt := 32) (pc := 27) hx hb dM_negate_27 (by decide) (fun h4 => ?_) (fun h4 => ?_)
      · skip
        refine lv_aload_n (pc := 32) hx hb dM_negate_32 rfl (lv_at hl 0 rfl) ?_
        refine lv_iload_n (pc := 33) hx hb dM_negate_33 rfl (lv_at hl 1 rfl) ?_
        refine mo_V (pc := 34) (rest := []) ⟨hx, hb, hml, hown, hts⟩ (c_M_format l D cI cL m0 ra rb rc md fl (bI false) kx ky sx sy px py fx fy pr bi row oth rg z1) (cwM_format hts w_437 ⟨by decide, by decide⟩) hw hS rfl hl.1 rfl (Nat.le_of_ble_eq_true rfl) dM_negate_34 ⟨Nat.zero_le _, Nat.zero_le _⟩ (fun H locs hw hS => ?_)
        refine W.eq (g2 := F0 m 37 ls []) rfl ?_
        refine lv_aload_n (pc := 37) hx hb dM_negate_37 rfl (lv_at hl 0 rfl) ?_
        refine lv_iload_n (pc := 38) hx hb dM_negate_38 rfl (lv_at hl 3 rfl) ?_
        refine mo_V (pc := 39) (rest := []) ⟨hx, hb, hml, hown, hts⟩ (c_M_take l D cI cL m0 ra rb rc md fl (bI false) kx ky sx sy px py fx fy ((C_M_format z1).1) ((C_M_format z1).2) row oth rg k3 (min_in h3)) (cwM_take hts w_445 ⟨by decide, by decide⟩) hw hS rfl hl.1 rfl (Nat.le_of_ble_eq_true rfl) dM_negate_39 ⟨Nat.zero_le _, Nat.zero_le _⟩ (fun H locs hw hS => ?_)
        refine W.eq (g2 := F0 m 42 ls []) rfl ?_
        refine lv_aload_n (pc := 42) hx hb dM_negate_42 rfl (lv_at hl 0 rfl) ?_
        refine mo_g_kindX (pc := 43) hx hb hts hown hw w_362 dM_negate_43 ?_
        refine lv_if_ne (tgt := 56) (pc := 46) hx hb dM_negate_46 (by decide) (fun h5 => ?_) (fun h5 => ?_)
        · skip
          refine lv_aload_n (pc := 56) hx hb dM_negate_56 rfl (lv_at hl 0 rfl) ?_
          refine mo_g_kindX (pc := 57) hx hb hts hown hw w_362 dM_negate_57 ?_
          refine lv_iconst (v := 1) (pc := 60) hx hb dM_negate_60 (by decide) ?_
          refine lv_icmp_ne (tgt := 77) (pc := 61) hx hb dM_negate_61 (by decide) (fun h6 => ?_) (fun h6 => ?_)
          · skip
            refine lv_aload_n (pc := 77) hx hb dM_negate_77 rfl (lv_at hl 0 rfl) ?_
            refine lv_iconst (v := 1) (pc := 78) hx hb dM_negate_78 (by decide) ?_
            refine lv_aload_n (pc := 79) hx hb dM_negate_79 rfl (lv_at hl 0 rfl) ?_
            refine mo_g_signX (pc := 80) hx hb hts hown hw w_364 dM_negate_80 ?_
            refine lv_isub (pc := 83) hx hb dM_negate_83 ?_
            refine lv_aload_n (pc := 84) hx hb dM_negate_84 rfl (lv_at hl 0 rfl) ?_
            refine mo_g_partX (pc := 85) hx hb hts hown hw w_368 dM_negate_85 ?_
            refine lv_lconst (v := 1) (pc := 88) hx hb dM_negate_88 (by decide) ?_
            refine lv_aload_n (pc := 89) hx hb dM_negate_89 rfl (lv_at hl 0 rfl) ?_
            refine mo_g_precision (pc := 90) hx hb hts hown hw w_370 dM_negate_90 ?_
            refine lv_iconst (v := 1) (pc := 93) hx hb dM_negate_93 (by decide) ?_
            refine lv_isub (pc := 94) hx hb dM_negate_94 ?_
            refine lv_lshl (v := jShl 1 (((C_M_format z1).1) - 1)) (pc := 95) hx hb dM_negate_95 rfl ?_
            refine W.lcmp (pc := 96) hx hb dM_negate_96 ?_
            refine lv_if_lt (tgt := 120) (pc := 97) hx hb dM_negate_97 (by decide) (fun h7 => ?_) (fun h7 => ?_)
            · skip
              have h7 : ((C_M_take ((C_M_format z1).1) ((C_M_format z1).2) rg k3).2.2.2) < (jShl 1 (((C_M_format z1).1) - 1)) := (lg_cmp_lt _ _).1 h7
              refine lv_lconst (v := 0) (pc := 120) hx hb dM_negate_120 (by decide) ?_
              refine lv_aload_n (pc := 121) hx hb dM_negate_121 rfl (lv_at hl 0 rfl) ?_
              refine mo_g_partX (pc := 122) hx hb hts hown hw w_368 dM_negate_122 ?_
              refine lv_lconst (v := 1) (pc := 125) hx hb dM_negate_125 (by decide) ?_
              refine lv_aload_n (pc := 126) hx hb dM_negate_126 rfl (lv_at hl 0 rfl) ?_
              refine mo_g_precision (pc := 127) hx hb hts hown hw w_370 dM_negate_127 ?_
              refine lv_iconst (v := 1) (pc := 130) hx hb dM_negate_130 (by decide) ?_
              refine lv_isub (pc := 131) hx hb dM_negate_131 ?_
              refine lv_lshl (v := jShl 1 (((C_M_format z1).1) - 1)) (pc := 132) hx hb dM_negate_132 rfl ?_
              refine lv_lconst (v := 1) (pc := 133) hx hb dM_negate_133 (by decide) ?_
              refine lv_lsub (pc := 134) hx hb dM_negate_134 ?_
              refine lv_land (pc := 135) hx hb dM_negate_135 ?_
              refine mo_V (pc := 136) (rest := []) ⟨hx, hb, hml, hown, hts⟩ (c_M_made l D cI cL m0 ra rb rc md fl (bI false) ((C_M_take ((C_M_format z1).1) ((C_M_format z1).2) rg k3).1) ky ((C_M_take ((C_M_format z1).1) ((C_M_format z1).2) rg k3).2.1) sy ((C_M_take ((C_M_format z1).1) ((C_M_format z1).2) rg k3).2.2.1) py ((C_M_take ((C_M_format z1).1) ((C_M_format z1).2) rg k3).2.2.2) fy ((C_M_format z1).1) ((C_M_format z1).2) row oth rg (1 - ((C_M_take ((C_M_format z1).1) ((C_M_format z1).2) rg k3).2.1)) 0 (((C_M_take ((C_M_format z1).1) ((C_M_format z1).2) rg k3).2.2.2) &&& ((jShl 1 (((C_M_format z1).1) - 1)) - 1))) (cwM_made hts w_453 ⟨by decide, by decide⟩) hw hS rfl hl.1 rfl (Nat.le_of_ble_eq_true rfl) dM_negate_136 ⟨Nat.zero_le _, Nat.zero_le _⟩ (fun H locs hw hS => ?_)
              refine W.eq (g2 := F0 m 139 ls [.long (C_M_made ((C_M_format z1).1) (1 - ((C_M_take ((C_M_format z1).1) ((C_M_format z1).2) rg k3).2.1)) 0 (((C_M_take ((C_M_format z1).1) ((C_M_format z1).2) rg k3).2.2.2) &&& ((jShl 1 (((C_M_format z1).1) - 1)) - 1)))]) rfl ?_
              refine lv_lstore (lv' := [(4, .long (C_M_made ((C_M_format z1).1) (1 - ((C_M_take ((C_M_format z1).1) ((C_M_format z1).2) rg k3).2.1)) 0 (((C_M_take ((C_M_format z1).1) ((C_M_format z1).2) rg k3).2.2.2) &&& ((jShl 1 (((C_M_format z1).1) - 1)) - 1)))), (0, .ref m0), (1, .int (bI z1)), (2, .int k2), (3, .int k3)]) (pc := 139) hx hb dM_negate_139 hl (by decide) rfl (fun ls hl => ?_)
              refine lv_aload_n (pc := 141) hx hb dM_negate_141 rfl (lv_at hl 1 rfl) ?_
              refine mo_g_registers (pc := 142) hx hb hts hown hw w_358 dM_negate_142 ?_
              refine lv_iload_n (pc := 145) hx hb dM_negate_145 rfl (lv_at hl 3 rfl) ?_
              refine lv_lload (pc := 146) hx hb dM_negate_146 (lv_at hl 0 rfl) ?_
              refine mo_st (pc := 148) hx hb hw hS (min_in h1) dM_negate_148 (fun H locs hw hS => ?_)
              refine lv_lload (pc := 149) hx hb dM_negate_149 (lv_at hl 0 rfl) ?_
              have he9 := (show (C_M_made ((C_M_format z1).1) (1 - ((C_M_take ((C_M_format z1).1) ((C_M_format z1).2) rg k3).2.1)) 0 (((C_M_take ((C_M_format z1).1) ((C_M_format z1).2) rg k3).2.2.2) &&& ((jShl 1 (((C_M_format z1).1) - 1)) - 1)), bI false, (C_M_take ((C_M_format z1).1) ((C_M_format z1).2) rg k3).1, (C_M_take ((C_M_format z1).1) ((C_M_format z1).2) rg k3).2.1, (C_M_take ((C_M_format z1).1) ((C_M_format z1).2) rg k3).2.2.1, (C_M_take ((C_M_format z1).1) ((C_M_format z1).2) rg k3).2.2.2, (C_M_format z1).1, (C_M_format z1).2, vp_updL rg k2.toNatClampNeg (C_M_made ((C_M_format z1).1) (1 - ((C_M_take ((C_M_format z1).1) ((C_M_format z1).2) rg k3).2.1)) 0 (((C_M_take ((C_M_format z1).1) ((C_M_format z1).2) rg k3).2.2.2) &&& ((jShl 1 (((C_M_format z1).1) - 1)) - 1)))) = C_M_negate kx sx px fx pr bi rg z1 k2 k3 from by rw [C_M_negate, if_neg h1, if_neg h3, if_neg h5, if_neg h6, if_pos h7])
              exact hret _ _ _ _ _ _ (congrArg Prod.fst he9) (by rw [← he9]) hw hS dM_negate_151
            · skip
              have h7 : ¬ (((C_M_take ((C_M_format z1).1) ((C_M_format z1).2) rg k3).2.2.2) < (jShl 1 (((C_M_format z1).1) - 1))) := fun q => h7 ((lg_cmp_lt _ _).2 q)
              refine lv_aload_n (pc := 100) hx hb dM_negate_100 rfl (lv_at hl 0 rfl) ?_
              refine mo_g_powerX (pc := 101) hx hb hts hown hw w_366 dM_negate_101 ?_
              refine lv_aload_n (pc := 104) hx hb dM_negate_104 rfl (lv_at hl 0 rfl) ?_
              refine mo_g_precision (pc := 105) hx hb hts hown hw w_370 dM_negate_105 ?_
              refine lv_iadd (pc := 108) hx hb dM_negate_108 ?_
              refine lv_iconst (v := 1) (pc := 109) hx hb dM_negate_109 (by decide) ?_
              refine lv_isub (pc := 110) hx hb dM_negate_110 ?_
              refine lv_aload_n (pc := 111) hx hb dM_negate_111 rfl (lv_at hl 0 rfl) ?_
              refine mo_g_bias (pc := 112) hx hb hts hown hw w_371 dM_negate_112 ?_
              refine lv_iadd (pc := 115) hx hb dM_negate_115 ?_
              refine lv_i2l (v := (((((C_M_take ((C_M_format z1).1) ((C_M_format z1).2) rg k3).2.2.1) + ((C_M_format z1).1)) - 1) + ((C_M_format z1).2)).toInt64) (pc := 116) hx hb dM_negate_116 rfl ?_
              refine lv_goto (tgt := 121) (pc := 117) hx hb dM_negate_117 (by decide) ?_
              refine lv_aload_n (pc := 121) hx hb dM_negate_121 rfl (lv_at hl 0 rfl) ?_
              refine mo_g_partX (pc := 122) hx hb hts hown hw w_368 dM_negate_122 ?_
              refine lv_lconst (v := 1) (pc := 125) hx hb dM_negate_125 (by decide) ?_
              refine lv_aload_n (pc := 126) hx hb dM_negate_126 rfl (lv_at hl 0 rfl) ?_
              refine mo_g_precision (pc := 127) hx hb hts hown hw w_370 dM_negate_127 ?_
              refine lv_iconst (v := 1) (pc := 130) hx hb dM_negate_130 (by decide) ?_
              refine lv_isub (pc := 131) hx hb dM_negate_131 ?_
              refine lv_lshl (v := jShl 1 (((C_M_format z1).1) - 1)) (pc := 132) hx hb dM_negate_132 rfl ?_
              refine lv_lconst (v := 1) (pc := 133) hx hb dM_negate_133 (by decide) ?_
              refine lv_lsub (pc := 134) hx hb dM_negate_134 ?_
              refine lv_land (pc := 135) hx hb dM_negate_135 ?_
              refine mo_V (pc := 136) (rest := []) ⟨hx, hb, hml, hown, hts⟩ (c_M_made l D cI cL m0 ra rb rc md fl (bI false) ((C_M_take ((C_M_format z1).1) ((C_M_format z1).2) rg k3).1) ky ((C_M_take ((C_M_format z1).1) ((C_M_format z1).2) rg k3).2.1) sy ((C_M_take ((C_M_format z1).1) ((C_M_format z1).2) rg k3).2.2.1) py ((C_M_take ((C_M_format z1).1) ((C_M_format z1).2) rg k3).2.2.2) fy ((C_M_format z1).1) ((C_M_format z1).2) row oth rg (1 - ((C_M_take ((C_M_format z1).1) ((C_M_format z1).2) rg k3).2.1)) ((((((C_M_take ((C_M_format z1).1) ((C_M_format z1).2) rg k3).2.2.1) + ((C_M_format z1).1)) - 1) + ((C_M_format z1).2)).toInt64) (((C_M_take ((C_M_format z1).1) ((C_M_format z1).2) rg k3).2.2.2) &&& ((jShl 1 (((C_M_format z1).1) - 1)) - 1))) (cwM_made hts w_453 ⟨by decide, by decide⟩) hw hS rfl hl.1 rfl (Nat.le_of_ble_eq_true rfl) dM_negate_136 ⟨Nat.zero_le _, Nat.zero_le _⟩ (fun H locs hw hS => ?_)
              refine W.eq (g2 := F0 m 139 ls [.long (C_M_made ((C_M_format z1).1) (1 - ((C_M_take ((C_M_format z1).1) ((C_M_format z1).2) rg k3).2.1)) ((((((C_M_take ((C_M_format z1).1) ((C_M_format z1).2) rg k3).2.2.1) + ((C_M_format z1).1)) - 1) + ((C_M_format z1).2)).toInt64) (((C_M_take ((C_M_format z1).1) ((C_M_format z1).2) rg k3).2.2.2) &&& ((jShl 1 (((C_M_format z1).1) - 1)) - 1)))]) rfl ?_
              refine lv_lstore (lv' := [(4, .long (C_M_made ((C_M_format z1).1) (1 - ((C_M_take ((C_M_format z1).1) ((C_M_format z1).2) rg k3).2.1)) ((((((C_M_take ((C_M_format z1).1) ((C_M_format z1).2) rg k3).2.2.1) + ((C_M_format z1).1)) - 1) + ((C_M_format z1).2)).toInt64) (((C_M_take ((C_M_format z1).1) ((C_M_format z1).2) rg k3).2.2.2) &&& ((jShl 1 (((C_M_format z1).1) - 1)) - 1)))), (0, .ref m0), (1, .int (bI z1)), (2, .int k2), (3, .int k3)]) (pc := 139) hx hb dM_negate_139 hl (by decide) rfl (fun ls hl => ?_)
              refine lv_aload_n (pc := 141) hx hb dM_negate_141 rfl (lv_at hl 1 rfl) ?_
              refine mo_g_registers (pc := 142) hx hb hts hown hw w_358 dM_negate_142 ?_
              refine lv_iload_n (pc := 145) hx hb dM_negate_145 rfl (lv_at hl 3 rfl) ?_
              refine lv_lload (pc := 146) hx hb dM_negate_146 (lv_at hl 0 rfl) ?_
              refine mo_st (pc := 148) hx hb hw hS (min_in h1) dM_negate_148 (fun H locs hw hS => ?_)
              refine lv_lload (pc := 149) hx hb dM_negate_149 (lv_at hl 0 rfl) ?_
              have he9 := (show (C_M_made ((C_M_format z1).1) (1 - ((C_M_take ((C_M_format z1).1) ((C_M_format z1).2) rg k3).2.1)) ((((((C_M_take ((C_M_format z1).1) ((C_M_format z1).2) rg k3).2.2.1) + ((C_M_format z1).1)) - 1) + ((C_M_format z1).2)).toInt64) (((C_M_take ((C_M_format z1).1) ((C_M_format z1).2) rg k3).2.2.2) &&& ((jShl 1 (((C_M_format z1).1) - 1)) - 1)), bI false, (C_M_take ((C_M_format z1).1) ((C_M_format z1).2) rg k3).1, (C_M_take ((C_M_format z1).1) ((C_M_format z1).2) rg k3).2.1, (C_M_take ((C_M_format z1).1) ((C_M_format z1).2) rg k3).2.2.1, (C_M_take ((C_M_format z1).1) ((C_M_format z1).2) rg k3).2.2.2, (C_M_format z1).1, (C_M_format z1).2, vp_updL rg k2.toNatClampNeg (C_M_made ((C_M_format z1).1) (1 - ((C_M_take ((C_M_format z1).1) ((C_M_format z1).2) rg k3).2.1)) ((((((C_M_take ((C_M_format z1).1) ((C_M_format z1).2) rg k3).2.2.1) + ((C_M_format z1).1)) - 1) + ((C_M_format z1).2)).toInt64) (((C_M_take ((C_M_format z1).1) ((C_M_format z1).2) rg k3).2.2.2) &&& ((jShl 1 (((C_M_format z1).1) - 1)) - 1)))) = C_M_negate kx sx px fx pr bi rg z1 k2 k3 from by rw [C_M_negate, if_neg h1, if_neg h3, if_neg h5, if_neg h6, if_neg h7])
              exact hret _ _ _ _ _ _ (congrArg Prod.fst he9) (by rw [← he9]) hw hS dM_negate_151
          · skip
            refine lv_aload_n (pc := 64) hx hb dM_negate_64 rfl (lv_at hl 0 rfl) ?_
            refine lv_iconst (v := 1) (pc := 65) hx hb dM_negate_65 (by decide) ?_
            refine lv_aload_n (pc := 66) hx hb dM_negate_66 rfl (lv_at hl 0 rfl) ?_
            refine mo_g_signX (pc := 67) hx hb hts hown hw w_364 dM_negate_67 ?_
            refine lv_isub (pc := 70) hx hb dM_negate_70 ?_
            refine mo_V (pc := 71) (rest := []) ⟨hx, hb, hml, hown, hts⟩ (c_M_endless l D cI cL m0 ra rb rc md fl (bI false) ((C_M_take ((C_M_format z1).1) ((C_M_format z1).2) rg k3).1) ky ((C_M_take ((C_M_format z1).1) ((C_M_format z1).2) rg k3).2.1) sy ((C_M_take ((C_M_format z1).1) ((C_M_format z1).2) rg k3).2.2.1) py ((C_M_take ((C_M_format z1).1) ((C_M_format z1).2) rg k3).2.2.2) fy ((C_M_format z1).1) ((C_M_format z1).2) row oth rg (1 - ((C_M_take ((C_M_format z1).1) ((C_M_format z1).2) rg k3).2.1))) (cwM_endless hts w_465 ⟨by decide, by decide⟩) hw hS rfl hl.1 rfl (Nat.le_of_ble_eq_true rfl) dM_negate_71 ⟨Nat.zero_le _, Nat.zero_le _⟩ (fun H locs hw hS => ?_)
            refine W.eq (g2 := F0 m 74 ls [.long (C_M_endless ((C_M_format z1).1) ((C_M_format z1).2) (1 - ((C_M_take ((C_M_format z1).1) ((C_M_format z1).2) rg k3).2.1)))]) rfl ?_
            refine lv_goto (tgt := 139) (pc := 74) hx hb dM_negate_74 (by decide) ?_
            refine lv_lstore (lv' := [(4, .long (C_M_endless ((C_M_format z1).1) ((C_M_format z1).2) (1 - ((C_M_take ((C_M_format z1).1) ((C_M_format z1).2) rg k3).2.1)))), (0, .ref m0), (1, .int (bI z1)), (2, .int k2), (3, .int k3)]) (pc := 139) hx hb dM_negate_139 hl (by decide) rfl (fun ls hl => ?_)
            refine lv_aload_n (pc := 141) hx hb dM_negate_141 rfl (lv_at hl 1 rfl) ?_
            refine mo_g_registers (pc := 142) hx hb hts hown hw w_358 dM_negate_142 ?_
            refine lv_iload_n (pc := 145) hx hb dM_negate_145 rfl (lv_at hl 3 rfl) ?_
            refine lv_lload (pc := 146) hx hb dM_negate_146 (lv_at hl 0 rfl) ?_
            refine mo_st (pc := 148) hx hb hw hS (min_in h1) dM_negate_148 (fun H locs hw hS => ?_)
            refine lv_lload (pc := 149) hx hb dM_negate_149 (lv_at hl 0 rfl) ?_
            have he9 := (show (C_M_endless ((C_M_format z1).1) ((C_M_format z1).2) (1 - ((C_M_take ((C_M_format z1).1) ((C_M_format z1).2) rg k3).2.1)), bI false, (C_M_take ((C_M_format z1).1) ((C_M_format z1).2) rg k3).1, (C_M_take ((C_M_format z1).1) ((C_M_format z1).2) rg k3).2.1, (C_M_take ((C_M_format z1).1) ((C_M_format z1).2) rg k3).2.2.1, (C_M_take ((C_M_format z1).1) ((C_M_format z1).2) rg k3).2.2.2, (C_M_format z1).1, (C_M_format z1).2, vp_updL rg k2.toNatClampNeg (C_M_endless ((C_M_format z1).1) ((C_M_format z1).2) (1 - ((C_M_take ((C_M_format z1).1) ((C_M_format z1).2) rg k3).2.1)))) = C_M_negate kx sx px fx pr bi rg z1 k2 k3 from by rw [C_M_negate, if_neg h1, if_neg h3, if_neg h5, if_pos h6])
            exact hret _ _ _ _ _ _ (congrArg Prod.fst he9) (by rw [← he9]) hw hS dM_negate_151
        · skip
          refine lv_aload_n (pc := 49) hx hb dM_negate_49 rfl (lv_at hl 0 rfl) ?_
          refine mo_V (pc := 50) (rest := []) ⟨hx, hb, hml, hown, hts⟩ (c_M_none l D cI cL m0 ra rb rc md fl (bI false) ((C_M_take ((C_M_format z1).1) ((C_M_format z1).2) rg k3).1) ky ((C_M_take ((C_M_format z1).1) ((C_M_format z1).2) rg k3).2.1) sy ((C_M_take ((C_M_format z1).1) ((C_M_format z1).2) rg k3).2.2.1) py ((C_M_take ((C_M_format z1).1) ((C_M_format z1).2) rg k3).2.2.2) fy ((C_M_format z1).1) ((C_M_format z1).2) row oth rg ) (cwM_none hts w_449 ⟨by decide, by decide⟩) hw hS rfl hl.1 rfl (Nat.le_of_ble_eq_true rfl) dM_negate_50 ⟨Nat.zero_le _, Nat.zero_le _⟩ (fun H locs hw hS => ?_)
          refine W.eq (g2 := F0 m 53 ls [.long (C_M_none ((C_M_format z1).1) ((C_M_format z1).2))]) rfl ?_
          refine lv_goto (tgt := 139) (pc := 53) hx hb dM_negate_53 (by decide) ?_
          refine lv_lstore (lv' := [(4, .long (C_M_none ((C_M_format z1).1) ((C_M_format z1).2))), (0, .ref m0), (1, .int (bI z1)), (2, .int k2), (3, .int k3)]) (pc := 139) hx hb dM_negate_139 hl (by decide) rfl (fun ls hl => ?_)
          refine lv_aload_n (pc := 141) hx hb dM_negate_141 rfl (lv_at hl 1 rfl) ?_
          refine mo_g_registers (pc := 142) hx hb hts hown hw w_358 dM_negate_142 ?_
          refine lv_iload_n (pc := 145) hx hb dM_negate_145 rfl (lv_at hl 3 rfl) ?_
          refine lv_lload (pc := 146) hx hb dM_negate_146 (lv_at hl 0 rfl) ?_
          refine mo_st (pc := 148) hx hb hw hS (min_in h1) dM_negate_148 (fun H locs hw hS => ?_)
          refine lv_lload (pc := 149) hx hb dM_negate_149 (lv_at hl 0 rfl) ?_
          have he9 := (show (C_M_none ((C_M_format z1).1) ((C_M_format z1).2), bI false, (C_M_take ((C_M_format z1).1) ((C_M_format z1).2) rg k3).1, (C_M_take ((C_M_format z1).1) ((C_M_format z1).2) rg k3).2.1, (C_M_take ((C_M_format z1).1) ((C_M_format z1).2) rg k3).2.2.1, (C_M_take ((C_M_format z1).1) ((C_M_format z1).2) rg k3).2.2.2, (C_M_format z1).1, (C_M_format z1).2, vp_updL rg k2.toNatClampNeg (C_M_none ((C_M_format z1).1) ((C_M_format z1).2))) = C_M_negate kx sx px fx pr bi rg z1 k2 k3 from by rw [C_M_negate, if_neg h1, if_neg h3, if_pos h5])
          exact hret _ _ _ _ _ _ (congrArg Prod.fst he9) (by rw [← he9]) hw hS dM_negate_151
      · exact absurd h4 (by decide)
    · skip
      have h3 : (C_M_in k3 15) = false := (bI_0 _).1 h3
      refine lv_iconst (v := 1) (pc := 19) hx hb dM_negate_19 (by decide) ?_
      refine lv_goto (tgt := 24) (pc := 20) hx hb dM_negate_20 (by decide) ?_
      refine mo_V (pc := 24) (rest := []) ⟨hx, hb, hml, hown, hts⟩ (c_M_fails l D cI cL m0 ra rb rc md fl er kx ky sx sy px py fx fy pr bi row oth rg true) (cwM_fails hts w_417 ⟨by decide, by decide⟩) hw hS rfl hl.1 rfl (Nat.le_of_ble_eq_true rfl) dM_negate_24 ⟨Nat.zero_le _, Nat.zero_le _⟩ (fun H locs hw hS => ?_)
      refine W.eq (g2 := F0 m 27 ls [.int 1]) rfl ?_
      refine lv_if_eq (tgt := 32) (pc := 27) hx hb dM_negate_27 (by decide) (fun h8 => ?_) (fun h8 => ?_)
      · exact absurd h8 (by decide)
      · skip
        refine lv_lconst (v := 0) (pc := 30) hx hb dM_negate_30 (by decide) ?_
        have he9 := (show (0, bI true, kx, sx, px, fx, pr, bi, rg) = C_M_negate kx sx px fx pr bi rg z1 k2 k3 from by rw [C_M_negate, if_neg h1, if_pos h3])
        exact hret _ _ _ _ _ _ (congrArg Prod.fst he9) (by rw [← he9]) hw hS dM_negate_31
def C_M_of (md : Int32) (fl : Int32) (pr : Int32) (bi : Int32) (row : Nat → Int32) (rg : Nat → Int64) (z1 : Bool) (k2 : Int32) (x3 : Int64) : Int64 × Int32 × Int32 × Int32 × Int32 × (Nat → Int32) × (Nat → Int64) :=
  if (C_M_in k2 15) = false then
    (0, fl, bI true, pr, bi, row, rg)
  else
    if x3 = 0 then
      (0, fl, bI false, (C_M_format z1).1, (C_M_format z1).2, row, vp_updL rg k2.toNatClampNeg 0)
    else
      if 0 ≤ x3 then
        ((C_M_rounded md fl ((C_M_format z1).1) ((C_M_format z1).2) 0 0 false (uL x3 * 2 ^ (0 : Int32).toInt.toNat)).1, (C_M_rounded md fl ((C_M_format z1).1) ((C_M_format z1).2) 0 0 false (uL x3 * 2 ^ (0 : Int32).toInt.toNat)).2, bI false, (C_M_format z1).1, (C_M_format z1).2, (bR (uL x3 * 2 ^ (0 : Int32).toInt.toNat)), vp_updL rg k2.toNatClampNeg ((C_M_rounded md fl ((C_M_format z1).1) ((C_M_format z1).2) 0 0 false (uL x3 * 2 ^ (0 : Int32).toInt.toNat)).1))
      else
        ((C_M_rounded md fl ((C_M_format z1).1) ((C_M_format z1).2) 1 0 false (uL (-x3) * 2 ^ (0 : Int32).toInt.toNat)).1, (C_M_rounded md fl ((C_M_format z1).1) ((C_M_format z1).2) 1 0 false (uL (-x3) * 2 ^ (0 : Int32).toInt.toNat)).2, bI false, (C_M_format z1).1, (C_M_format z1).2, (bR (uL (-x3) * 2 ^ (0 : Int32).toInt.toNat)), vp_updL rg k2.toNatClampNeg ((C_M_rounded md fl ((C_M_format z1).1) ((C_M_format z1).2) 1 0 false (uL (-x3) * 2 ^ (0 : Int32).toInt.toNat)).1))
abbrev rmM_of : Room := { frames := 3, cells := 0, slots := 0, locals := 81 }
theorem cwM_of {R : Room} {s : State} {args : Array Value} {w0 : Cond} {own : String} {idx : Nat} (hts : ∀ w ∈ (w0 :: bigW), w.before args s = true) (hl : Cond.methodLink own idx yM_of ∈ bigW) (hR : rmM_of.frames + 1 ≤ R.frames ∧ 8 + (7 + 11) + rmM_of.locals ≤ R.locals) : CallW R s args own "FloatUnitModel" idx yM_of cM_of 7 (some .long) (wsM yM_of cM_of 7 (some .long)) rmM_of 0 0 3 :=
  cwV 3 hts (big_V hl w_506 w_507 w_2 w_508) rfl rfl rfl ⟨rfl, by decide, by decide, by decide +kernel⟩ hR
set_option maxRecDepth 100000 in
set_option maxHeartbeats 8000000 in
theorem c_M_of (l : Launch) (D : va_G) (cI cL : ClassId) (m0 ra rb rc : Nat) (md fl er kx ky sx sy px py : Int32) (fx fy : Int64) (pr bi : Int32) (row oth : Nat → Int32) (rg : Nat → Int64) (z1 : Bool) (k2 : Int32) (x3 : Int64) : MoM l D cI cL m0 ra rb rc yM_of (wsM yM_of cM_of 7 (some .long)) rmM_of [.int (bI z1), .int k2, .long x3] ((md, fl, er, kx, ky, sx, sy, px, py), (fx, fy), (pr, bi), row, oth, rg) (some (.long ((C_M_of md fl pr bi row rg z1 k2 x3).1))) ((md, ((C_M_of md fl pr bi row rg z1 k2 x3).2.1), ((C_M_of md fl pr bi row rg z1 k2 x3).2.2.1), kx, ky, sx, sy, px, py), (fx, fy), (((C_M_of md fl pr bi row rg z1 k2 x3).2.2.2.1), ((C_M_of md fl pr bi row rg z1 k2 x3).2.2.2.2.1)), ((C_M_of md fl pr bi row rg z1 k2 x3).2.2.2.2.2.1), oth, ((C_M_of md fl pr bi row rg z1 k2 x3).2.2.2.2.2.2)) := by
  refine mo_ofL (cc := cM_of) (maxL := 7) (by decide) rfl (Nat.le_of_ble_eq_true rfl) ?_
  intro p e s m args below meth c Q hx hb hml hown hts H locs hS hw hret ls hl
  have hl : lv_has ls 7 [(0, .ref m0), (1, .int (bI z1)), (2, .int k2), (3, .long x3)] := hl
  refine lv_aload_n (pc := 0) hx hb dM_of_0 rfl (lv_at hl 0 rfl) ?_
  refine lv_iload_n (pc := 1) hx hb dM_of_1 rfl (lv_at hl 2 rfl) ?_
  refine lv_bipush (v := 15) (pc := 2) hx hb dM_of_2 (by decide) ?_
  refine ps_S (pc := 4) (rest := [.ref m0]) ⟨hx, hb, hml, hown, hts⟩ (c_M_in l k2 15) (cwM_in hts w_414 ⟨by decide, by decide⟩) rfl hl.1 rfl (Nat.le_of_ble_eq_true rfl) dM_of_4 ⟨Nat.zero_le _, Nat.zero_le _⟩ ?_
  refine lv_if_ne (tgt := 14) (pc := 7) hx hb dM_of_7 (by decide) (fun h1 => ?_) (fun h1 => ?_)
  · skip
    have h1 : ¬ ((C_M_in k2 15) = false) := fun q => h1 ((bI_0 _).2 q)
    refine lv_iconst (v := 0) (pc := 14) hx hb dM_of_14 (by decide) ?_
    refine mo_V (pc := 15) (rest := []) ⟨hx, hb, hml, hown, hts⟩ (c_M_fails l D cI cL m0 ra rb rc md fl er kx ky sx sy px py fx fy pr bi row oth rg false) (cwM_fails hts w_417 ⟨by decide, by decide⟩) hw hS rfl hl.1 rfl (Nat.le_of_ble_eq_true rfl) dM_of_15 ⟨Nat.zero_le _, Nat.zero_le _⟩ (fun H locs hw hS => ?_)
    refine W.eq (g2 := F0 m 18 ls [.int 0]) rfl ?_
    refine lv_if_eq (tgt := 23) (pc := 18) hx hb dM_of_18 (by decide) (fun h2 => ?_) (fun h2 => ?_)
    · skip
      refine lv_aload_n (pc := 23) hx hb dM_of_23 rfl (lv_at hl 0 rfl) ?_
      refine lv_iload_n (pc := 24) hx hb dM_of_24 rfl (lv_at hl 1 rfl) ?_
      refine mo_V (pc := 25) (rest := []) ⟨hx, hb, hml, hown, hts⟩ (c_M_format l D cI cL m0 ra rb rc md fl (bI false) kx ky sx sy px py fx fy pr bi row oth rg z1) (cwM_format hts w_437 ⟨by decide, by decide⟩) hw hS rfl hl.1 rfl (Nat.le_of_ble_eq_true rfl) dM_of_25 ⟨Nat.zero_le _, Nat.zero_le _⟩ (fun H locs hw hS => ?_)
      refine W.eq (g2 := F0 m 28 ls []) rfl ?_
      refine lv_lconst (v := 0) (pc := 28) hx hb dM_of_28 (by decide) ?_
      refine lv_lstore (lv' := [(5, .long 0), (0, .ref m0), (1, .int (bI z1)), (2, .int k2), (3, .long x3)]) (pc := 29) hx hb dM_of_29 hl (by decide) rfl (fun ls hl => ?_)
      refine lv_lload_n (pc := 31) hx hb dM_of_31 rfl (lv_at hl 4 rfl) ?_
      refine lv_lconst (v := 0) (pc := 32) hx hb dM_of_32 (by decide) ?_
      refine W.lcmp (pc := 33) hx hb dM_of_33 ?_
      refine lv_if_eq (tgt := 77) (pc := 34) hx hb dM_of_34 (by decide) (fun h3 => ?_) (fun h3 => ?_)
      · skip
        have h3 : x3 = 0 := (lg_cmp_eq _ _).1 h3
        refine lv_aload_n (pc := 77) hx hb dM_of_77 rfl (lv_at hl 1 rfl) ?_
        refine mo_g_registers (pc := 78) hx hb hts hown hw w_358 dM_of_78 ?_
        refine lv_iload_n (pc := 81) hx hb dM_of_81 rfl (lv_at hl 3 rfl) ?_
        refine lv_lload (pc := 82) hx hb dM_of_82 (lv_at hl 0 rfl) ?_
        refine mo_st (pc := 84) hx hb hw hS (min_in h1) dM_of_84 (fun H locs hw hS => ?_)
        refine lv_lload (pc := 85) hx hb dM_of_85 (lv_at hl 0 rfl) ?_
        have he9 := (show (0, fl, bI false, (C_M_format z1).1, (C_M_format z1).2, row, vp_updL rg k2.toNatClampNeg 0) = C_M_of md fl pr bi row rg z1 k2 x3 from by rw [C_M_of, if_neg h1, if_pos h3])
        exact hret _ _ _ _ _ _ (congrArg Prod.fst he9) (by rw [← he9]) hw hS dM_of_87
      · skip
        have h3 : ¬ (x3 = 0) := fun q => h3 ((lg_cmp_eq _ _).2 q)
        refine lv_aload_n (pc := 37) hx hb dM_of_37 rfl (lv_at hl 1 rfl) ?_
        refine mo_V (pc := 38) (rest := []) ⟨hx, hb, hml, hown, hts⟩ (c_M_clear l D cI cL m0 ra rb rc md fl (bI false) kx ky sx sy px py fx fy ((C_M_format z1).1) ((C_M_format z1).2) row oth rg ) (cwM_clear hts w_469 ⟨by decide, by decide⟩) hw hS rfl hl.1 rfl (Nat.le_of_ble_eq_true rfl) dM_of_38 ⟨Nat.zero_le _, Nat.zero_le _⟩ (fun H locs hw hS => ?_)
        refine W.eq (g2 := F0 m 41 ls []) rfl ?_
        refine lv_aload_n (pc := 41) hx hb dM_of_41 rfl (lv_at hl 1 rfl) ?_
        refine lv_lload_n (pc := 42) hx hb dM_of_42 rfl (lv_at hl 4 rfl) ?_
        refine lv_lconst (v := 0) (pc := 43) hx hb dM_of_43 (by decide) ?_
        refine W.lcmp (pc := 44) hx hb dM_of_44 ?_
        refine lv_if_ge (tgt := 53) (pc := 45) hx hb dM_of_45 (by decide) (fun h4 => ?_) (fun h4 => ?_)
        · skip
          have h4 : 0 ≤ x3 := (lg_cmp_ge _ _).1 h4
          refine lv_lload_n (pc := 53) hx hb dM_of_53 rfl (lv_at hl 4 rfl) ?_
          refine lv_iconst (v := 0) (pc := 54) hx hb dM_of_54 (by decide) ?_
          refine mo_V (pc := 55) (rest := []) ⟨hx, hb, hml, hown, hts⟩ (c_M_lay l D cI cL m0 ra rb rc md fl (bI false) kx ky sx sy px py fx fy ((C_M_format z1).1) ((C_M_format z1).2) (bR 0) oth rg x3 0 (by decide) (by decide)) (cwM_lay hts w_473 ⟨by decide, by decide⟩) hw hS rfl hl.1 rfl (Nat.le_of_ble_eq_true rfl) dM_of_55 ⟨Nat.zero_le _, Nat.zero_le _⟩ (fun H locs hw hS => ?_)
          refine W.eq (g2 := F0 m 58 ls []) rfl ?_
          refine lv_aload_n (pc := 58) hx hb dM_of_58 rfl (lv_at hl 1 rfl) ?_
          refine lv_lload_n (pc := 59) hx hb dM_of_59 rfl (lv_at hl 4 rfl) ?_
          refine lv_lconst (v := 0) (pc := 60) hx hb dM_of_60 (by decide) ?_
          refine W.lcmp (pc := 61) hx hb dM_of_61 ?_
          refine lv_if_ge (tgt := 69) (pc := 62) hx hb dM_of_62 (by decide) (fun h5 => ?_) (fun h5 => ?_)
          · skip
            refine lv_iconst (v := 0) (pc := 69) hx hb dM_of_69 (by decide) ?_
            refine lv_iconst (v := 0) (pc := 70) hx hb dM_of_70 (by decide) ?_
            refine lv_iconst (v := 0) (pc := 71) hx hb dM_of_71 (by decide) ?_
            refine mo_V (pc := 72) (rest := []) ⟨hx, hb, hml, hown, hts⟩ (c_M_rounded l D cI cL m0 ra rb rc md fl (bI false) kx ky sx sy px py fx fy ((C_M_format z1).1) ((C_M_format z1).2) (bR (uL x3 * 2 ^ (0 : Int32).toInt.toNat)) oth rg 0 0 false (uL x3 * 2 ^ (0 : Int32).toInt.toNat) (lay_ne h3) (lay_lt _) (fmt_pr _) (fmt_bi _) ⟨by decide, by decide⟩) (cwM_rounded hts w_477 ⟨by decide, by decide⟩) hw hS rfl hl.1 rfl (Nat.le_of_ble_eq_true rfl) dM_of_72 ⟨Nat.zero_le _, Nat.zero_le _⟩ (fun H locs hw hS => ?_)
            refine W.eq (g2 := F0 m 75 ls [.long ((C_M_rounded md fl ((C_M_format z1).1) ((C_M_format z1).2) 0 0 false (uL x3 * 2 ^ (0 : Int32).toInt.toNat)).1)]) rfl ?_
            refine lv_lstore (lv' := [(5, .long ((C_M_rounded md fl ((C_M_format z1).1) ((C_M_format z1).2) 0 0 false (uL x3 * 2 ^ (0 : Int32).toInt.toNat)).1)), (0, .ref m0), (1, .int (bI z1)), (2, .int k2), (3, .long x3)]) (pc := 75) hx hb dM_of_75 hl (by decide) rfl (fun ls hl => ?_)
            refine lv_aload_n (pc := 77) hx hb dM_of_77 rfl (lv_at hl 1 rfl) ?_
            refine mo_g_registers (pc := 78) hx hb hts hown hw w_358 dM_of_78 ?_
            refine lv_iload_n (pc := 81) hx hb dM_of_81 rfl (lv_at hl 3 rfl) ?_
            refine lv_lload (pc := 82) hx hb dM_of_82 (lv_at hl 0 rfl) ?_
            refine mo_st (pc := 84) hx hb hw hS (min_in h1) dM_of_84 (fun H locs hw hS => ?_)
            refine lv_lload (pc := 85) hx hb dM_of_85 (lv_at hl 0 rfl) ?_
            have he9 := (show ((C_M_rounded md fl ((C_M_format z1).1) ((C_M_format z1).2) 0 0 false (uL x3 * 2 ^ (0 : Int32).toInt.toNat)).1, (C_M_rounded md fl ((C_M_format z1).1) ((C_M_format z1).2) 0 0 false (uL x3 * 2 ^ (0 : Int32).toInt.toNat)).2, bI false, (C_M_format z1).1, (C_M_format z1).2, (bR (uL x3 * 2 ^ (0 : Int32).toInt.toNat)), vp_updL rg k2.toNatClampNeg ((C_M_rounded md fl ((C_M_format z1).1) ((C_M_format z1).2) 0 0 false (uL x3 * 2 ^ (0 : Int32).toInt.toNat)).1)) = C_M_of md fl pr bi row rg z1 k2 x3 from by rw [C_M_of, if_neg h1, if_neg h3, if_pos h4])
            exact hret _ _ _ _ _ _ (congrArg Prod.fst he9) (by rw [← he9]) hw hS dM_of_87
          · exact absurd h4 (fun q => h5 ((lg_cmp_ge _ _).2 q))
        · skip
          have h4 : ¬ (0 ≤ x3) := fun q => h4 ((lg_cmp_ge _ _).2 q)
          refine lv_lload_n (pc := 48) hx hb dM_of_48 rfl (lv_at hl 4 rfl) ?_
          refine lv_lneg (pc := 49) hx hb dM_of_49 ?_
          refine lv_goto (tgt := 54) (pc := 50) hx hb dM_of_50 (by decide) ?_
          refine lv_iconst (v := 0) (pc := 54) hx hb dM_of_54 (by decide) ?_
          refine mo_V (pc := 55) (rest := []) ⟨hx, hb, hml, hown, hts⟩ (c_M_lay l D cI cL m0 ra rb rc md fl (bI false) kx ky sx sy px py fx fy ((C_M_format z1).1) ((C_M_format z1).2) (bR 0) oth rg (-x3) 0 (by decide) (by decide)) (cwM_lay hts w_473 ⟨by decide, by decide⟩) hw hS rfl hl.1 rfl (Nat.le_of_ble_eq_true rfl) dM_of_55 ⟨Nat.zero_le _, Nat.zero_le _⟩ (fun H locs hw hS => ?_)
          refine W.eq (g2 := F0 m 58 ls []) rfl ?_
          refine lv_aload_n (pc := 58) hx hb dM_of_58 rfl (lv_at hl 1 rfl) ?_
          refine lv_lload_n (pc := 59) hx hb dM_of_59 rfl (lv_at hl 4 rfl) ?_
          refine lv_lconst (v := 0) (pc := 60) hx hb dM_of_60 (by decide) ?_
          refine W.lcmp (pc := 61) hx hb dM_of_61 ?_
          refine lv_if_ge (tgt := 69) (pc := 62) hx hb dM_of_62 (by decide) (fun h6 => ?_) (fun h6 => ?_)
          · exact absurd ((lg_cmp_ge _ _).1 h6) h4
          · skip
            refine lv_iconst (v := 1) (pc := 65) hx hb dM_of_65 (by decide) ?_
            refine lv_goto (tgt := 70) (pc := 66) hx hb dM_of_66 (by decide) ?_
            refine lv_iconst (v := 0) (pc := 70) hx hb dM_of_70 (by decide) ?_
            refine lv_iconst (v := 0) (pc := 71) hx hb dM_of_71 (by decide) ?_
            refine mo_V (pc := 72) (rest := []) ⟨hx, hb, hml, hown, hts⟩ (c_M_rounded l D cI cL m0 ra rb rc md fl (bI false) kx ky sx sy px py fx fy ((C_M_format z1).1) ((C_M_format z1).2) (bR (uL (-x3) * 2 ^ (0 : Int32).toInt.toNat)) oth rg 1 0 false (uL (-x3) * 2 ^ (0 : Int32).toInt.toNat) (lay_ne (neg_ne h3)) (lay_lt _) (fmt_pr _) (fmt_bi _) ⟨by decide, by decide⟩) (cwM_rounded hts w_477 ⟨by decide, by decide⟩) hw hS rfl hl.1 rfl (Nat.le_of_ble_eq_true rfl) dM_of_72 ⟨Nat.zero_le _, Nat.zero_le _⟩ (fun H locs hw hS => ?_)
            refine W.eq (g2 := F0 m 75 ls [.long ((C_M_rounded md fl ((C_M_format z1).1) ((C_M_format z1).2) 1 0 false (uL (-x3) * 2 ^ (0 : Int32).toInt.toNat)).1)]) rfl ?_
            refine lv_lstore (lv' := [(5, .long ((C_M_rounded md fl ((C_M_format z1).1) ((C_M_format z1).2) 1 0 false (uL (-x3) * 2 ^ (0 : Int32).toInt.toNat)).1)), (0, .ref m0), (1, .int (bI z1)), (2, .int k2), (3, .long x3)]) (pc := 75) hx hb dM_of_75 hl (by decide) rfl (fun ls hl => ?_)
            refine lv_aload_n (pc := 77) hx hb dM_of_77 rfl (lv_at hl 1 rfl) ?_
            refine mo_g_registers (pc := 78) hx hb hts hown hw w_358 dM_of_78 ?_
            refine lv_iload_n (pc := 81) hx hb dM_of_81 rfl (lv_at hl 3 rfl) ?_
            refine lv_lload (pc := 82) hx hb dM_of_82 (lv_at hl 0 rfl) ?_
            refine mo_st (pc := 84) hx hb hw hS (min_in h1) dM_of_84 (fun H locs hw hS => ?_)
            refine lv_lload (pc := 85) hx hb dM_of_85 (lv_at hl 0 rfl) ?_
            have he9 := (show ((C_M_rounded md fl ((C_M_format z1).1) ((C_M_format z1).2) 1 0 false (uL (-x3) * 2 ^ (0 : Int32).toInt.toNat)).1, (C_M_rounded md fl ((C_M_format z1).1) ((C_M_format z1).2) 1 0 false (uL (-x3) * 2 ^ (0 : Int32).toInt.toNat)).2, bI false, (C_M_format z1).1, (C_M_format z1).2, (bR (uL (-x3) * 2 ^ (0 : Int32).toInt.toNat)), vp_updL rg k2.toNatClampNeg ((C_M_rounded md fl ((C_M_format z1).1) ((C_M_format z1).2) 1 0 false (uL (-x3) * 2 ^ (0 : Int32).toInt.toNat)).1)) = C_M_of md fl pr bi row rg z1 k2 x3 from by rw [C_M_of, if_neg h1, if_neg h3, if_neg h4])
            exact hret _ _ _ _ _ _ (congrArg Prod.fst he9) (by rw [← he9]) hw hS dM_of_87
    · exact absurd h2 (by decide)
  · skip
    have h1 : (C_M_in k2 15) = false := (bI_0 _).1 h1
    refine lv_iconst (v := 1) (pc := 10) hx hb dM_of_10 (by decide) ?_
    refine lv_goto (tgt := 15) (pc := 11) hx hb dM_of_11 (by decide) ?_
    refine mo_V (pc := 15) (rest := []) ⟨hx, hb, hml, hown, hts⟩ (c_M_fails l D cI cL m0 ra rb rc md fl er kx ky sx sy px py fx fy pr bi row oth rg true) (cwM_fails hts w_417 ⟨by decide, by decide⟩) hw hS rfl hl.1 rfl (Nat.le_of_ble_eq_true rfl) dM_of_15 ⟨Nat.zero_le _, Nat.zero_le _⟩ (fun H locs hw hS => ?_)
    refine W.eq (g2 := F0 m 18 ls [.int 1]) rfl ?_
    refine lv_if_eq (tgt := 23) (pc := 18) hx hb dM_of_18 (by decide) (fun h7 => ?_) (fun h7 => ?_)
    · exact absurd h7 (by decide)
    · skip
      refine lv_lconst (v := 0) (pc := 21) hx hb dM_of_21 (by decide) ?_
      have he9 := (show (0, fl, bI true, pr, bi, row, rg) = C_M_of md fl pr bi row rg z1 k2 x3 from by rw [C_M_of, if_pos h1])
      exact hret _ _ _ _ _ _ (congrArg Prod.fst he9) (by rw [← he9]) hw hS dM_of_22
