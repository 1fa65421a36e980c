/-! The reference: rest (by program, the loop by its fuel). -/
theorem lay_ne {x : Int64} (h : ¬ x = 0) : uL x * 2 ^ (0 : Int32).toInt.toNat ≠ 0 := by
  intro q
  refine h ?_
  have e : (0 : Int32).toInt.toNat = 0 := rfl
  rw [e, Nat.pow_zero, Nat.mul_one] at q
  rw [lN_uL x, q]
  rfl
theorem lay_lt (x : Int64) : uL x * 2 ^ (0 : Int32).toInt.toNat < 2 ^ 2200 := by
  have e : (0 : Int32).toInt.toNat = 0 := rfl
  rw [e, Nat.pow_zero, Nat.mul_one]
  exact Nat.lt_of_lt_of_le (uL_lt x) (z_pow_le (by decide))
theorem dec1 {k : Int32} {b : Int} (h : -2147483648 < k.toInt) (h1 : k.toInt ≤ b) : (k + (-1)).toInt ≤ b - 1 := by
  obtain ⟨z, hz, rfl⟩ := iI_of k
  rw [iI_toInt hz] at h h1
  have e : iI z + (-1) = iI (z - 1) := by
    rw [show (-1 : Int32) = iI (-1) from rfl, iI_add, Int.sub_eq_add_neg]
  obtain ⟨a1, a2⟩ := hz
  rw [e, iI_toInt ⟨by omega, by omega⟩]
  omega
theorem le_of_toInt {a b : Int32} (h : a.toInt ≤ b.toInt) : a ≤ b := Int32.le_iff_toInt_le.2 h
theorem lt_of_toInt {a b : Int32} (h : a.toInt < b.toInt) : a < b := Int32.lt_iff_toInt_lt.2 h
theorem not_le_toInt {a b : Int32} (h : ¬ a ≤ b) : b.toInt < a.toInt := by
  rw [Int32.le_iff_toInt_le] at h
  omega
theorem not_lt_toInt {a b : Int32} (h : ¬ a < b) : b.toInt ≤ a.toInt := by
  rw [Int32.lt_iff_toInt_lt] at h
  omega
theorem rest_ne {f : Int64} {px py : Int32} (hf : uL f < 2 ^ 53) (h0 : ¬ f = 0) (hx : -3000 ≤ px.toInt ∧ px.toInt ≤ 3000) (hy : -3000 ≤ py.toInt ∧ py.toInt ≤ 3000) (h1 : px < py) (h2 : ¬ 54 ≤ (py - px)) (h3 : ¬ (jShl 1 (62 - (py - px))) ≤ f) : ¬ jShl f (py - px) = 0 := by
  obtain ⟨a, ha, rfl⟩ := iI_of px
  obtain ⟨b, hb, rfl⟩ := iI_of py
  rw [iI_toInt ha] at hx
  rw [iI_toInt hb] at hy
  rw [iI_lt ha hb] at h1
  rw [iI_sub] at h2 h3 ⊢
  have h54 : (54 : Int32) = iI 54 := rfl
  have h62 : (62 : Int32) = iI 62 := rfl
  rw [h54, iI_le ⟨by omega, by omega⟩ ⟨by omega, by omega⟩] at h2
  obtain ⟨k, hk⟩ : ∃ k : Nat, b - a = (k : Int) := ⟨(b - a).toNat, by omega⟩
  rw [h62, hk, iI_sub, show (62 : Int) - (k : Int) = ((62 - k : Nat) : Int) by omega, ← iI_nI] at h3
  rw [hk, ← iI_nI]
  have hfe := lN_uL f
  have e1 : jShl 1 (nI (62 - k)) = lN (1 * 2 ^ (62 - k)) := wb_shl 1 (by omega)
  have e2 : jShl f (nI k) = lN (uL f * 2 ^ k) := by
    conv => lhs; rw [hfe]
    exact wb_shl _ (by omega)
  rw [e1, Nat.one_mul] at h3
  rw [e2]
  have p63 : (2 : Nat) ^ 53 < 2 ^ 63 := by decide
  have hp : 2 ^ (62 - k) < 2 ^ 63 := Nat.lt_of_le_of_lt (z_pow_le (show 62 - k ≤ 62 by omega)) (by decide)
  have h4 : uL f < 2 ^ (62 - k) := by
    rcases Nat.lt_or_ge (uL f) (2 ^ (62 - k)) with g | g
    · exact g
    · refine absurd ?_ h3
      rw [hfe]
      exact (pk_lLE hp (by omega)).2 g
  have h5 : uL f * 2 ^ k < 2 ^ 62 := by
    have := Nat.mul_lt_mul_of_pos_right h4 (z_p k)
    rw [← Nat.pow_add, show 62 - k + k = 62 by omega] at this
    exact this
  have p62 : (2 : Nat) ^ 62 < 2 ^ 63 := by decide
  intro q
  have q2 : uL f * 2 ^ k = 0 := (pk_lEQ (b := 0) (by omega) (by decide)).1 q
  refine h0 ?_
  rcases Nat.mul_eq_zero.1 q2 with g | g
  · rw [hfe, g]
    rfl
  · exact absurd g (Nat.ne_of_gt (z_p k))
def C_M_rest_183 (md : Int32) (fl9 : Int32) (sx : Int32) (pr : Int32) (bi : Int32) (row9 : Nat → Int32) (u1 : Int64) (u3 : Int32) : Int64 × Int32 × (Nat → Int32) :=
  if u1 = 0 then
    (C_M_made pr sx 0 0, fl9, row9)
  else
    ((C_M_rounded md fl9 pr bi sx u3 false (uL u1 * 2 ^ (0 : Int32).toInt.toNat)).1, (C_M_rounded md fl9 pr bi sx u3 false (uL u1 * 2 ^ (0 : Int32).toInt.toNat)).2, (bR (uL u1 * 2 ^ (0 : Int32).toInt.toNat)))
def C_M_rest_121 (md : Int32) (fl9 : Int32) (sx : Int32) (py : Int32) (pr : Int32) (bi : Int32) (row9 : Nat → Int32) (u1 : Int64) : Int64 × Int32 × (Nat → Int32) :=
  C_M_rest_183 md fl9 sx pr bi row9 u1 py
def C_M_rest_95 (md : Int32) (fl9 : Int32) (sx : Int32) (py : Int32) (fy : Int64) (pr : Int32) (bi : Int32) (row9 : Nat → Int32) : Nat → Int64 → Int32 → Int64 × Int32 × (Nat → Int32)
  | 0, u1, u4 => C_M_rest_121 md fl9 sx py pr bi row9 u1
  | n + 1, u1, u4 =>
    if u4 ≤ py then
      C_M_rest_121 md fl9 sx py pr bi row9 u1
    else
      C_M_rest_95 md fl9 sx py fy pr bi row9 n ((2 * u1) - (2 * u1) / fy * fy) (u4 + (-1))
def C_M_rest (md : Int32) (fl : Int32) (kx : Int32) (ky : Int32) (sx : Int32) (px : Int32) (py : Int32) (fx : Int64) (fy : Int64) (pr : Int32) (bi : Int32) (row : Nat → Int32) : Int64 × Int32 × (Nat → Int32) :=
  if kx = 1 then
    ((C_M_invalid fl pr bi).1, (C_M_invalid fl pr bi).2, row)
  else
    if ky = 2 then
      if fy = 0 then
        ((C_M_invalid fl pr bi).1, (C_M_invalid fl pr bi).2, row)
      else
        if fx = 0 then
          (C_M_made pr sx 0 0, fl, row)
        else
          if px < py then
            if 54 ≤ (py - px) then
              C_M_rest_183 md fl sx pr bi row fx px
            else
              if (jShl 1 (62 - (py - px))) ≤ fy then
                C_M_rest_183 md fl sx pr bi row fx px
              else
                C_M_rest_183 md fl sx pr bi row (fx - fx / (jShl fy (py - px)) * (jShl fy (py - px))) px
          else
            C_M_rest_95 md fl sx py fy pr bi row ((px.toInt - py.toInt).toNat) (fx - fx / fy * fy) px
    else
      if fx = 0 then
        (C_M_made pr sx 0 0, fl, row)
      else
        C_M_rest_183 md fl sx pr bi row fx px
abbrev rmM_rest : Room := { frames := 3, cells := 0, slots := 0, locals := 81 }
theorem cwM_rest {R : Room} {s : State} {args : Array Value} {w0 : Cond} {own : String} {idx : Nat} (hts : ∀ w ∈ (w0 :: bigW), w.before args s = true) (hl : Cond.methodLink own idx yM_rest ∈ bigW) (hR : rmM_rest.frames + 1 ≤ R.frames ∧ 8 + (5 + 11) + rmM_rest.locals ≤ R.locals) : CallW R s args own "FloatUnitModel" idx yM_rest cM_rest 5 (some .long) (wsM yM_rest cM_rest 5 (some .long)) rmM_rest 0 0 0 :=
  cwV 0 hts (big_V hl w_496 sel_M_rest w_2 w_497) rfl rfl rfl ⟨rfl, by decide, by decide, by decide +kernel⟩ hR
set_option maxRecDepth 100000 in
set_option maxHeartbeats 8000000 in
theorem c_M_rest (l : Launch) (D : va_G) (cI cL : ClassId) (m0 ra rb rc : Nat) (md fl er kx ky sx sy px py : Int32) (fx fy : Int64) (pr bi : Int32) (row oth : Nat → Int32) (rg : Nat → Int64) (hfy : uL fy < 2 ^ 53) (hpr : 1 ≤ pr.toInt ∧ pr.toInt ≤ 64) (hbi : 0 ≤ bi.toInt ∧ bi.toInt ≤ 1023) (hpx : -3000 ≤ px.toInt ∧ px.toInt ≤ 3000) (hpy : -3000 ≤ py.toInt ∧ py.toInt ≤ 3000) : MoM l D cI cL m0 ra rb rc yM_rest (wsM yM_rest cM_rest 5 (some .long)) rmM_rest [] ((md, fl, er, kx, ky, sx, sy, px, py), (fx, fy), (pr, bi), row, oth, rg) (some (.long ((C_M_rest md fl kx ky sx px py fx fy pr bi row).1))) ((md, ((C_M_rest md fl kx ky sx px py fx fy pr bi row).2.1), er, kx, ky, sx, sy, px, py), (fx, fy), (pr, bi), ((C_M_rest md fl kx ky sx px py fx fy pr bi row).2.2), oth, rg) := by
  refine mo_ofL (cc := cM_rest) (maxL := 5) (by decide) rfl (Nat.le_of_ble_eq_true rfl) ?_
  intro p e s m args below meth c Q hx hb hml hown hts H locs hS hw hret ls hl
  have hl : lv_has ls 5 [(0, .ref m0)] := hl
  have J183 : ∀ (fl9 : Int32) (row9 : Nat → Int32) (u1 : Int64) (u3 : Int32) (hk3 : -5000 ≤ u3.toInt ∧ u3.toInt ≤ 5000) (ls : Array Slot) (H : Heap) (locs : List Loc), lv_has ls 5 [(0, .ref m0), (1, .long u1), (3, .int u3)] → MOw D cI cL m0 ra rb rc ((md, fl9, er, kx, ky, sx, sy, px, py), (fx, fy), (pr, bi), row9, oth, rg) s H → va_S (mA m0 ra rb rc) s.heap H locs → C_M_rest_183 md fl9 sx pr bi row9 u1 u3 = C_M_rest md fl kx ky sx px py fx fy pr bi row → W p l e rmM_rest s m args below meth c H locs 0 0 Q (F0 m 183 ls []) := by
    intro fl9 row9 u1 u3 hk3 ls H locs hl hw hS he
    refine lv_lload_n (pc := 183) hx hb dM_rest_183 rfl (lv_at hl 1 rfl) ?_
    refine lv_lconst (v := 0) (pc := 184) hx hb dM_rest_184 (by decide) ?_
    refine W.lcmp (pc := 185) hx hb dM_rest_185 ?_
    refine lv_if_ne (tgt := 200) (pc := 186) hx hb dM_rest_186 (by decide) (fun h101 => ?_) (fun h101 => ?_)
    · skip
      have h101 : ¬ (u1 = 0) := fun q => h101 ((lg_cmp_eq _ _).2 q)
      refine lv_aload_n (pc := 200) hx hb dM_rest_200 rfl (lv_at hl 0 rfl) ?_
      refine mo_V (pc := 201) (rest := []) ⟨hx, hb, hml, hown, hts⟩ (c_M_clear l D cI cL m0 ra rb rc md fl9 er kx ky sx sy px py fx fy pr bi row9 oth rg ) (cwM_clear hts w_469 ⟨by decide, by decide⟩) hw hS rfl hl.1 rfl (Nat.le_of_ble_eq_true rfl) dM_rest_201 ⟨Nat.zero_le _, Nat.zero_le _⟩ (fun H locs hw hS => ?_)
      refine W.eq (g2 := F0 m 204 ls []) rfl ?_
      refine lv_aload_n (pc := 204) hx hb dM_rest_204 rfl (lv_at hl 0 rfl) ?_
      refine lv_lload_n (pc := 205) hx hb dM_rest_205 rfl (lv_at hl 1 rfl) ?_
      refine lv_iconst (v := 0) (pc := 206) hx hb dM_rest_206 (by decide) ?_
      refine mo_V (pc := 207) (rest := []) ⟨hx, hb, hml, hown, hts⟩ (c_M_lay l D cI cL m0 ra rb rc md fl9 er kx ky sx sy px py fx fy pr bi (bR 0) oth rg u1 0 (by decide) (by decide)) (cwM_lay hts w_473 ⟨by decide, by decide⟩) hw hS rfl hl.1 rfl (Nat.le_of_ble_eq_true rfl) dM_rest_207 ⟨Nat.zero_le _, Nat.zero_le _⟩ (fun H locs hw hS => ?_)
      refine W.eq (g2 := F0 m 210 ls []) rfl ?_
      refine lv_aload_n (pc := 210) hx hb dM_rest_210 rfl (lv_at hl 0 rfl) ?_
      refine lv_aload_n (pc := 211) hx hb dM_rest_211 rfl (lv_at hl 0 rfl) ?_
      refine mo_g_signX (pc := 212) hx hb hts hown hw w_364 dM_rest_212 ?_
      refine lv_iload_n (pc := 215) hx hb dM_rest_215 rfl (lv_at hl 2 rfl) ?_
      refine lv_iconst (v := 0) (pc := 216) hx hb dM_rest_216 (by decide) ?_
      refine mo_V (pc := 217) (rest := []) ⟨hx, hb, hml, hown, hts⟩ (c_M_rounded l D cI cL m0 ra rb rc md fl9 er kx ky sx sy px py fx fy pr bi (bR (uL u1 * 2 ^ (0 : Int32).toInt.toNat)) oth rg sx u3 false (uL u1 * 2 ^ (0 : Int32).toInt.toNat) (lay_ne h101) (lay_lt u1) hpr hbi hk3) (cwM_rounded hts w_477 ⟨by decide, by decide⟩) hw hS rfl hl.1 rfl (Nat.le_of_ble_eq_true rfl) dM_rest_217 ⟨Nat.zero_le _, Nat.zero_le _⟩ (fun H locs hw hS => ?_)
      refine W.eq (g2 := F0 m 220 ls [.long ((C_M_rounded md fl9 pr bi sx u3 false (uL u1 * 2 ^ (0 : Int32).toInt.toNat)).1)]) rfl ?_
      have he9 := (show ((C_M_rounded md fl9 pr bi sx u3 false (uL u1 * 2 ^ (0 : Int32).toInt.toNat)).1, (C_M_rounded md fl9 pr bi sx u3 false (uL u1 * 2 ^ (0 : Int32).toInt.toNat)).2, (bR (uL u1 * 2 ^ (0 : Int32).toInt.toNat))) = C_M_rest_183 md fl9 sx pr bi row9 u1 u3 from by rw [C_M_rest_183, if_neg h101]).trans he
      exact hret _ _ _ _ _ _ (congrArg Prod.fst he9) (by rw [← he9]) hw hS dM_rest_220
    · skip
      have h101 : u1 = 0 := (lg_cmp_eq _ _).1 h101
      refine lv_aload_n (pc := 189) hx hb dM_rest_189 rfl (lv_at hl 0 rfl) ?_
      refine lv_aload_n (pc := 190) hx hb dM_rest_190 rfl (lv_at hl 0 rfl) ?_
      refine mo_g_signX (pc := 191) hx hb hts hown hw w_364 dM_rest_191 ?_
      refine lv_lconst (v := 0) (pc := 194) hx hb dM_rest_194 (by decide) ?_
      refine lv_lconst (v := 0) (pc := 195) hx hb dM_rest_195 (by decide) ?_
      refine mo_V (pc := 196) (rest := []) ⟨hx, hb, hml, hown, hts⟩ (c_M_made l D cI cL m0 ra rb rc md fl9 er kx ky sx sy px py fx fy pr bi row9 oth rg sx 0 0) (cwM_made hts w_453 ⟨by decide, by decide⟩) hw hS rfl hl.1 rfl (Nat.le_of_ble_eq_true rfl) dM_rest_196 ⟨Nat.zero_le _, Nat.zero_le _⟩ (fun H locs hw hS => ?_)
      refine W.eq (g2 := F0 m 199 ls [.long (C_M_made pr sx 0 0)]) rfl ?_
      have he9 := (show (C_M_made pr sx 0 0, fl9, row9) = C_M_rest_183 md fl9 sx pr bi row9 u1 u3 from by rw [C_M_rest_183, if_pos h101]).trans he
      exact hret _ _ _ _ _ _ (congrArg Prod.fst he9) (by rw [← he9]) hw hS dM_rest_199
  have J121 : ∀ (fl9 : Int32) (row9 : Nat → Int32) (u1 : Int64) (ls : Array Slot) (H : Heap) (locs : List Loc), lv_has ls 5 [(0, .ref m0), (1, .long u1)] → MOw D cI cL m0 ra rb rc ((md, fl9, er, kx, ky, sx, sy, px, py), (fx, fy), (pr, bi), row9, oth, rg) s H → va_S (mA m0 ra rb rc) s.heap H locs → C_M_rest_121 md fl9 sx py pr bi row9 u1 = C_M_rest md fl kx ky sx px py fx fy pr bi row → W p l e rmM_rest s m args below meth c H locs 0 0 Q (F0 m 121 ls []) := by
    intro fl9 row9 u1 ls H locs hl hw hS he
    refine lv_aload_n (pc := 121) hx hb dM_rest_121 rfl (lv_at hl 0 rfl) ?_
    refine mo_g_powerY (pc := 122) hx hb hts hown hw w_367 dM_rest_122 ?_
    refine lv_istore_n (lv' := [(3, .int py), (0, .ref m0), (1, .long u1)]) (pc := 125) hx hb dM_rest_125 rfl hl (by decide) rfl (fun ls hl => ?_)
    refine lv_goto (tgt := 183) (pc := 126) hx hb dM_rest_126 (by decide) ?_
    exact J183 fl9 row9 u1 py ⟨by omega, by omega⟩ ls _ _ (lv_sub hl [1, 2, 0] rfl) hw hS ((show C_M_rest_183 md fl9 sx pr bi row9 u1 py = C_M_rest_121 md fl9 sx py pr bi row9 u1 from by rw [C_M_rest_121]).trans he)
  have L95 : ∀ (n : Nat) (fl9 : Int32) (row9 : Nat → Int32) (u1 : Int64) (u4 : Int32) (hz : ¬ fy = 0) (ls : Array Slot) (H : Heap) (locs : List Loc), u4.toInt - py.toInt ≤ (n : Int) → lv_has ls 5 [(0, .ref m0), (1, .long u1), (4, .int u4)] → MOw D cI cL m0 ra rb rc ((md, fl9, er, kx, ky, sx, sy, px, py), (fx, fy), (pr, bi), row9, oth, rg) s H → va_S (mA m0 ra rb rc) s.heap H locs → C_M_rest_95 md fl9 sx py fy pr bi row9 n u1 u4 = C_M_rest md fl kx ky sx px py fx fy pr bi row → W p l e rmM_rest s m args below meth c H locs 0 0 Q (F0 m 95 ls []) := by
    intro n
    induction n with
    | zero =>
      intro fl9 row9 u1 u4 hz ls H locs hm hl hw hS he
      refine lv_iload (pc := 95) hx hb dM_rest_95 (lv_at hl 2 rfl) ?_
      refine lv_aload_n (pc := 97) hx hb dM_rest_97 rfl (lv_at hl 0 rfl) ?_
      refine mo_g_powerY (pc := 98) hx hb hts hown hw w_367 dM_rest_98 ?_
      refine lv_icmp_le (tgt := 121) (pc := 101) hx hb dM_rest_101 (by decide) (fun _ => J121 fl9 row9 u1 ls _ _ (lv_sub hl [0, 1] rfl) hw hS he) (fun h => absurd (le_of_toInt (by omega)) h)
    | succ n ih =>
      intro fl9 row9 u1 u4 hz ls H locs hm hl hw hS he
      refine lv_iload (pc := 95) hx hb dM_rest_95 (lv_at hl 2 rfl) ?_
      refine lv_aload_n (pc := 97) hx hb dM_rest_97 rfl (lv_at hl 0 rfl) ?_
      refine mo_g_powerY (pc := 98) hx hb hts hown hw w_367 dM_rest_98 ?_
      refine lv_icmp_le (tgt := 121) (pc := 101) hx hb dM_rest_101 (by decide) (fun h301 => ?_) (fun h301 => ?_)
      · skip
        exact J121 fl9 row9 u1 ls _ _ (lv_sub hl [0, 1] rfl) hw hS ((show C_M_rest_121 md fl9 sx py pr bi row9 u1 = C_M_rest_95 md fl9 sx py fy pr bi row9 (n + 1) u1 u4 from by rw [C_M_rest_95, if_pos h301]).trans he)
      · skip
        refine lv_ldc2 (v := 2) (pc := 104) hx hb hown (hts _ (List.mem_cons_of_mem _ w_485)) dM_rest_104 ?_
        refine lv_lload_n (pc := 107) hx hb dM_rest_107 rfl (lv_at hl 1 rfl) ?_
        refine lv_lmul (pc := 108) hx hb dM_rest_108 ?_
        refine lv_aload_n (pc := 109) hx hb dM_rest_109 rfl (lv_at hl 0 rfl) ?_
        refine mo_g_partY (pc := 110) hx hb hts hown hw w_369 dM_rest_110 ?_
        refine lv_lrem (pc := 113) hx hb dM_rest_113 hz ?_
        refine lv_lstore_n (lv' := [(1, .long ((2 * u1) - (2 * u1) / fy * fy)), (0, .ref m0), (4, .int u4)]) (pc := 114) hx hb dM_rest_114 rfl hl (by decide) rfl (fun ls hl => ?_)
        refine lv_iinc (k := 2) (v := u4 + (-1)) (lv' := [(4, .int (u4 + (-1))), (1, .long ((2 * u1) - (2 * u1) / fy * fy)), (0, .ref m0)]) (pc := 115) hx hb dM_rest_115 hl rfl (by rfl) (by decide) rfl (fun ls hl => ?_)
        refine lv_goto (tgt := 95) (pc := 118) hx hb dM_rest_118 (by decide) ?_
        exact ih fl9 row9 ((2 * u1) - (2 * u1) / fy * fy) (u4 + (-1)) hz ls _ _ (by have q := not_le_toInt h301; have := dec1 (k := u4) (b := (n : Int) + 1 + py.toInt) (by omega) (by omega); omega) (lv_sub hl [2, 1, 0] rfl) hw hS ((show C_M_rest_95 md fl9 sx py fy pr bi row9 n ((2 * u1) - (2 * u1) / fy * fy) (u4 + (-1)) = C_M_rest_95 md fl9 sx py fy pr bi row9 (n + 1) u1 u4 from by rw [C_M_rest_95, if_neg h301]).trans he)
  have J95 : ∀ (fl9 : Int32) (row9 : Nat → Int32) (u1 : Int64) (u4 : Int32) (hz : ¬ fy = 0) (ls : Array Slot) (H : Heap) (locs : List Loc), lv_has ls 5 [(0, .ref m0), (1, .long u1), (4, .int u4)] → MOw D cI cL m0 ra rb rc ((md, fl9, er, kx, ky, sx, sy, px, py), (fx, fy), (pr, bi), row9, oth, rg) s H → va_S (mA m0 ra rb rc) s.heap H locs → C_M_rest_95 md fl9 sx py fy pr bi row9 ((u4.toInt - py.toInt).toNat) u1 u4 = C_M_rest md fl kx ky sx px py fx fy pr bi row → W p l e rmM_rest s m args below meth c H locs 0 0 Q (F0 m 95 ls []) := by
    intro fl9 row9 u1 u4 hz ls H locs hl hw hS he
    exact L95 _ fl9 row9 u1 u4 hz ls H locs (by omega) hl hw hS he
  refine lv_aload_n (pc := 0) hx hb dM_rest_0 rfl (lv_at hl 0 rfl) ?_
  refine mo_g_kindX (pc := 1) hx hb hts hown hw w_362 dM_rest_1 ?_
  refine lv_iconst (v := 1) (pc := 4) hx hb dM_rest_4 (by decide) ?_
  refine lv_icmp_eq (tgt := 25) (pc := 5) hx hb dM_rest_5 (by decide) (fun h1 => ?_) (fun h1 => ?_)
  · skip
    refine lv_aload_n (pc := 25) hx hb dM_rest_25 rfl (lv_at hl 0 rfl) ?_
    refine mo_V (pc := 26) (rest := []) ⟨hx, hb, hml, hown, hts⟩ (c_M_invalid l D cI cL m0 ra rb rc md fl er kx ky sx sy px py fx fy pr bi row oth rg ) (cwM_invalid hts w_461 ⟨by decide, by decide⟩) hw hS rfl hl.1 rfl (Nat.le_of_ble_eq_true rfl) dM_rest_26 ⟨Nat.zero_le _, Nat.zero_le _⟩ (fun H locs hw hS => ?_)
    refine W.eq (g2 := F0 m 29 ls [.long ((C_M_invalid fl pr bi).1)]) rfl ?_
    have he9 := (show ((C_M_invalid fl pr bi).1, (C_M_invalid fl pr bi).2, row) = C_M_rest md fl kx ky sx px py fx fy pr bi row from by rw [C_M_rest, if_pos h1])
    exact hret _ _ _ _ _ _ (congrArg Prod.fst he9) (by rw [← he9]) hw hS dM_rest_29
  · skip
    refine lv_aload_n (pc := 8) hx hb dM_rest_8 rfl (lv_at hl 0 rfl) ?_
    refine mo_g_kindY (pc := 9) hx hb hts hown hw w_363 dM_rest_9 ?_
    refine lv_iconst (v := 2) (pc := 12) hx hb dM_rest_12 (by decide) ?_
    refine lv_icmp_ne (tgt := 30) (pc := 13) hx hb dM_rest_13 (by decide) (fun h2 => ?_) (fun h2 => ?_)
    · skip
      refine lv_aload_n (pc := 30) hx hb dM_rest_30 rfl (lv_at hl 0 rfl) ?_
      refine mo_g_partX (pc := 31) hx hb hts hown hw w_368 dM_rest_31 ?_
      refine lv_lconst (v := 0) (pc := 34) hx hb dM_rest_34 (by decide) ?_
      refine W.lcmp (pc := 35) hx hb dM_rest_35 ?_
      refine lv_if_ne (tgt := 50) (pc := 36) hx hb dM_rest_36 (by decide) (fun h3 => ?_) (fun h3 => ?_)
      · skip
        have h3 : ¬ (fx = 0) := fun q => h3 ((lg_cmp_eq _ _).2 q)
        refine lv_aload_n (pc := 50) hx hb dM_rest_50 rfl (lv_at hl 0 rfl) ?_
        refine mo_g_partX (pc := 51) hx hb hts hown hw w_368 dM_rest_51 ?_
        refine lv_lstore_n (lv' := [(1, .long fx), (0, .ref m0)]) (pc := 54) hx hb dM_rest_54 rfl hl (by decide) rfl (fun ls hl => ?_)
        refine lv_aload_n (pc := 55) hx hb dM_rest_55 rfl (lv_at hl 1 rfl) ?_
        refine mo_g_powerX (pc := 56) hx hb hts hown hw w_366 dM_rest_56 ?_
        refine lv_istore_n (lv' := [(3, .int px), (1, .long fx), (0, .ref m0)]) (pc := 59) hx hb dM_rest_59 rfl hl (by decide) rfl (fun ls hl => ?_)
        refine lv_aload_n (pc := 60) hx hb dM_rest_60 rfl (lv_at hl 2 rfl) ?_
        refine mo_g_kindY (pc := 61) hx hb hts hown hw w_363 dM_rest_61 ?_
        refine lv_iconst (v := 2) (pc := 64) hx hb dM_rest_64 (by decide) ?_
        refine lv_icmp_ne (tgt := 129) (pc := 65) hx hb dM_rest_65 (by decide) (fun h4 => ?_) (fun h4 => ?_)
        · skip
          refine lv_aload_n (pc := 129) hx hb dM_rest_129 rfl (lv_at hl 2 rfl) ?_
          refine mo_g_kindY (pc := 130) hx hb hts hown hw w_363 dM_rest_130 ?_
          refine lv_iconst (v := 2) (pc := 133) hx hb dM_rest_133 (by decide) ?_
          refine lv_icmp_ne (tgt := 183) (pc := 134) hx hb dM_rest_134 (by decide) (fun h5 => ?_) (fun h5 => ?_)
          · skip
            exact J183 fl row fx px ⟨by omega, by omega⟩ ls _ _ (lv_sub hl [2, 1, 0] rfl) hw hS ((show C_M_rest_183 md fl sx pr bi row fx px = C_M_rest md fl kx ky sx px py fx fy pr bi row from by rw [C_M_rest, if_neg h1, if_neg h2, if_neg h3]))
          · exact absurd h5 h2
        · exact absurd h4 h2
      · skip
        have h3 : fx = 0 := (lg_cmp_eq _ _).1 h3
        refine lv_aload_n (pc := 39) hx hb dM_rest_39 rfl (lv_at hl 0 rfl) ?_
        refine lv_aload_n (pc := 40) hx hb dM_rest_40 rfl (lv_at hl 0 rfl) ?_
        refine mo_g_signX (pc := 41) hx hb hts hown hw w_364 dM_rest_41 ?_
        refine lv_lconst (v := 0) (pc := 44) hx hb dM_rest_44 (by decide) ?_
        refine lv_lconst (v := 0) (pc := 45) hx hb dM_rest_45 (by decide) ?_
        refine mo_V (pc := 46) (rest := []) ⟨hx, hb, hml, hown, hts⟩ (c_M_made l D cI cL m0 ra rb rc md fl er kx ky sx sy px py fx fy pr bi row oth rg sx 0 0) (cwM_made hts w_453 ⟨by decide, by decide⟩) hw hS rfl hl.1 rfl (Nat.le_of_ble_eq_true rfl) dM_rest_46 ⟨Nat.zero_le _, Nat.zero_le _⟩ (fun H locs hw hS => ?_)
        refine W.eq (g2 := F0 m 49 ls [.long (C_M_made pr sx 0 0)]) rfl ?_
        have he9 := (show (C_M_made pr sx 0 0, fl, row) = C_M_rest md fl kx ky sx px py fx fy pr bi row from by rw [C_M_rest, if_neg h1, if_neg h2, if_pos h3])
        exact hret _ _ _ _ _ _ (congrArg Prod.fst he9) (by rw [← he9]) hw hS dM_rest_49
    · skip
      refine lv_aload_n (pc := 16) hx hb dM_rest_16 rfl (lv_at hl 0 rfl) ?_
      refine mo_g_partY (pc := 17) hx hb hts hown hw w_369 dM_rest_17 ?_
      refine lv_lconst (v := 0) (pc := 20) hx hb dM_rest_20 (by decide) ?_
      refine W.lcmp (pc := 21) hx hb dM_rest_21 ?_
      refine lv_if_ne (tgt := 30) (pc := 22) hx hb dM_rest_22 (by decide) (fun h6 => ?_) (fun h6 => ?_)
      · skip
        have h6 : ¬ (fy = 0) := fun q => h6 ((lg_cmp_eq _ _).2 q)
        refine lv_aload_n (pc := 30) hx hb dM_rest_30 rfl (lv_at hl 0 rfl) ?_
        refine mo_g_partX (pc := 31) hx hb hts hown hw w_368 dM_rest_31 ?_
        refine lv_lconst (v := 0) (pc := 34) hx hb dM_rest_34 (by decide) ?_
        refine W.lcmp (pc := 35) hx hb dM_rest_35 ?_
        refine lv_if_ne (tgt := 50) (pc := 36) hx hb dM_rest_36 (by decide) (fun h7 => ?_) (fun h7 => ?_)
        · skip
          have h7 : ¬ (fx = 0) := fun q => h7 ((lg_cmp_eq _ _).2 q)
          refine lv_aload_n (pc := 50) hx hb dM_rest_50 rfl (lv_at hl 0 rfl) ?_
          refine mo_g_partX (pc := 51) hx hb hts hown hw w_368 dM_rest_51 ?_
          refine lv_lstore_n (lv' := [(1, .long fx), (0, .ref m0)]) (pc := 54) hx hb dM_rest_54 rfl hl (by decide) rfl (fun ls hl => ?_)
          refine lv_aload_n (pc := 55) hx hb dM_rest_55 rfl (lv_at hl 1 rfl) ?_
          refine mo_g_powerX (pc := 56) hx hb hts hown hw w_366 dM_rest_56 ?_
          refine lv_istore_n (lv' := [(3, .int px), (1, .long fx), (0, .ref m0)]) (pc := 59) hx hb dM_rest_59 rfl hl (by decide) rfl (fun ls hl => ?_)
          refine lv_aload_n (pc := 60) hx hb dM_rest_60 rfl (lv_at hl 2 rfl) ?_
          refine mo_g_kindY (pc := 61) hx hb hts hown hw w_363 dM_rest_61 ?_
          refine lv_iconst (v := 2) (pc := 64) hx hb dM_rest_64 (by decide) ?_
          refine lv_icmp_ne (tgt := 129) (pc := 65) hx hb dM_rest_65 (by decide) (fun h8 => ?_) (fun h8 => ?_)
          · exact absurd h2 h8
          · skip
            refine lv_aload_n (pc := 68) hx hb dM_rest_68 rfl (lv_at hl 2 rfl) ?_
            refine mo_g_powerX (pc := 69) hx hb hts hown hw w_366 dM_rest_69 ?_
            refine lv_aload_n (pc := 72) hx hb dM_rest_72 rfl (lv_at hl 2 rfl) ?_
            refine mo_g_powerY (pc := 73) hx hb hts hown hw w_367 dM_rest_73 ?_
            refine lv_icmp_lt (tgt := 129) (pc := 76) hx hb dM_rest_76 (by decide) (fun h9 => ?_) (fun h9 => ?_)
            · skip
              refine lv_aload_n (pc := 129) hx hb dM_rest_129 rfl (lv_at hl 2 rfl) ?_
              refine mo_g_kindY (pc := 130) hx hb hts hown hw w_363 dM_rest_130 ?_
              refine lv_iconst (v := 2) (pc := 133) hx hb dM_rest_133 (by decide) ?_
              refine lv_icmp_ne (tgt := 183) (pc := 134) hx hb dM_rest_134 (by decide) (fun h10 => ?_) (fun h10 => ?_)
              · exact absurd h2 h10
              · skip
                refine lv_aload_n (pc := 137) hx hb dM_rest_137 rfl (lv_at hl 2 rfl) ?_
                refine mo_g_powerY (pc := 138) hx hb hts hown hw w_367 dM_rest_138 ?_
                refine lv_aload_n (pc := 141) hx hb dM_rest_141 rfl (lv_at hl 2 rfl) ?_
                refine mo_g_powerX (pc := 142) hx hb hts hown hw w_366 dM_rest_142 ?_
                refine lv_isub (pc := 145) hx hb dM_rest_145 ?_
                refine lv_istore (lv' := [(4, .int (py - px)), (3, .int px), (1, .long fx), (0, .ref m0)]) (pc := 146) hx hb dM_rest_146 hl (by decide) rfl (fun ls hl => ?_)
                refine lv_iload (pc := 148) hx hb dM_rest_148 (lv_at hl 0 rfl) ?_
                refine lv_bipush (v := 54) (pc := 150) hx hb dM_rest_150 (by decide) ?_
                refine lv_icmp_ge (tgt := 183) (pc := 152) hx hb dM_rest_152 (by decide) (fun h11 => ?_) (fun h11 => ?_)
                · skip
                  exact J183 fl row fx px ⟨by omega, by omega⟩ ls _ _ (lv_sub hl [3, 2, 1] rfl) hw hS ((show C_M_rest_183 md fl sx pr bi row fx px = C_M_rest md fl kx ky sx px py fx fy pr bi row from by rw [C_M_rest, if_neg h1, if_pos h2, if_neg h6, if_neg h7, if_pos h9, if_pos h11]))
                · skip
                  refine lv_aload_n (pc := 155) hx hb dM_rest_155 rfl (lv_at hl 3 rfl) ?_
                  refine mo_g_partY (pc := 156) hx hb hts hown hw w_369 dM_rest_156 ?_
                  refine lv_lconst (v := 1) (pc := 159) hx hb dM_rest_159 (by decide) ?_
                  refine lv_bipush (v := 62) (pc := 160) hx hb dM_rest_160 (by decide) ?_
                  refine lv_iload (pc := 162) hx hb dM_rest_162 (lv_at hl 0 rfl) ?_
                  refine lv_isub (pc := 164) hx hb dM_rest_164 ?_
                  refine lv_lshl (v := jShl 1 (62 - (py - px))) (pc := 165) hx hb dM_rest_165 rfl ?_
                  refine W.lcmp (pc := 166) hx hb dM_rest_166 ?_
                  refine lv_if_ge (tgt := 183) (pc := 167) hx hb dM_rest_167 (by decide) (fun h12 => ?_) (fun h12 => ?_)
                  · skip
                    have h12 : (jShl 1 (62 - (py - px))) ≤ fy := (lg_cmp_ge _ _).1 h12
                    exact J183 fl row fx px ⟨by omega, by omega⟩ ls _ _ (lv_sub hl [3, 2, 1] rfl) hw hS ((show C_M_rest_183 md fl sx pr bi row fx px = C_M_rest md fl kx ky sx px py fx fy pr bi row from by rw [C_M_rest, if_neg h1, if_pos h2, if_neg h6, if_neg h7, if_pos h9, if_neg h11, if_pos h12]))
                  · skip
                    have h12 : ¬ ((jShl 1 (62 - (py - px))) ≤ fy) := fun q => h12 ((lg_cmp_ge _ _).2 q)
                    refine lv_aload_n (pc := 170) hx hb dM_rest_170 rfl (lv_at hl 3 rfl) ?_
                    refine mo_g_partX (pc := 171) hx hb hts hown hw w_368 dM_rest_171 ?_
                    refine lv_aload_n (pc := 174) hx hb dM_rest_174 rfl (lv_at hl 3 rfl) ?_
                    refine mo_g_partY (pc := 175) hx hb hts hown hw w_369 dM_rest_175 ?_
                    refine lv_iload (pc := 178) hx hb dM_rest_178 (lv_at hl 0 rfl) ?_
                    refine lv_lshl (v := jShl fy (py - px)) (pc := 180) hx hb dM_rest_180 rfl ?_
                    refine lv_lrem (pc := 181) hx hb dM_rest_181 (rest_ne hfy h6 hpx hpy h9 h11 h12) ?_
                    refine lv_lstore_n (lv' := [(1, .long (fx - fx / (jShl fy (py - px)) * (jShl fy (py - px)))), (4, .int (py - px)), (3, .int px), (0, .ref m0)]) (pc := 182) hx hb dM_rest_182 rfl hl (by decide) rfl (fun ls hl => ?_)
                    exact J183 fl row (fx - fx / (jShl fy (py - px)) * (jShl fy (py - px))) px ⟨by omega, by omega⟩ ls _ _ (lv_sub hl [3, 0, 2] rfl) hw hS ((show C_M_rest_183 md fl sx pr bi row (fx - fx / (jShl fy (py - px)) * (jShl fy (py - px))) px = C_M_rest md fl kx ky sx px py fx fy pr bi row from by rw [C_M_rest, if_neg h1, if_pos h2, if_neg h6, if_neg h7, if_pos h9, if_neg h11, if_neg h12]))
            · skip
              refine lv_aload_n (pc := 79) hx hb dM_rest_79 rfl (lv_at hl 2 rfl) ?_
              refine mo_g_partX (pc := 80) hx hb hts hown hw w_368 dM_rest_80 ?_
              refine lv_aload_n (pc := 83) hx hb dM_rest_83 rfl (lv_at hl 2 rfl) ?_
              refine mo_g_partY (pc := 84) hx hb hts hown hw w_369 dM_rest_84 ?_
              refine lv_lrem (pc := 87) hx hb dM_rest_87 h6 ?_
              refine lv_lstore_n (lv' := [(1, .long (fx - fx / fy * fy)), (3, .int px), (0, .ref m0)]) (pc := 88) hx hb dM_rest_88 rfl hl (by decide) rfl (fun ls hl => ?_)
              refine lv_aload_n (pc := 89) hx hb dM_rest_89 rfl (lv_at hl 2 rfl) ?_
              refine mo_g_powerX (pc := 90) hx hb hts hown hw w_366 dM_rest_90 ?_
              refine lv_istore (lv' := [(4, .int px), (1, .long (fx - fx / fy * fy)), (3, .int px), (0, .ref m0)]) (pc := 93) hx hb dM_rest_93 hl (by decide) rfl (fun ls hl => ?_)
              exact J95 fl row (fx - fx / fy * fy) px h6 ls _ _ (lv_sub hl [3, 1, 0] rfl) hw hS ((show C_M_rest_95 md fl sx py fy pr bi row ((px.toInt - py.toInt).toNat) (fx - fx / fy * fy) px = C_M_rest md fl kx ky sx px py fx fy pr bi row from by rw [C_M_rest, if_neg h1, if_pos h2, if_neg h6, if_neg h7, if_neg h9]))
        · skip
          have h7 : fx = 0 := (lg_cmp_eq _ _).1 h7
          refine lv_aload_n (pc := 39) hx hb dM_rest_39 rfl (lv_at hl 0 rfl) ?_
          refine lv_aload_n (pc := 40) hx hb dM_rest_40 rfl (lv_at hl 0 rfl) ?_
          refine mo_g_signX (pc := 41) hx hb hts hown hw w_364 dM_rest_41 ?_
          refine lv_lconst (v := 0) (pc := 44) hx hb dM_rest_44 (by decide) ?_
          refine lv_lconst (v := 0) (pc := 45) hx hb dM_rest_45 (by decide) ?_
          refine mo_V (pc := 46) (rest := []) ⟨hx, hb, hml, hown, hts⟩ (c_M_made l D cI cL m0 ra rb rc md fl er kx ky sx sy px py fx fy pr bi row oth rg sx 0 0) (cwM_made hts w_453 ⟨by decide, by decide⟩) hw hS rfl hl.1 rfl (Nat.le_of_ble_eq_true rfl) dM_rest_46 ⟨Nat.zero_le _, Nat.zero_le _⟩ (fun H locs hw hS => ?_)
          refine W.eq (g2 := F0 m 49 ls [.long (C_M_made pr sx 0 0)]) rfl ?_
          have he9 := (show (C_M_made pr sx 0 0, fl, row) = C_M_rest md fl kx ky sx px py fx fy pr bi row from by rw [C_M_rest, if_neg h1, if_pos h2, if_neg h6, if_pos h7])
          exact hret _ _ _ _ _ _ (congrArg Prod.fst he9) (by rw [← he9]) hw hS dM_rest_49
      · skip
        have h6 : fy = 0 := (lg_cmp_eq _ _).1 h6
        refine lv_aload_n (pc := 25) hx hb dM_rest_25 rfl (lv_at hl 0 rfl) ?_
        refine mo_V (pc := 26) (rest := []) ⟨hx, hb, hml, hown, hts⟩ (c_M_invalid l D cI cL m0 ra rb rc md fl er kx ky sx sy px py fx fy pr bi row oth rg ) (cwM_invalid hts w_461 ⟨by decide, by decide⟩) hw hS rfl hl.1 rfl (Nat.le_of_ble_eq_true rfl) dM_rest_26 ⟨Nat.zero_le _, Nat.zero_le _⟩ (fun H locs hw hS => ?_)
        refine W.eq (g2 := F0 m 29 ls [.long ((C_M_invalid fl pr bi).1)]) rfl ?_
        have he9 := (show ((C_M_invalid fl pr bi).1, (C_M_invalid fl pr bi).2, row) = C_M_rest md fl kx ky sx px py fx fy pr bi row from by rw [C_M_rest, if_neg h1, if_pos h2, if_pos h6])
        exact hret _ _ _ _ _ _ (congrArg Prod.fst he9) (by rw [← he9]) hw hS dM_rest_29
