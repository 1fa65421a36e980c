/-! The operations of the unit (by program). -/
def C_U_quotientByZero (md : Int32) (fl : Int32) (i : Nat) (x2 : Int64) (z3 : Bool) : Int64 × Int32 :=
  if (C_F_isZero i x2) = false then
    (C_F_endless i z3, C_U_raise md fl 8)
  else
    ((C_U_invalid md fl i).1, (C_U_invalid md fl i).2)
abbrev rmU_quotientByZero : Room := { frames := 2, cells := 0, slots := 0, locals := 44 }
theorem cwU_quotientByZero {R : Room} {s : State} {args : Array Value} {w0 : Cond} {own : String} {idx : Nat} (hts : ∀ w ∈ (w0 :: bigW), w.before args s = true) (hl : Cond.methodLink own idx yU_quotientByZero ∈ bigW) (hR : rmU_quotientByZero.frames + 1 ≤ R.frames ∧ 8 + (5 + 11) + rmU_quotientByZero.locals ≤ R.locals) : CallW R s args own "FloatUnit" idx yU_quotientByZero cU_quotientByZero 5 (some .long) (wsM yU_quotientByZero cU_quotientByZero 5 (some .long)) rmU_quotientByZero 0 0 3 :=
  cwV 3 hts (big_V hl w_266 sel_U_quotientByZero w_1 w_267) rfl rfl rfl ⟨rfl, by decide, by decide, by decide +kernel⟩ hR
set_option maxRecDepth 100000 in
set_option maxHeartbeats 8000000 in
theorem c_U_quotientByZero (l : Launch) (ad : Nat → Nat) (D : va_G) (cA : ClassId) (h0 r0 : Nat) {i : Nat} (hi : i < 2) (md fl : Int32) (rg : Nat → Int64) (x2 : Int64) (z3 : Bool) : FuM l ad D cA h0 r0 yU_quotientByZero (wsM yU_quotientByZero cU_quotientByZero 5 (some .long)) rmU_quotientByZero [.ref (ad i), .long x2, .int (bI z3)] md fl rg (some (.long ((C_U_quotientByZero md fl i x2 z3).1))) md (C_U_quotientByZero md fl i x2 z3).2 rg := by
  refine fu_ofL (cc := cU_quotientByZero) (maxL := 5) (by decide) rfl (Nat.le_of_ble_eq_true rfl) ?_
  intro p e s m args below meth c Q hx hb hml hown hts hF H locs hS hw hret ls hl
  have hl : lv_has ls 5 [(0, .ref h0), (1, .ref (ad i)), (2, .long x2), (4, .int (bI z3))] := hl
  refine lv_aload_n (pc := 0) hx hb dU_quotientByZero_0 rfl (lv_at hl 1 rfl) ?_
  refine lv_lload_n (pc := 1) hx hb dU_quotientByZero_1 rfl (lv_at hl 2 rfl) ?_
  refine pu_V (pc := 2) (i := i) (rest := []) ⟨hx, hb, hml, hown, hts⟩ hi (c_F_isZero l ad hi x2) (cwF_isZero hts w_252 ⟨by decide, by decide⟩) hF hS rfl hl.1 rfl (Nat.le_of_ble_eq_true rfl) dU_quotientByZero_2 ⟨Nat.zero_le _, Nat.zero_le _⟩ ?_
  refine lv_if_eq (tgt := 14) (pc := 5) hx hb dU_quotientByZero_5 (by decide) (fun h1 => ?_) (fun h1 => ?_)
  · skip
    have h1 : (C_F_isZero i x2) = false := (bI_0 _).1 h1
    refine lv_aload_n (pc := 14) hx hb dU_quotientByZero_14 rfl (lv_at hl 0 rfl) ?_
    refine lv_bipush (v := 8) (pc := 15) hx hb dU_quotientByZero_15 (by decide) ?_
    refine fu_V (pc := 17) (rest := []) ⟨hx, hb, hml, hown, hts⟩ (c_U_raise l ad D cA h0 r0  md fl rg 8) (cwU_raise hts w_176 ⟨by decide, by decide⟩) hF hw hS rfl hl.1 rfl (Nat.le_of_ble_eq_true rfl) dU_quotientByZero_17 ⟨Nat.zero_le _, Nat.zero_le _⟩ (fun H locs hw hS => ?_)
    refine W.eq (g2 := F0 m 20 ls []) rfl ?_
    refine lv_aload_n (pc := 20) hx hb dU_quotientByZero_20 rfl (lv_at hl 1 rfl) ?_
    refine lv_iload (pc := 21) hx hb dU_quotientByZero_21 (lv_at hl 3 rfl) ?_
    refine pu_V (pc := 23) (i := i) (rest := []) ⟨hx, hb, hml, hown, hts⟩ hi (c_F_endless l ad hi z3) (cwF_endless hts w_234 ⟨by decide, by decide⟩) hF hS rfl hl.1 rfl (Nat.le_of_ble_eq_true rfl) dU_quotientByZero_23 ⟨Nat.zero_le _, Nat.zero_le _⟩ ?_
    have he9 := (show (C_F_endless i z3, C_U_raise md fl 8) = C_U_quotientByZero md fl i x2 z3 from by rw [C_U_quotientByZero, if_pos h1])
    exact hret _ _ _ _ _ _ _ _ (congrArg Prod.fst he9) rfl (congrArg Prod.snd he9) rfl hw hS dU_quotientByZero_26
  · skip
    have h1 : ¬ ((C_F_isZero i x2) = false) := fun q => h1 ((bI_0 _).2 q)
    refine lv_aload_n (pc := 8) hx hb dU_quotientByZero_8 rfl (lv_at hl 0 rfl) ?_
    refine lv_aload_n (pc := 9) hx hb dU_quotientByZero_9 rfl (lv_at hl 1 rfl) ?_
    refine fu_V (pc := 10) (rest := []) ⟨hx, hb, hml, hown, hts⟩ (c_U_invalid l ad D cA h0 r0 hi md fl rg ) (cwU_invalid hts w_172 ⟨by decide, by decide⟩) hF hw hS rfl hl.1 rfl (Nat.le_of_ble_eq_true rfl) dU_quotientByZero_10 ⟨Nat.zero_le _, Nat.zero_le _⟩ (fun H locs hw hS => ?_)
    refine W.eq (g2 := F0 m 13 ls [.long ((C_U_invalid md fl i).1)]) rfl ?_
    have he9 := (show ((C_U_invalid md fl i).1, (C_U_invalid md fl i).2) = C_U_quotientByZero md fl i x2 z3 from by rw [C_U_quotientByZero, if_neg h1])
    exact hret _ _ _ _ _ _ _ _ (congrArg Prod.fst he9) rfl (congrArg Prod.snd he9) rfl hw hS dU_quotientByZero_13
def C_U_sum_102 (md f9 : Int32) (i : Nat) (u2 : Int64) (v6 : Bool) (u7 : Int32) (u8 : Int64) : Int64 × Int32 :=
  if u8 = 0 then
    if v6 = false then
      if md = 3 then
        (C_F_zero i true, f9)
      else
        (C_F_zero i false, f9)
    else
      (C_F_zero i (C_F_isMinus i u2), f9)
  else
    if 0 ≤ u8 then
      ((C_U_rounded md f9 i false u8 u7).1, (C_U_rounded md f9 i false u8 u7).2)
    else
      ((C_U_rounded md f9 i true (-u8) u7).1, (C_U_rounded md f9 i true (-u8) u7).2)
def C_U_sum_19 (md f9 : Int32) (i : Nat) (u2 : Int64) (u4 : Int64) (v6 : Bool) : Int64 × Int32 :=
  if (C_F_isEndless i u2) = false then
    if (C_F_isEndless i u4) = false then
      C_U_sum_102 md f9 i u2 v6 ((jMax (C_F_power i u2) (C_F_power i u4)) - 9) ((C_U_term i u2 ((jMax (C_F_power i u2) (C_F_power i u4)) - 9)) + (C_U_term i u4 ((jMax (C_F_power i u2) (C_F_power i u4)) - 9)))
    else
      (u4, f9)
  else
    if (C_F_isEndless i u4) = false then
      (u2, f9)
    else
      if v6 = false then
        ((C_U_invalid md f9 i).1, (C_U_invalid md f9 i).2)
      else
        (u2, f9)
def C_U_sum (md : Int32) (fl : Int32) (i : Nat) (x2 : Int64) (x3 : Int64) : Int64 × Int32 :=
  if (bI (C_F_isMinus i x2)) = (bI (C_F_isMinus i x3)) then
    C_U_sum_19 md fl i x2 x3 true
  else
    C_U_sum_19 md fl i x2 x3 false
abbrev rmU_sum : Room := { frames := 4, cells := 0, slots := 0, locals := 104 }
theorem cwU_sum {R : Room} {s : State} {args : Array Value} {w0 : Cond} {own : String} {idx : Nat} (hts : ∀ w ∈ (w0 :: bigW), w.before args s = true) (hl : Cond.methodLink own idx yU_sum ∈ bigW) (hR : rmU_sum.frames + 1 ≤ R.frames ∧ 8 + (10 + 11) + rmU_sum.locals ≤ R.locals) : CallW R s args own "FloatUnit" idx yU_sum cU_sum 10 (some .long) (wsM yU_sum cU_sum 10 (some .long)) rmU_sum 0 0 3 :=
  cwV 3 hts (big_V hl w_162 sel_U_sum w_1 w_163) rfl rfl rfl ⟨rfl, by decide, by decide, by decide +kernel⟩ hR
set_option maxRecDepth 100000 in
set_option maxHeartbeats 8000000 in
theorem c_U_sum (l : Launch) (ad : Nat → Nat) (D : va_G) (cA : ClassId) (h0 r0 : Nat) {i : Nat} (hi : i < 2) (md fl : Int32) (rg : Nat → Int64) (x2 : Int64) (x3 : Int64) : FuM l ad D cA h0 r0 yU_sum (wsM yU_sum cU_sum 10 (some .long)) rmU_sum [.ref (ad i), .long x2, .long x3] md fl rg (some (.long ((C_U_sum md fl i x2 x3).1))) md (C_U_sum md fl i x2 x3).2 rg := by
  refine fu_ofL (cc := cU_sum) (maxL := 10) (by decide) rfl (Nat.le_of_ble_eq_true rfl) ?_
  intro p e s m args below meth c Q hx hb hml hown hts hF H locs hS hw hret ls hl
  have hl : lv_has ls 10 [(0, .ref h0), (1, .ref (ad i)), (2, .long x2), (4, .long x3)] := hl
  have J102 : ∀ (f9 : Int32) (u2 : Int64) (v6 : Bool) (u7 : Int32) (u8 : Int64) (ls : Array Slot) (H : Heap) (locs : List Loc), lv_has ls 10 [(0, .ref h0), (1, .ref (ad i)), (2, .long u2), (6, .int (bI v6)), (7, .int u7), (8, .long u8)] → FUw D cA h0 r0 md f9 rg s H → va_S (fA h0 r0) s.heap H locs → C_U_sum_102 md f9 i u2 v6 u7 u8 = C_U_sum md fl i x2 x3 → W p l e rmU_sum s m args below meth c H locs 0 0 Q (F0 m 102 ls []) := by
    intro f9 u2 v6 u7 u8 ls H locs hl hw hS he
    refine lv_lload (pc := 102) hx hb dU_sum_102 (lv_at hl 5 rfl) ?_
    refine lv_lconst (v := 0) (pc := 104) hx hb dU_sum_104 (by decide) ?_
    refine W.lcmp (pc := 105) hx hb dU_sum_105 ?_
    refine lv_if_ne (tgt := 140) (pc := 106) hx hb dU_sum_106 (by decide) (fun h201 => ?_) (fun h201 => ?_)
    · skip
      have h201 : ¬ (u8 = 0) := fun q => h201 ((lg_cmp_eq _ _).2 q)
      refine lv_aload_n (pc := 140) hx hb dU_sum_140 rfl (lv_at hl 0 rfl) ?_
      refine lv_aload_n (pc := 141) hx hb dU_sum_141 rfl (lv_at hl 1 rfl) ?_
      refine lv_lload (pc := 142) hx hb dU_sum_142 (lv_at hl 5 rfl) ?_
      refine lv_lconst (v := 0) (pc := 144) hx hb dU_sum_144 (by decide) ?_
      refine W.lcmp (pc := 145) hx hb dU_sum_145 ?_
      refine lv_if_ge (tgt := 153) (pc := 146) hx hb dU_sum_146 (by decide) (fun h202 => ?_) (fun h202 => ?_)
      · skip
        have h202 : 0 ≤ u8 := (lg_cmp_ge _ _).1 h202
        refine lv_iconst (v := 0) (pc := 153) hx hb dU_sum_153 (by decide) ?_
        refine lv_lload (pc := 154) hx hb dU_sum_154 (lv_at hl 5 rfl) ?_
        refine lv_lconst (v := 0) (pc := 156) hx hb dU_sum_156 (by decide) ?_
        refine W.lcmp (pc := 157) hx hb dU_sum_157 ?_
        refine lv_if_ge (tgt := 167) (pc := 158) hx hb dU_sum_158 (by decide) (fun h203 => ?_) (fun h203 => ?_)
        · skip
          refine lv_lload (pc := 167) hx hb dU_sum_167 (lv_at hl 5 rfl) ?_
          refine lv_iload (pc := 169) hx hb dU_sum_169 (lv_at hl 4 rfl) ?_
          refine fu_V (pc := 171) (rest := []) ⟨hx, hb, hml, hown, hts⟩ (c_U_rounded l ad D cA h0 r0 hi md f9 rg false u8 u7) (cwU_rounded hts w_221 ⟨by decide, by decide⟩) hF hw hS rfl hl.1 rfl (Nat.le_of_ble_eq_true rfl) dU_sum_171 ⟨Nat.zero_le _, Nat.zero_le _⟩ (fun H locs hw hS => ?_)
          refine W.eq (g2 := F0 m 174 ls [.long ((C_U_rounded md f9 i false u8 u7).1)]) rfl ?_
          have he9 := (show ((C_U_rounded md f9 i false u8 u7).1, (C_U_rounded md f9 i false u8 u7).2) = C_U_sum_102 md f9 i u2 v6 u7 u8 from by rw [C_U_sum_102, if_neg h201, if_pos h202]).trans he
          exact hret _ _ _ _ _ _ _ _ (congrArg Prod.fst he9) rfl (congrArg Prod.snd he9) rfl hw hS dU_sum_174
        · exact absurd h202 (fun q => h203 ((lg_cmp_ge _ _).2 q))
      · skip
        have h202 : ¬ (0 ≤ u8) := fun q => h202 ((lg_cmp_ge _ _).2 q)
        refine lv_iconst (v := 1) (pc := 149) hx hb dU_sum_149 (by decide) ?_
        refine lv_goto (tgt := 154) (pc := 150) hx hb dU_sum_150 (by decide) ?_
        refine lv_lload (pc := 154) hx hb dU_sum_154 (lv_at hl 5 rfl) ?_
        refine lv_lconst (v := 0) (pc := 156) hx hb dU_sum_156 (by decide) ?_
        refine W.lcmp (pc := 157) hx hb dU_sum_157 ?_
        refine lv_if_ge (tgt := 167) (pc := 158) hx hb dU_sum_158 (by decide) (fun h204 => ?_) (fun h204 => ?_)
        · exact absurd ((lg_cmp_ge _ _).1 h204) h202
        · skip
          refine lv_lload (pc := 161) hx hb dU_sum_161 (lv_at hl 5 rfl) ?_
          refine lv_lneg (pc := 163) hx hb dU_sum_163 ?_
          refine lv_goto (tgt := 169) (pc := 164) hx hb dU_sum_164 (by decide) ?_
          refine lv_iload (pc := 169) hx hb dU_sum_169 (lv_at hl 4 rfl) ?_
          refine fu_V (pc := 171) (rest := []) ⟨hx, hb, hml, hown, hts⟩ (c_U_rounded l ad D cA h0 r0 hi md f9 rg true (-u8) u7) (cwU_rounded hts w_221 ⟨by decide, by decide⟩) hF hw hS rfl hl.1 rfl (Nat.le_of_ble_eq_true rfl) dU_sum_171 ⟨Nat.zero_le _, Nat.zero_le _⟩ (fun H locs hw hS => ?_)
          refine W.eq (g2 := F0 m 174 ls [.long ((C_U_rounded md f9 i true (-u8) u7).1)]) rfl ?_
          have he9 := (show ((C_U_rounded md f9 i true (-u8) u7).1, (C_U_rounded md f9 i true (-u8) u7).2) = C_U_sum_102 md f9 i u2 v6 u7 u8 from by rw [C_U_sum_102, if_neg h201, if_neg h202]).trans he
          exact hret _ _ _ _ _ _ _ _ (congrArg Prod.fst he9) rfl (congrArg Prod.snd he9) rfl hw hS dU_sum_174
    · skip
      have h201 : u8 = 0 := (lg_cmp_eq _ _).1 h201
      refine lv_aload_n (pc := 109) hx hb dU_sum_109 rfl (lv_at hl 1 rfl) ?_
      refine lv_iload (pc := 110) hx hb dU_sum_110 (lv_at hl 3 rfl) ?_
      refine lv_if_eq (tgt := 123) (pc := 112) hx hb dU_sum_112 (by decide) (fun h205 => ?_) (fun h205 => ?_)
      · skip
        have h205 : v6 = false := (bI_0 _).1 h205
        refine lv_aload_n (pc := 123) hx hb dU_sum_123 rfl (lv_at hl 0 rfl) ?_
        refine fu_md (pc := 124) hx hb hts hown hw w_19 dU_sum_124 ?_
        refine lv_iconst (v := 3) (pc := 127) hx hb dU_sum_127 (by decide) ?_
        refine lv_icmp_ne (tgt := 135) (pc := 128) hx hb dU_sum_128 (by decide) (fun h206 => ?_) (fun h206 => ?_)
        · skip
          refine lv_iconst (v := 0) (pc := 135) hx hb dU_sum_135 (by decide) ?_
          refine pu_V (pc := 136) (i := i) (rest := []) ⟨hx, hb, hml, hown, hts⟩ hi (c_F_zero l ad hi false) (cwF_zero hts w_213 ⟨by decide, by decide⟩) hF hS rfl hl.1 rfl (Nat.le_of_ble_eq_true rfl) dU_sum_136 ⟨Nat.zero_le _, Nat.zero_le _⟩ ?_
          have he9 := (show (C_F_zero i false, f9) = C_U_sum_102 md f9 i u2 v6 u7 u8 from by rw [C_U_sum_102, if_pos h201, if_pos h205, if_neg h206]).trans he
          exact hret _ _ _ _ _ _ _ _ (congrArg Prod.fst he9) rfl (congrArg Prod.snd he9) rfl hw hS dU_sum_139
        · skip
          refine lv_iconst (v := 1) (pc := 131) hx hb dU_sum_131 (by decide) ?_
          refine lv_goto (tgt := 136) (pc := 132) hx hb dU_sum_132 (by decide) ?_
          refine pu_V (pc := 136) (i := i) (rest := []) ⟨hx, hb, hml, hown, hts⟩ hi (c_F_zero l ad hi true) (cwF_zero hts w_213 ⟨by decide, by decide⟩) hF hS rfl hl.1 rfl (Nat.le_of_ble_eq_true rfl) dU_sum_136 ⟨Nat.zero_le _, Nat.zero_le _⟩ ?_
          have he9 := (show (C_F_zero i true, f9) = C_U_sum_102 md f9 i u2 v6 u7 u8 from by rw [C_U_sum_102, if_pos h201, if_pos h205, if_pos h206]).trans he
          exact hret _ _ _ _ _ _ _ _ (congrArg Prod.fst he9) rfl (congrArg Prod.snd he9) rfl hw hS dU_sum_139
      · skip
        have h205 : ¬ (v6 = false) := fun q => h205 ((bI_0 _).2 q)
        refine lv_aload_n (pc := 115) hx hb dU_sum_115 rfl (lv_at hl 1 rfl) ?_
        refine lv_lload_n (pc := 116) hx hb dU_sum_116 rfl (lv_at hl 2 rfl) ?_
        refine pu_V (pc := 117) (i := i) (rest := [.ref (ad i)]) ⟨hx, hb, hml, hown, hts⟩ hi (c_F_isMinus l ad hi u2) (cwF_isMinus hts w_164 ⟨by decide, by decide⟩) hF hS rfl hl.1 rfl (Nat.le_of_ble_eq_true rfl) dU_sum_117 ⟨Nat.zero_le _, Nat.zero_le _⟩ ?_
        refine lv_goto (tgt := 136) (pc := 120) hx hb dU_sum_120 (by decide) ?_
        refine pu_V (pc := 136) (i := i) (rest := []) ⟨hx, hb, hml, hown, hts⟩ hi (c_F_zero l ad hi (C_F_isMinus i u2)) (cwF_zero hts w_213 ⟨by decide, by decide⟩) hF hS rfl hl.1 rfl (Nat.le_of_ble_eq_true rfl) dU_sum_136 ⟨Nat.zero_le _, Nat.zero_le _⟩ ?_
        have he9 := (show (C_F_zero i (C_F_isMinus i u2), f9) = C_U_sum_102 md f9 i u2 v6 u7 u8 from by rw [C_U_sum_102, if_pos h201, if_neg h205]).trans he
        exact hret _ _ _ _ _ _ _ _ (congrArg Prod.fst he9) rfl (congrArg Prod.snd he9) rfl hw hS dU_sum_139
  have J19 : ∀ (f9 : Int32) (u2 : Int64) (u4 : Int64) (v6 : Bool) (ls : Array Slot) (H : Heap) (locs : List Loc), lv_has ls 10 [(0, .ref h0), (1, .ref (ad i)), (2, .long u2), (4, .long u4)] → FUw D cA h0 r0 md f9 rg s H → va_S (fA h0 r0) s.heap H locs → C_U_sum_19 md f9 i u2 u4 v6 = C_U_sum md fl i x2 x3 → W p l e rmU_sum s m args below meth c H locs 0 0 Q (F0 m 19 ls [.int (bI v6)]) := by
    intro f9 u2 u4 v6 ls H locs hl hw hS he
    refine lv_istore (lv' := [(6, .int (bI v6)), (0, .ref h0), (1, .ref (ad i)), (2, .long u2), (4, .long u4)]) (pc := 19) hx hb dU_sum_19 hl (by decide) rfl (fun ls hl => ?_)
    refine lv_aload_n (pc := 21) hx hb dU_sum_21 rfl (lv_at hl 2 rfl) ?_
    refine lv_lload_n (pc := 22) hx hb dU_sum_22 rfl (lv_at hl 3 rfl) ?_
    refine pu_V (pc := 23) (i := i) (rest := []) ⟨hx, hb, hml, hown, hts⟩ hi (c_F_isEndless l ad hi u2) (cwF_isEndless hts w_168 ⟨by decide, by decide⟩) hF hS rfl hl.1 rfl (Nat.le_of_ble_eq_true rfl) dU_sum_23 ⟨Nat.zero_le _, Nat.zero_le _⟩ ?_
    refine lv_if_eq (tgt := 53) (pc := 26) hx hb dU_sum_26 (by decide) (fun h101 => ?_) (fun h101 => ?_)
    · skip
      have h101 : (C_F_isEndless i u2) = false := (bI_0 _).1 h101
      refine lv_aload_n (pc := 53) hx hb dU_sum_53 rfl (lv_at hl 2 rfl) ?_
      refine lv_lload (pc := 54) hx hb dU_sum_54 (lv_at hl 4 rfl) ?_
      refine pu_V (pc := 56) (i := i) (rest := []) ⟨hx, hb, hml, hown, hts⟩ hi (c_F_isEndless l ad hi u4) (cwF_isEndless hts w_168 ⟨by decide, by decide⟩) hF hS rfl hl.1 rfl (Nat.le_of_ble_eq_true rfl) dU_sum_56 ⟨Nat.zero_le _, Nat.zero_le _⟩ ?_
      refine lv_if_eq (tgt := 65) (pc := 59) hx hb dU_sum_59 (by decide) (fun h102 => ?_) (fun h102 => ?_)
      · skip
        have h102 : (C_F_isEndless i u4) = false := (bI_0 _).1 h102
        refine lv_aload_n (pc := 65) hx hb dU_sum_65 rfl (lv_at hl 2 rfl) ?_
        refine lv_lload_n (pc := 66) hx hb dU_sum_66 rfl (lv_at hl 3 rfl) ?_
        refine pu_V (pc := 67) (i := i) (rest := []) ⟨hx, hb, hml, hown, hts⟩ hi (c_F_power l ad hi u2) (cwF_power hts w_180 ⟨by decide, by decide⟩) hF hS rfl hl.1 rfl (Nat.le_of_ble_eq_true rfl) dU_sum_67 ⟨Nat.zero_le _, Nat.zero_le _⟩ ?_
        refine lv_aload_n (pc := 70) hx hb dU_sum_70 rfl (lv_at hl 2 rfl) ?_
        refine lv_lload (pc := 71) hx hb dU_sum_71 (lv_at hl 4 rfl) ?_
        refine pu_V (pc := 73) (i := i) (rest := [.int (C_F_power i u2)]) ⟨hx, hb, hml, hown, hts⟩ hi (c_F_power l ad hi u4) (cwF_power hts w_180 ⟨by decide, by decide⟩) hF hS rfl hl.1 rfl (Nat.le_of_ble_eq_true rfl) dU_sum_73 ⟨Nat.zero_le _, Nat.zero_le _⟩ ?_
        refine va_mmax (pc := 76) hx hb (hml.trans hl.1.symm) hown (hts _ (List.mem_cons_of_mem _ w_202)) (hts _ (List.mem_cons_of_mem _ w_185)) (hts _ (List.mem_cons_of_mem _ w_9)) (hts _ (List.mem_cons_of_mem _ w_186)) (by decide) (Nat.le_of_ble_eq_true rfl) (Nat.zero_le _) (Nat.zero_le _) dU_sum_76 ?_
        refine lv_topi (fun v101 e101 => ?_)
        obtain rfl : v101 = jMax (C_F_power i u2) (C_F_power i u4) := e101
        refine lv_bipush (v := 9) (pc := 79) hx hb dU_sum_79 (by decide) ?_
        refine lv_isub (pc := 81) hx hb dU_sum_81 ?_
        refine lv_istore (lv' := [(7, .int ((jMax (C_F_power i u2) (C_F_power i u4)) - 9)), (6, .int (bI v6)), (0, .ref h0), (1, .ref (ad i)), (2, .long u2), (4, .long u4)]) (pc := 82) hx hb dU_sum_82 hl (by decide) rfl (fun ls hl => ?_)
        refine lv_aload_n (pc := 84) hx hb dU_sum_84 rfl (lv_at hl 3 rfl) ?_
        refine lv_lload_n (pc := 85) hx hb dU_sum_85 rfl (lv_at hl 4 rfl) ?_
        refine lv_iload (pc := 86) hx hb dU_sum_86 (lv_at hl 0 rfl) ?_
        refine pu_S (pc := 88) (rest := []) ⟨hx, hb, hml, hown, hts⟩ (c_U_term l ad hi u2 ((jMax (C_F_power i u2) (C_F_power i u4)) - 9)) (cwU_term hts w_203 ⟨by decide, by decide⟩) hF hS rfl hl.1 rfl (Nat.le_of_ble_eq_true rfl) dU_sum_88 ⟨Nat.zero_le _, Nat.zero_le _⟩ ?_
        refine lv_aload_n (pc := 91) hx hb dU_sum_91 rfl (lv_at hl 3 rfl) ?_
        refine lv_lload (pc := 92) hx hb dU_sum_92 (lv_at hl 5 rfl) ?_
        refine lv_iload (pc := 94) hx hb dU_sum_94 (lv_at hl 0 rfl) ?_
        refine pu_S (pc := 96) (rest := [.long (C_U_term i u2 ((jMax (C_F_power i u2) (C_F_power i u4)) - 9))]) ⟨hx, hb, hml, hown, hts⟩ (c_U_term l ad hi u4 ((jMax (C_F_power i u2) (C_F_power i u4)) - 9)) (cwU_term hts w_203 ⟨by decide, by decide⟩) hF hS rfl hl.1 rfl (Nat.le_of_ble_eq_true rfl) dU_sum_96 ⟨Nat.zero_le _, Nat.zero_le _⟩ ?_
        refine lv_ladd (pc := 99) hx hb dU_sum_99 ?_
        refine lv_lstore (lv' := [(8, .long ((C_U_term i u2 ((jMax (C_F_power i u2) (C_F_power i u4)) - 9)) + (C_U_term i u4 ((jMax (C_F_power i u2) (C_F_power i u4)) - 9)))), (7, .int ((jMax (C_F_power i u2) (C_F_power i u4)) - 9)), (6, .int (bI v6)), (0, .ref h0), (1, .ref (ad i)), (2, .long u2), (4, .long u4)]) (pc := 100) hx hb dU_sum_100 hl (by decide) rfl (fun ls hl => ?_)
        exact J102 f9 u2 v6 ((jMax (C_F_power i u2) (C_F_power i u4)) - 9) ((C_U_term i u2 ((jMax (C_F_power i u2) (C_F_power i u4)) - 9)) + (C_U_term i u4 ((jMax (C_F_power i u2) (C_F_power i u4)) - 9))) ls _ _ (lv_sub hl [3, 4, 5, 2, 1, 0] rfl) hw hS ((show C_U_sum_102 md f9 i u2 v6 ((jMax (C_F_power i u2) (C_F_power i u4)) - 9) ((C_U_term i u2 ((jMax (C_F_power i u2) (C_F_power i u4)) - 9)) + (C_U_term i u4 ((jMax (C_F_power i u2) (C_F_power i u4)) - 9))) = C_U_sum_19 md f9 i u2 u4 v6 from by rw [C_U_sum_19, if_pos h101, if_pos h102]).trans he)
      · skip
        have h102 : ¬ ((C_F_isEndless i u4) = false) := fun q => h102 ((bI_0 _).2 q)
        refine lv_lload (pc := 62) hx hb dU_sum_62 (lv_at hl 4 rfl) ?_
        have he9 := (show (u4, f9) = C_U_sum_19 md f9 i u2 u4 v6 from by rw [C_U_sum_19, if_pos h101, if_neg h102]).trans he
        exact hret _ _ _ _ _ _ _ _ (congrArg Prod.fst he9) rfl (congrArg Prod.snd he9) rfl hw hS dU_sum_64
    · skip
      have h101 : ¬ ((C_F_isEndless i u2) = false) := fun q => h101 ((bI_0 _).2 q)
      refine lv_aload_n (pc := 29) hx hb dU_sum_29 rfl (lv_at hl 2 rfl) ?_
      refine lv_lload (pc := 30) hx hb dU_sum_30 (lv_at hl 4 rfl) ?_
      refine pu_V (pc := 32) (i := i) (rest := []) ⟨hx, hb, hml, hown, hts⟩ hi (c_F_isEndless l ad hi u4) (cwF_isEndless hts w_168 ⟨by decide, by decide⟩) hF hS rfl hl.1 rfl (Nat.le_of_ble_eq_true rfl) dU_sum_32 ⟨Nat.zero_le _, Nat.zero_le _⟩ ?_
      refine lv_if_eq (tgt := 51) (pc := 35) hx hb dU_sum_35 (by decide) (fun h103 => ?_) (fun h103 => ?_)
      · skip
        have h103 : (C_F_isEndless i u4) = false := (bI_0 _).1 h103
        refine lv_lload_n (pc := 51) hx hb dU_sum_51 rfl (lv_at hl 3 rfl) ?_
        have he9 := (show (u2, f9) = C_U_sum_19 md f9 i u2 u4 v6 from by rw [C_U_sum_19, if_neg h101, if_pos h103]).trans he
        exact hret _ _ _ _ _ _ _ _ (congrArg Prod.fst he9) rfl (congrArg Prod.snd he9) rfl hw hS dU_sum_52
      · skip
        have h103 : ¬ ((C_F_isEndless i u4) = false) := fun q => h103 ((bI_0 _).2 q)
        refine lv_iload (pc := 38) hx hb dU_sum_38 (lv_at hl 0 rfl) ?_
        refine lv_if_ne (tgt := 51) (pc := 40) hx hb dU_sum_40 (by decide) (fun h104 => ?_) (fun h104 => ?_)
        · skip
          have h104 : ¬ (v6 = false) := fun q => h104 ((bI_0 _).2 q)
          refine lv_lload_n (pc := 51) hx hb dU_sum_51 rfl (lv_at hl 3 rfl) ?_
          have he9 := (show (u2, f9) = C_U_sum_19 md f9 i u2 u4 v6 from by rw [C_U_sum_19, if_neg h101, if_neg h103, if_neg h104]).trans he
          exact hret _ _ _ _ _ _ _ _ (congrArg Prod.fst he9) rfl (congrArg Prod.snd he9) rfl hw hS dU_sum_52
        · skip
          have h104 : v6 = false := (bI_0 _).1 h104
          refine lv_aload_n (pc := 43) hx hb dU_sum_43 rfl (lv_at hl 1 rfl) ?_
          refine lv_aload_n (pc := 44) hx hb dU_sum_44 rfl (lv_at hl 2 rfl) ?_
          refine fu_V (pc := 45) (rest := []) ⟨hx, hb, hml, hown, hts⟩ (c_U_invalid l ad D cA h0 r0 hi md f9 rg ) (cwU_invalid hts w_172 ⟨by decide, by decide⟩) hF hw hS rfl hl.1 rfl (Nat.le_of_ble_eq_true rfl) dU_sum_45 ⟨Nat.zero_le _, Nat.zero_le _⟩ (fun H locs hw hS => ?_)
          refine W.eq (g2 := F0 m 48 ls [.long ((C_U_invalid md f9 i).1)]) rfl ?_
          refine lv_goto (tgt := 52) (pc := 48) hx hb dU_sum_48 (by decide) ?_
          have he9 := (show ((C_U_invalid md f9 i).1, (C_U_invalid md f9 i).2) = C_U_sum_19 md f9 i u2 u4 v6 from by rw [C_U_sum_19, if_neg h101, if_neg h103, if_pos h104]).trans he
          exact hret _ _ _ _ _ _ _ _ (congrArg Prod.fst he9) rfl (congrArg Prod.snd he9) rfl hw hS dU_sum_52
  refine lv_aload_n (pc := 0) hx hb dU_sum_0 rfl (lv_at hl 1 rfl) ?_
  refine lv_lload_n (pc := 1) hx hb dU_sum_1 rfl (lv_at hl 2 rfl) ?_
  refine pu_V (pc := 2) (i := i) (rest := []) ⟨hx, hb, hml, hown, hts⟩ hi (c_F_isMinus l ad hi x2) (cwF_isMinus hts w_164 ⟨by decide, by decide⟩) hF hS rfl hl.1 rfl (Nat.le_of_ble_eq_true rfl) dU_sum_2 ⟨Nat.zero_le _, Nat.zero_le _⟩ ?_
  refine lv_aload_n (pc := 5) hx hb dU_sum_5 rfl (lv_at hl 1 rfl) ?_
  refine lv_lload (pc := 6) hx hb dU_sum_6 (lv_at hl 3 rfl) ?_
  refine pu_V (pc := 8) (i := i) (rest := [.int (bI (C_F_isMinus i x2))]) ⟨hx, hb, hml, hown, hts⟩ hi (c_F_isMinus l ad hi x3) (cwF_isMinus hts w_164 ⟨by decide, by decide⟩) hF hS rfl hl.1 rfl (Nat.le_of_ble_eq_true rfl) dU_sum_8 ⟨Nat.zero_le _, Nat.zero_le _⟩ ?_
  refine lv_icmp_ne (tgt := 18) (pc := 11) hx hb dU_sum_11 (by decide) (fun h1 => ?_) (fun h1 => ?_)
  · skip
    refine lv_iconst (v := 0) (pc := 18) hx hb dU_sum_18 (by decide) ?_
    exact J19 fl x2 x3 false ls _ _ (lv_sub hl [0, 1, 2, 3] rfl) hw hS ((show C_U_sum_19 md fl i x2 x3 false = C_U_sum md fl i x2 x3 from by rw [C_U_sum, if_neg h1]))
  · skip
    refine lv_iconst (v := 1) (pc := 14) hx hb dU_sum_14 (by decide) ?_
    refine lv_goto (tgt := 19) (pc := 15) hx hb dU_sum_15 (by decide) ?_
    exact J19 fl x2 x3 true ls _ _ (lv_sub hl [0, 1, 2, 3] rfl) hw hS ((show C_U_sum_19 md fl i x2 x3 true = C_U_sum md fl i x2 x3 from by rw [C_U_sum, if_pos h1]))
def C_U_product_43 (md f9 : Int32) (i : Nat) (u2 : Int64) (u4 : Int64) (v6 : Bool) (v7 : Bool) : Int64 × Int32 :=
  if (C_F_isEndless i u2) = false then
    if (C_F_isEndless i u4) = false then
      if v7 = false then
        ((C_U_rounded md f9 i v6 (C_U_upperProduct (jShl (C_F_significand i u2) 10) (jShl (C_F_significand i u4) 10)) ((((C_F_power i u2) + (C_F_power i u4)) - 20) + 64)).1, (C_U_rounded md f9 i v6 (C_U_upperProduct (jShl (C_F_significand i u2) 10) (jShl (C_F_significand i u4) 10)) ((((C_F_power i u2) + (C_F_power i u4)) - 20) + 64)).2)
      else
        (C_F_zero i v6, f9)
    else
      if v7 = false then
        (C_F_endless i v6, f9)
      else
        ((C_U_invalid md f9 i).1, (C_U_invalid md f9 i).2)
  else
    if v7 = false then
      (C_F_endless i v6, f9)
    else
      ((C_U_invalid md f9 i).1, (C_U_invalid md f9 i).2)
def C_U_product_19 (md f9 : Int32) (i : Nat) (u2 : Int64) (u4 : Int64) (v6 : Bool) : Int64 × Int32 :=
  if (C_F_isZero i u2) = false then
    if (C_F_isZero i u4) = false then
      C_U_product_43 md f9 i u2 u4 v6 false
    else
      C_U_product_43 md f9 i u2 u4 v6 true
  else
    C_U_product_43 md f9 i u2 u4 v6 true
def C_U_product (md : Int32) (fl : Int32) (i : Nat) (x2 : Int64) (x3 : Int64) : Int64 × Int32 :=
  if (bI (C_F_isMinus i x2)) = (bI (C_F_isMinus i x3)) then
    C_U_product_19 md fl i x2 x3 false
  else
    C_U_product_19 md fl i x2 x3 true
abbrev rmU_product : Room := { frames := 4, cells := 0, slots := 0, locals := 104 }
theorem cwU_product {R : Room} {s : State} {args : Array Value} {w0 : Cond} {own : String} {idx : Nat} (hts : ∀ w ∈ (w0 :: bigW), w.before args s = true) (hl : Cond.methodLink own idx yU_product ∈ bigW) (hR : rmU_product.frames + 1 ≤ R.frames ∧ 8 + (11 + 11) + rmU_product.locals ≤ R.locals) : CallW R s args own "FloatUnit" idx yU_product cU_product 11 (some .long) (wsM yU_product cU_product 11 (some .long)) rmU_product 0 0 3 :=
  cwV 3 hts (big_V hl w_250 sel_U_product w_1 w_251) rfl rfl rfl ⟨rfl, by decide, by decide, by decide +kernel⟩ hR
set_option maxRecDepth 100000 in
set_option maxHeartbeats 8000000 in
theorem c_U_product (l : Launch) (ad : Nat → Nat) (D : va_G) (cA : ClassId) (h0 r0 : Nat) {i : Nat} (hi : i < 2) (md fl : Int32) (rg : Nat → Int64) (x2 : Int64) (x3 : Int64) : FuM l ad D cA h0 r0 yU_product (wsM yU_product cU_product 11 (some .long)) rmU_product [.ref (ad i), .long x2, .long x3] md fl rg (some (.long ((C_U_product md fl i x2 x3).1))) md (C_U_product md fl i x2 x3).2 rg := by
  refine fu_ofL (cc := cU_product) (maxL := 11) (by decide) rfl (Nat.le_of_ble_eq_true rfl) ?_
  intro p e s m args below meth c Q hx hb hml hown hts hF H locs hS hw hret ls hl
  have hl : lv_has ls 11 [(0, .ref h0), (1, .ref (ad i)), (2, .long x2), (4, .long x3)] := hl
  have J43 : ∀ (f9 : Int32) (u2 : Int64) (u4 : Int64) (v6 : Bool) (v7 : Bool) (ls : Array Slot) (H : Heap) (locs : List Loc), lv_has ls 11 [(0, .ref h0), (1, .ref (ad i)), (2, .long u2), (4, .long u4), (6, .int (bI v6))] → FUw D cA h0 r0 md f9 rg s H → va_S (fA h0 r0) s.heap H locs → C_U_product_43 md f9 i u2 u4 v6 v7 = C_U_product md fl i x2 x3 → W p l e rmU_product s m args below meth c H locs 0 0 Q (F0 m 43 ls [.int (bI v7)]) := by
    intro f9 u2 u4 v6 v7 ls H locs hl hw hS he
    refine lv_istore (lv' := [(7, .int (bI v7)), (0, .ref h0), (1, .ref (ad i)), (2, .long u2), (4, .long u4), (6, .int (bI v6))]) (pc := 43) hx hb dU_product_43 hl (by decide) rfl (fun ls hl => ?_)
    refine lv_aload_n (pc := 45) hx hb dU_product_45 rfl (lv_at hl 2 rfl) ?_
    refine lv_lload_n (pc := 46) hx hb dU_product_46 rfl (lv_at hl 3 rfl) ?_
    refine pu_V (pc := 47) (i := i) (rest := []) ⟨hx, hb, hml, hown, hts⟩ hi (c_F_isEndless l ad hi u2) (cwF_isEndless hts w_168 ⟨by decide, by decide⟩) hF hS rfl hl.1 rfl (Nat.le_of_ble_eq_true rfl) dU_product_47 ⟨Nat.zero_le _, Nat.zero_le _⟩ ?_
    refine lv_if_ne (tgt := 62) (pc := 50) hx hb dU_product_50 (by decide) (fun h201 => ?_) (fun h201 => ?_)
    · skip
      have h201 : ¬ ((C_F_isEndless i u2) = false) := fun q => h201 ((bI_0 _).2 q)
      refine lv_iload (pc := 62) hx hb dU_product_62 (lv_at hl 0 rfl) ?_
      refine lv_if_eq (tgt := 75) (pc := 64) hx hb dU_product_64 (by decide) (fun h202 => ?_) (fun h202 => ?_)
      · skip
        have h202 : v7 = false := (bI_0 _).1 h202
        refine lv_aload_n (pc := 75) hx hb dU_product_75 rfl (lv_at hl 2 rfl) ?_
        refine lv_iload (pc := 76) hx hb dU_product_76 (lv_at hl 5 rfl) ?_
        refine pu_V (pc := 78) (i := i) (rest := []) ⟨hx, hb, hml, hown, hts⟩ hi (c_F_endless l ad hi v6) (cwF_endless hts w_234 ⟨by decide, by decide⟩) hF hS rfl hl.1 rfl (Nat.le_of_ble_eq_true rfl) dU_product_78 ⟨Nat.zero_le _, Nat.zero_le _⟩ ?_
        have he9 := (show (C_F_endless i v6, f9) = C_U_product_43 md f9 i u2 u4 v6 v7 from by rw [C_U_product_43, if_neg h201, if_pos h202]).trans he
        exact hret _ _ _ _ _ _ _ _ (congrArg Prod.fst he9) rfl (congrArg Prod.snd he9) rfl hw hS dU_product_81
      · skip
        have h202 : ¬ (v7 = false) := fun q => h202 ((bI_0 _).2 q)
        refine lv_aload_n (pc := 67) hx hb dU_product_67 rfl (lv_at hl 1 rfl) ?_
        refine lv_aload_n (pc := 68) hx hb dU_product_68 rfl (lv_at hl 2 rfl) ?_
        refine fu_V (pc := 69) (rest := []) ⟨hx, hb, hml, hown, hts⟩ (c_U_invalid l ad D cA h0 r0 hi md f9 rg ) (cwU_invalid hts w_172 ⟨by decide, by decide⟩) hF hw hS rfl hl.1 rfl (Nat.le_of_ble_eq_true rfl) dU_product_69 ⟨Nat.zero_le _, Nat.zero_le _⟩ (fun H locs hw hS => ?_)
        refine W.eq (g2 := F0 m 72 ls [.long ((C_U_invalid md f9 i).1)]) rfl ?_
        refine lv_goto (tgt := 81) (pc := 72) hx hb dU_product_72 (by decide) ?_
        have he9 := (show ((C_U_invalid md f9 i).1, (C_U_invalid md f9 i).2) = C_U_product_43 md f9 i u2 u4 v6 v7 from by rw [C_U_product_43, if_neg h201, if_neg h202]).trans he
        exact hret _ _ _ _ _ _ _ _ (congrArg Prod.fst he9) rfl (congrArg Prod.snd he9) rfl hw hS dU_product_81
    · skip
      have h201 : (C_F_isEndless i u2) = false := (bI_0 _).1 h201
      refine lv_aload_n (pc := 53) hx hb dU_product_53 rfl (lv_at hl 2 rfl) ?_
      refine lv_lload (pc := 54) hx hb dU_product_54 (lv_at hl 4 rfl) ?_
      refine pu_V (pc := 56) (i := i) (rest := []) ⟨hx, hb, hml, hown, hts⟩ hi (c_F_isEndless l ad hi u4) (cwF_isEndless hts w_168 ⟨by decide, by decide⟩) hF hS rfl hl.1 rfl (Nat.le_of_ble_eq_true rfl) dU_product_56 ⟨Nat.zero_le _, Nat.zero_le _⟩ ?_
      refine lv_if_eq (tgt := 82) (pc := 59) hx hb dU_product_59 (by decide) (fun h203 => ?_) (fun h203 => ?_)
      · skip
        have h203 : (C_F_isEndless i u4) = false := (bI_0 _).1 h203
        refine lv_iload (pc := 82) hx hb dU_product_82 (lv_at hl 0 rfl) ?_
        refine lv_if_eq (tgt := 94) (pc := 84) hx hb dU_product_84 (by decide) (fun h204 => ?_) (fun h204 => ?_)
        · skip
          have h204 : v7 = false := (bI_0 _).1 h204
          refine lv_aload_n (pc := 94) hx hb dU_product_94 rfl (lv_at hl 2 rfl) ?_
          refine lv_lload_n (pc := 95) hx hb dU_product_95 rfl (lv_at hl 3 rfl) ?_
          refine pu_V (pc := 96) (i := i) (rest := []) ⟨hx, hb, hml, hown, hts⟩ hi (c_F_significand l ad hi u2) (cwF_significand hts w_206 ⟨by decide, by decide⟩) hF hS rfl hl.1 rfl (Nat.le_of_ble_eq_true rfl) dU_product_96 ⟨Nat.zero_le _, Nat.zero_le _⟩ ?_
          refine lv_bipush (v := 10) (pc := 99) hx hb dU_product_99 (by decide) ?_
          refine lv_lshl (v := jShl (C_F_significand i u2) 10) (pc := 101) hx hb dU_product_101 rfl ?_
          refine lv_aload_n (pc := 102) hx hb dU_product_102 rfl (lv_at hl 2 rfl) ?_
          refine lv_lload (pc := 103) hx hb dU_product_103 (lv_at hl 4 rfl) ?_
          refine pu_V (pc := 105) (i := i) (rest := [.long (jShl (C_F_significand i u2) 10)]) ⟨hx, hb, hml, hown, hts⟩ hi (c_F_significand l ad hi u4) (cwF_significand hts w_206 ⟨by decide, by decide⟩) hF hS rfl hl.1 rfl (Nat.le_of_ble_eq_true rfl) dU_product_105 ⟨Nat.zero_le _, Nat.zero_le _⟩ ?_
          refine lv_bipush (v := 10) (pc := 108) hx hb dU_product_108 (by decide) ?_
          refine lv_lshl (v := jShl (C_F_significand i u4) 10) (pc := 110) hx hb dU_product_110 rfl ?_
          refine pu_S (pc := 111) (rest := []) ⟨hx, hb, hml, hown, hts⟩ (c_U_upperProduct l ad (jShl (C_F_significand i u2) 10) (jShl (C_F_significand i u4) 10)) (cwU_upperProduct hts w_256 ⟨by decide, by decide⟩) hF hS rfl hl.1 rfl (Nat.le_of_ble_eq_true rfl) dU_product_111 ⟨Nat.zero_le _, Nat.zero_le _⟩ ?_
          refine lv_lstore (lv' := [(8, .long (C_U_upperProduct (jShl (C_F_significand i u2) 10) (jShl (C_F_significand i u4) 10))), (7, .int (bI v7)), (0, .ref h0), (1, .ref (ad i)), (2, .long u2), (4, .long u4), (6, .int (bI v6))]) (pc := 114) hx hb dU_product_114 hl (by decide) rfl (fun ls hl => ?_)
          refine lv_aload_n (pc := 116) hx hb dU_product_116 rfl (lv_at hl 3 rfl) ?_
          refine lv_lload_n (pc := 117) hx hb dU_product_117 rfl (lv_at hl 4 rfl) ?_
          refine pu_V (pc := 118) (i := i) (rest := []) ⟨hx, hb, hml, hown, hts⟩ hi (c_F_power l ad hi u2) (cwF_power hts w_180 ⟨by decide, by decide⟩) hF hS rfl hl.1 rfl (Nat.le_of_ble_eq_true rfl) dU_product_118 ⟨Nat.zero_le _, Nat.zero_le _⟩ ?_
          refine lv_aload_n (pc := 121) hx hb dU_product_121 rfl (lv_at hl 3 rfl) ?_
          refine lv_lload (pc := 122) hx hb dU_product_122 (lv_at hl 5 rfl) ?_
          refine pu_V (pc := 124) (i := i) (rest := [.int (C_F_power i u2)]) ⟨hx, hb, hml, hown, hts⟩ hi (c_F_power l ad hi u4) (cwF_power hts w_180 ⟨by decide, by decide⟩) hF hS rfl hl.1 rfl (Nat.le_of_ble_eq_true rfl) dU_product_124 ⟨Nat.zero_le _, Nat.zero_le _⟩ ?_
          refine lv_iadd (pc := 127) hx hb dU_product_127 ?_
          refine lv_bipush (v := 20) (pc := 128) hx hb dU_product_128 (by decide) ?_
          refine lv_isub (pc := 130) hx hb dU_product_130 ?_
          refine lv_bipush (v := 64) (pc := 131) hx hb dU_product_131 (by decide) ?_
          refine lv_iadd (pc := 133) hx hb dU_product_133 ?_
          refine lv_istore (lv' := [(10, .int ((((C_F_power i u2) + (C_F_power i u4)) - 20) + 64)), (8, .long (C_U_upperProduct (jShl (C_F_significand i u2) 10) (jShl (C_F_significand i u4) 10))), (7, .int (bI v7)), (0, .ref h0), (1, .ref (ad i)), (2, .long u2), (4, .long u4), (6, .int (bI v6))]) (pc := 134) hx hb dU_product_134 hl (by decide) rfl (fun ls hl => ?_)
          refine lv_aload_n (pc := 136) hx hb dU_product_136 rfl (lv_at hl 3 rfl) ?_
          refine lv_aload_n (pc := 137) hx hb dU_product_137 rfl (lv_at hl 4 rfl) ?_
          refine lv_iload (pc := 138) hx hb dU_product_138 (lv_at hl 7 rfl) ?_
          refine lv_lload (pc := 140) hx hb dU_product_140 (lv_at hl 1 rfl) ?_
          refine lv_iload (pc := 142) hx hb dU_product_142 (lv_at hl 0 rfl) ?_
          refine fu_V (pc := 144) (rest := []) ⟨hx, hb, hml, hown, hts⟩ (c_U_rounded l ad D cA h0 r0 hi md f9 rg v6 (C_U_upperProduct (jShl (C_F_significand i u2) 10) (jShl (C_F_significand i u4) 10)) ((((C_F_power i u2) + (C_F_power i u4)) - 20) + 64)) (cwU_rounded hts w_221 ⟨by decide, by decide⟩) hF hw hS rfl hl.1 rfl (Nat.le_of_ble_eq_true rfl) dU_product_144 ⟨Nat.zero_le _, Nat.zero_le _⟩ (fun H locs hw hS => ?_)
          refine W.eq (g2 := F0 m 147 ls [.long ((C_U_rounded md f9 i v6 (C_U_upperProduct (jShl (C_F_significand i u2) 10) (jShl (C_F_significand i u4) 10)) ((((C_F_power i u2) + (C_F_power i u4)) - 20) + 64)).1)]) rfl ?_
          have he9 := (show ((C_U_rounded md f9 i v6 (C_U_upperProduct (jShl (C_F_significand i u2) 10) (jShl (C_F_significand i u4) 10)) ((((C_F_power i u2) + (C_F_power i u4)) - 20) + 64)).1, (C_U_rounded md f9 i v6 (C_U_upperProduct (jShl (C_F_significand i u2) 10) (jShl (C_F_significand i u4) 10)) ((((C_F_power i u2) + (C_F_power i u4)) - 20) + 64)).2) = C_U_product_43 md f9 i u2 u4 v6 v7 from by rw [C_U_product_43, if_pos h201, if_pos h203, if_pos h204]).trans he
          exact hret _ _ _ _ _ _ _ _ (congrArg Prod.fst he9) rfl (congrArg Prod.snd he9) rfl hw hS dU_product_147
        · skip
          have h204 : ¬ (v7 = false) := fun q => h204 ((bI_0 _).2 q)
          refine lv_aload_n (pc := 87) hx hb dU_product_87 rfl (lv_at hl 2 rfl) ?_
          refine lv_iload (pc := 88) hx hb dU_product_88 (lv_at hl 5 rfl) ?_
          refine pu_V (pc := 90) (i := i) (rest := []) ⟨hx, hb, hml, hown, hts⟩ hi (c_F_zero l ad hi v6) (cwF_zero hts w_213 ⟨by decide, by decide⟩) hF hS rfl hl.1 rfl (Nat.le_of_ble_eq_true rfl) dU_product_90 ⟨Nat.zero_le _, Nat.zero_le _⟩ ?_
          have he9 := (show (C_F_zero i v6, f9) = C_U_product_43 md f9 i u2 u4 v6 v7 from by rw [C_U_product_43, if_pos h201, if_pos h203, if_neg h204]).trans he
          exact hret _ _ _ _ _ _ _ _ (congrArg Prod.fst he9) rfl (congrArg Prod.snd he9) rfl hw hS dU_product_93
      · skip
        have h203 : ¬ ((C_F_isEndless i u4) = false) := fun q => h203 ((bI_0 _).2 q)
        refine lv_iload (pc := 62) hx hb dU_product_62 (lv_at hl 0 rfl) ?_
        refine lv_if_eq (tgt := 75) (pc := 64) hx hb dU_product_64 (by decide) (fun h205 => ?_) (fun h205 => ?_)
        · skip
          have h205 : v7 = false := (bI_0 _).1 h205
          refine lv_aload_n (pc := 75) hx hb dU_product_75 rfl (lv_at hl 2 rfl) ?_
          refine lv_iload (pc := 76) hx hb dU_product_76 (lv_at hl 5 rfl) ?_
          refine pu_V (pc := 78) (i := i) (rest := []) ⟨hx, hb, hml, hown, hts⟩ hi (c_F_endless l ad hi v6) (cwF_endless hts w_234 ⟨by decide, by decide⟩) hF hS rfl hl.1 rfl (Nat.le_of_ble_eq_true rfl) dU_product_78 ⟨Nat.zero_le _, Nat.zero_le _⟩ ?_
          have he9 := (show (C_F_endless i v6, f9) = C_U_product_43 md f9 i u2 u4 v6 v7 from by rw [C_U_product_43, if_pos h201, if_neg h203, if_pos h205]).trans he
          exact hret _ _ _ _ _ _ _ _ (congrArg Prod.fst he9) rfl (congrArg Prod.snd he9) rfl hw hS dU_product_81
        · skip
          have h205 : ¬ (v7 = false) := fun q => h205 ((bI_0 _).2 q)
          refine lv_aload_n (pc := 67) hx hb dU_product_67 rfl (lv_at hl 1 rfl) ?_
          refine lv_aload_n (pc := 68) hx hb dU_product_68 rfl (lv_at hl 2 rfl) ?_
          refine fu_V (pc := 69) (rest := []) ⟨hx, hb, hml, hown, hts⟩ (c_U_invalid l ad D cA h0 r0 hi md f9 rg ) (cwU_invalid hts w_172 ⟨by decide, by decide⟩) hF hw hS rfl hl.1 rfl (Nat.le_of_ble_eq_true rfl) dU_product_69 ⟨Nat.zero_le _, Nat.zero_le _⟩ (fun H locs hw hS => ?_)
          refine W.eq (g2 := F0 m 72 ls [.long ((C_U_invalid md f9 i).1)]) rfl ?_
          refine lv_goto (tgt := 81) (pc := 72) hx hb dU_product_72 (by decide) ?_
          have he9 := (show ((C_U_invalid md f9 i).1, (C_U_invalid md f9 i).2) = C_U_product_43 md f9 i u2 u4 v6 v7 from by rw [C_U_product_43, if_pos h201, if_neg h203, if_neg h205]).trans he
          exact hret _ _ _ _ _ _ _ _ (congrArg Prod.fst he9) rfl (congrArg Prod.snd he9) rfl hw hS dU_product_81
  have J19 : ∀ (f9 : Int32) (u2 : Int64) (u4 : Int64) (v6 : Bool) (ls : Array Slot) (H : Heap) (locs : List Loc), lv_has ls 11 [(0, .ref h0), (1, .ref (ad i)), (2, .long u2), (4, .long u4)] → FUw D cA h0 r0 md f9 rg s H → va_S (fA h0 r0) s.heap H locs → C_U_product_19 md f9 i u2 u4 v6 = C_U_product md fl i x2 x3 → W p l e rmU_product s m args below meth c H locs 0 0 Q (F0 m 19 ls [.int (bI v6)]) := by
    intro f9 u2 u4 v6 ls H locs hl hw hS he
    refine lv_istore (lv' := [(6, .int (bI v6)), (0, .ref h0), (1, .ref (ad i)), (2, .long u2), (4, .long u4)]) (pc := 19) hx hb dU_product_19 hl (by decide) rfl (fun ls hl => ?_)
    refine lv_aload_n (pc := 21) hx hb dU_product_21 rfl (lv_at hl 2 rfl) ?_
    refine lv_lload_n (pc := 22) hx hb dU_product_22 rfl (lv_at hl 3 rfl) ?_
    refine pu_V (pc := 23) (i := i) (rest := []) ⟨hx, hb, hml, hown, hts⟩ hi (c_F_isZero l ad hi u2) (cwF_isZero hts w_252 ⟨by decide, by decide⟩) hF hS rfl hl.1 rfl (Nat.le_of_ble_eq_true rfl) dU_product_23 ⟨Nat.zero_le _, Nat.zero_le _⟩ ?_
    refine lv_if_ne (tgt := 38) (pc := 26) hx hb dU_product_26 (by decide) (fun h101 => ?_) (fun h101 => ?_)
    · skip
      have h101 : ¬ ((C_F_isZero i u2) = false) := fun q => h101 ((bI_0 _).2 q)
      refine lv_iconst (v := 1) (pc := 38) hx hb dU_product_38 (by decide) ?_
      refine lv_goto (tgt := 43) (pc := 39) hx hb dU_product_39 (by decide) ?_
      exact J43 f9 u2 u4 v6 true ls _ _ (lv_sub hl [1, 2, 3, 4, 0] rfl) hw hS ((show C_U_product_43 md f9 i u2 u4 v6 true = C_U_product_19 md f9 i u2 u4 v6 from by rw [C_U_product_19, if_neg h101]).trans he)
    · skip
      have h101 : (C_F_isZero i u2) = false := (bI_0 _).1 h101
      refine lv_aload_n (pc := 29) hx hb dU_product_29 rfl (lv_at hl 2 rfl) ?_
      refine lv_lload (pc := 30) hx hb dU_product_30 (lv_at hl 4 rfl) ?_
      refine pu_V (pc := 32) (i := i) (rest := []) ⟨hx, hb, hml, hown, hts⟩ hi (c_F_isZero l ad hi u4) (cwF_isZero hts w_252 ⟨by decide, by decide⟩) hF hS rfl hl.1 rfl (Nat.le_of_ble_eq_true rfl) dU_product_32 ⟨Nat.zero_le _, Nat.zero_le _⟩ ?_
      refine lv_if_eq (tgt := 42) (pc := 35) hx hb dU_product_35 (by decide) (fun h102 => ?_) (fun h102 => ?_)
      · skip
        have h102 : (C_F_isZero i u4) = false := (bI_0 _).1 h102
        refine lv_iconst (v := 0) (pc := 42) hx hb dU_product_42 (by decide) ?_
        exact J43 f9 u2 u4 v6 false ls _ _ (lv_sub hl [1, 2, 3, 4, 0] rfl) hw hS ((show C_U_product_43 md f9 i u2 u4 v6 false = C_U_product_19 md f9 i u2 u4 v6 from by rw [C_U_product_19, if_pos h101, if_pos h102]).trans he)
      · skip
        have h102 : ¬ ((C_F_isZero i u4) = false) := fun q => h102 ((bI_0 _).2 q)
        refine lv_iconst (v := 1) (pc := 38) hx hb dU_product_38 (by decide) ?_
        refine lv_goto (tgt := 43) (pc := 39) hx hb dU_product_39 (by decide) ?_
        exact J43 f9 u2 u4 v6 true ls _ _ (lv_sub hl [1, 2, 3, 4, 0] rfl) hw hS ((show C_U_product_43 md f9 i u2 u4 v6 true = C_U_product_19 md f9 i u2 u4 v6 from by rw [C_U_product_19, if_pos h101, if_neg h102]).trans he)
  refine lv_aload_n (pc := 0) hx hb dU_product_0 rfl (lv_at hl 1 rfl) ?_
  refine lv_lload_n (pc := 1) hx hb dU_product_1 rfl (lv_at hl 2 rfl) ?_
  refine pu_V (pc := 2) (i := i) (rest := []) ⟨hx, hb, hml, hown, hts⟩ hi (c_F_isMinus l ad hi x2) (cwF_isMinus hts w_164 ⟨by decide, by decide⟩) hF hS rfl hl.1 rfl (Nat.le_of_ble_eq_true rfl) dU_product_2 ⟨Nat.zero_le _, Nat.zero_le _⟩ ?_
  refine lv_aload_n (pc := 5) hx hb dU_product_5 rfl (lv_at hl 1 rfl) ?_
  refine lv_lload (pc := 6) hx hb dU_product_6 (lv_at hl 3 rfl) ?_
  refine pu_V (pc := 8) (i := i) (rest := [.int (bI (C_F_isMinus i x2))]) ⟨hx, hb, hml, hown, hts⟩ hi (c_F_isMinus l ad hi x3) (cwF_isMinus hts w_164 ⟨by decide, by decide⟩) hF hS rfl hl.1 rfl (Nat.le_of_ble_eq_true rfl) dU_product_8 ⟨Nat.zero_le _, Nat.zero_le _⟩ ?_
  refine lv_icmp_eq (tgt := 18) (pc := 11) hx hb dU_product_11 (by decide) (fun h1 => ?_) (fun h1 => ?_)
  · skip
    refine lv_iconst (v := 0) (pc := 18) hx hb dU_product_18 (by decide) ?_
    exact J19 fl x2 x3 false ls _ _ (lv_sub hl [0, 1, 2, 3] rfl) hw hS ((show C_U_product_19 md fl i x2 x3 false = C_U_product md fl i x2 x3 from by rw [C_U_product, if_pos h1]))
  · skip
    refine lv_iconst (v := 1) (pc := 14) hx hb dU_product_14 (by decide) ?_
    refine lv_goto (tgt := 19) (pc := 15) hx hb dU_product_15 (by decide) ?_
    exact J19 fl x2 x3 true ls _ _ (lv_sub hl [0, 1, 2, 3] rfl) hw hS ((show C_U_product_19 md fl i x2 x3 true = C_U_product md fl i x2 x3 from by rw [C_U_product, if_neg h1]))
def C_U_quotient_146_6 (md f9 : Int32) (i : Nat) (v6 : Bool) (u7 : Int64) (u9 : Int64) (u11 : Int64) (u13 : Int32) : Int64 × Int32 :=
  if u9 = 0 then
    ((C_U_rounded md f9 i v6 u11 u13).1, (C_U_rounded md f9 i v6 u11 u13).2)
  else
    ((C_U_rounded md f9 i v6 (u11 ||| 1) u13).1, (C_U_rounded md f9 i v6 (u11 ||| 1) u13).2)
def C_U_quotient_146_5 (md f9 : Int32) (i : Nat) (v6 : Bool) (u7 : Int64) (u9 : Int64) (u11 : Int64) (u13 : Int32) : Int64 × Int32 :=
  C_U_quotient_146_6 md f9 i v6 u7 ((jShl u9 10) - (jShl u9 10) / u7 * u7) ((jShl u11 10) + ((jShl u9 10) / u7)) (u13 + (-10))
def C_U_quotient_146_4 (md f9 : Int32) (i : Nat) (v6 : Bool) (u7 : Int64) (u9 : Int64) (u11 : Int64) (u13 : Int32) : Int64 × Int32 :=
  C_U_quotient_146_5 md f9 i v6 u7 ((jShl u9 10) - (jShl u9 10) / u7 * u7) ((jShl u11 10) + ((jShl u9 10) / u7)) (u13 + (-10))
def C_U_quotient_146_3 (md f9 : Int32) (i : Nat) (v6 : Bool) (u7 : Int64) (u9 : Int64) (u11 : Int64) (u13 : Int32) : Int64 × Int32 :=
  C_U_quotient_146_4 md f9 i v6 u7 ((jShl u9 10) - (jShl u9 10) / u7 * u7) ((jShl u11 10) + ((jShl u9 10) / u7)) (u13 + (-10))
def C_U_quotient_146_2 (md f9 : Int32) (i : Nat) (v6 : Bool) (u7 : Int64) (u9 : Int64) (u11 : Int64) (u13 : Int32) : Int64 × Int32 :=
  C_U_quotient_146_3 md f9 i v6 u7 ((jShl u9 10) - (jShl u9 10) / u7 * u7) ((jShl u11 10) + ((jShl u9 10) / u7)) (u13 + (-10))
def C_U_quotient_146_1 (md f9 : Int32) (i : Nat) (v6 : Bool) (u7 : Int64) (u9 : Int64) (u11 : Int64) (u13 : Int32) : Int64 × Int32 :=
  C_U_quotient_146_2 md f9 i v6 u7 ((jShl u9 10) - (jShl u9 10) / u7 * u7) ((jShl u11 10) + ((jShl u9 10) / u7)) (u13 + (-10))
def C_U_quotient_146_0 (md f9 : Int32) (i : Nat) (v6 : Bool) (u7 : Int64) (u9 : Int64) (u11 : Int64) (u13 : Int32) : Int64 × Int32 :=
  C_U_quotient_146_1 md f9 i v6 u7 ((jShl u9 10) - (jShl u9 10) / u7 * u7) ((jShl u11 10) + ((jShl u9 10) / u7)) (u13 + (-10))
def C_U_quotient_19 (md f9 : Int32) (i : Nat) (u2 : Int64) (u4 : Int64) (v6 : Bool) : Int64 × Int32 :=
  if (C_F_isEndless i u2) = false then
    if (C_F_isEndless i u4) = false then
      if (C_F_significand i u4) = 0 then
        ((C_U_quotientByZero md f9 i u2 v6).1, (C_U_quotientByZero md f9 i u2 v6).2)
      else
        if (C_F_isZero i u2) = false then
          C_U_quotient_146_0 md f9 i v6 (C_F_significand i u4) ((C_F_significand i u2) - (C_F_significand i u2) / (C_F_significand i u4) * (C_F_significand i u4)) ((C_F_significand i u2) / (C_F_significand i u4)) ((C_F_power i u2) - (C_F_power i u4))
        else
          (C_F_zero i v6, f9)
    else
      (C_F_zero i v6, f9)
  else
    if (C_F_isEndless i u4) = false then
      (C_F_endless i v6, f9)
    else
      ((C_U_invalid md f9 i).1, (C_U_invalid md f9 i).2)
def C_U_quotient (md : Int32) (fl : Int32) (i : Nat) (x2 : Int64) (x3 : Int64) : Int64 × Int32 :=
  if (bI (C_F_isMinus i x2)) = (bI (C_F_isMinus i x3)) then
    C_U_quotient_19 md fl i x2 x3 false
  else
    C_U_quotient_19 md fl i x2 x3 true
abbrev rmU_quotient : Room := { frames := 4, cells := 0, slots := 0, locals := 104 }
theorem cwU_quotient {R : Room} {s : State} {args : Array Value} {w0 : Cond} {own : String} {idx : Nat} (hts : ∀ w ∈ (w0 :: bigW), w.before args s = true) (hl : Cond.methodLink own idx yU_quotient ∈ bigW) (hR : rmU_quotient.frames + 1 ≤ R.frames ∧ 8 + (15 + 11) + rmU_quotient.locals ≤ R.locals) : CallW R s args own "FloatUnit" idx yU_quotient cU_quotient 15 (some .long) (wsM yU_quotient cU_quotient 15 (some .long)) rmU_quotient 0 0 3 :=
  cwV 3 hts (big_V hl w_262 sel_U_quotient w_1 w_263) rfl rfl rfl ⟨rfl, by decide, by decide, by decide +kernel⟩ hR
set_option maxRecDepth 100000 in
set_option maxHeartbeats 8000000 in
theorem c_U_quotient (l : Launch) (ad : Nat → Nat) (D : va_G) (cA : ClassId) (h0 r0 : Nat) {i : Nat} (hi : i < 2) (md fl : Int32) (rg : Nat → Int64) (x2 : Int64) (x3 : Int64) : FuM l ad D cA h0 r0 yU_quotient (wsM yU_quotient cU_quotient 15 (some .long)) rmU_quotient [.ref (ad i), .long x2, .long x3] md fl rg (some (.long ((C_U_quotient md fl i x2 x3).1))) md (C_U_quotient md fl i x2 x3).2 rg := by
  refine fu_ofL (cc := cU_quotient) (maxL := 15) (by decide) rfl (Nat.le_of_ble_eq_true rfl) ?_
  intro p e s m args below meth c Q hx hb hml hown hts hF H locs hS hw hret ls hl
  have hl : lv_has ls 15 [(0, .ref h0), (1, .ref (ad i)), (2, .long x2), (4, .long x3)] := hl
  have J146_6 : ∀ (f9 : Int32) (v6 : Bool) (u7 : Int64) (u9 : Int64) (u11 : Int64) (u13 : Int32) (hz : ¬ u7 = 0) (ls : Array Slot) (H : Heap) (locs : List Loc), lv_has ls 15 [(0, .ref h0), (1, .ref (ad i)), (6, .int (bI v6)), (7, .long u7), (9, .long u9), (11, .long u11), (13, .int u13), (14, .int 6)] → FUw D cA h0 r0 md f9 rg s H → va_S (fA h0 r0) s.heap H locs → C_U_quotient_146_6 md f9 i v6 u7 u9 u11 u13 = C_U_quotient md fl i x2 x3 → W p l e rmU_quotient s m args below meth c H locs 0 0 Q (F0 m 146 ls []) := by
    intro f9 v6 u7 u9 u11 u13 hz ls H locs hl hw hS he
    refine lv_iload (pc := 146) hx hb dU_quotient_146 (lv_at hl 7 rfl) ?_
    refine lv_bipush (v := 6) (pc := 148) hx hb dU_quotient_148 (by decide) ?_
    refine lv_icmp_ge (tgt := 189) (pc := 150) hx hb dU_quotient_150 (by decide) (fun h801 => ?_) (fun h801 => ?_)
    · skip
      refine lv_aload_n (pc := 189) hx hb dU_quotient_189 rfl (lv_at hl 0 rfl) ?_
      refine lv_aload_n (pc := 190) hx hb dU_quotient_190 rfl (lv_at hl 1 rfl) ?_
      refine lv_iload (pc := 191) hx hb dU_quotient_191 (lv_at hl 2 rfl) ?_
      refine lv_lload (pc := 193) hx hb dU_quotient_193 (lv_at hl 4 rfl) ?_
      refine lv_lconst (v := 0) (pc := 195) hx hb dU_quotient_195 (by decide) ?_
      refine W.lcmp (pc := 196) hx hb dU_quotient_196 ?_
      refine lv_if_ne (tgt := 205) (pc := 197) hx hb dU_quotient_197 (by decide) (fun h802 => ?_) (fun h802 => ?_)
      · skip
        have h802 : ¬ (u9 = 0) := fun q => h802 ((lg_cmp_eq _ _).2 q)
        refine lv_lload (pc := 205) hx hb dU_quotient_205 (lv_at hl 5 rfl) ?_
        refine lv_lconst (v := 1) (pc := 207) hx hb dU_quotient_207 (by decide) ?_
        refine lv_lor (pc := 208) hx hb dU_quotient_208 ?_
        refine lv_iload (pc := 209) hx hb dU_quotient_209 (lv_at hl 6 rfl) ?_
        refine fu_V (pc := 211) (rest := []) ⟨hx, hb, hml, hown, hts⟩ (c_U_rounded l ad D cA h0 r0 hi md f9 rg v6 (u11 ||| 1) u13) (cwU_rounded hts w_221 ⟨by decide, by decide⟩) hF hw hS rfl hl.1 rfl (Nat.le_of_ble_eq_true rfl) dU_quotient_211 ⟨Nat.zero_le _, Nat.zero_le _⟩ (fun H locs hw hS => ?_)
        refine W.eq (g2 := F0 m 214 ls [.long ((C_U_rounded md f9 i v6 (u11 ||| 1) u13).1)]) rfl ?_
        have he9 := (show ((C_U_rounded md f9 i v6 (u11 ||| 1) u13).1, (C_U_rounded md f9 i v6 (u11 ||| 1) u13).2) = C_U_quotient_146_6 md f9 i v6 u7 u9 u11 u13 from by rw [C_U_quotient_146_6, if_neg h802]).trans he
        exact hret _ _ _ _ _ _ _ _ (congrArg Prod.fst he9) rfl (congrArg Prod.snd he9) rfl hw hS dU_quotient_214
      · skip
        have h802 : u9 = 0 := (lg_cmp_eq _ _).1 h802
        refine lv_lload (pc := 200) hx hb dU_quotient_200 (lv_at hl 5 rfl) ?_
        refine lv_goto (tgt := 209) (pc := 202) hx hb dU_quotient_202 (by decide) ?_
        refine lv_iload (pc := 209) hx hb dU_quotient_209 (lv_at hl 6 rfl) ?_
        refine fu_V (pc := 211) (rest := []) ⟨hx, hb, hml, hown, hts⟩ (c_U_rounded l ad D cA h0 r0 hi md f9 rg v6 u11 u13) (cwU_rounded hts w_221 ⟨by decide, by decide⟩) hF hw hS rfl hl.1 rfl (Nat.le_of_ble_eq_true rfl) dU_quotient_211 ⟨Nat.zero_le _, Nat.zero_le _⟩ (fun H locs hw hS => ?_)
        refine W.eq (g2 := F0 m 214 ls [.long ((C_U_rounded md f9 i v6 u11 u13).1)]) rfl ?_
        have he9 := (show ((C_U_rounded md f9 i v6 u11 u13).1, (C_U_rounded md f9 i v6 u11 u13).2) = C_U_quotient_146_6 md f9 i v6 u7 u9 u11 u13 from by rw [C_U_quotient_146_6, if_pos h802]).trans he
        exact hret _ _ _ _ _ _ _ _ (congrArg Prod.fst he9) rfl (congrArg Prod.snd he9) rfl hw hS dU_quotient_214
    · exact absurd h801 (by decide)
  have J146_5 : ∀ (f9 : Int32) (v6 : Bool) (u7 : Int64) (u9 : Int64) (u11 : Int64) (u13 : Int32) (hz : ¬ u7 = 0) (ls : Array Slot) (H : Heap) (locs : List Loc), lv_has ls 15 [(0, .ref h0), (1, .ref (ad i)), (6, .int (bI v6)), (7, .long u7), (9, .long u9), (11, .long u11), (13, .int u13), (14, .int 5)] → FUw D cA h0 r0 md f9 rg s H → va_S (fA h0 r0) s.heap H locs → C_U_quotient_146_5 md f9 i v6 u7 u9 u11 u13 = C_U_quotient md fl i x2 x3 → W p l e rmU_quotient s m args below meth c H locs 0 0 Q (F0 m 146 ls []) := by
    intro f9 v6 u7 u9 u11 u13 hz ls H locs hl hw hS he
    refine lv_iload (pc := 146) hx hb dU_quotient_146 (lv_at hl 7 rfl) ?_
    refine lv_bipush (v := 6) (pc := 148) hx hb dU_quotient_148 (by decide) ?_
    refine lv_icmp_ge (tgt := 189) (pc := 150) hx hb dU_quotient_150 (by decide) (fun h701 => ?_) (fun h701 => ?_)
    · exact absurd h701 (by decide)
    · skip
      refine lv_lload (pc := 153) hx hb dU_quotient_153 (lv_at hl 4 rfl) ?_
      refine lv_bipush (v := 10) (pc := 155) hx hb dU_quotient_155 (by decide) ?_
      refine lv_lshl (v := jShl u9 10) (pc := 157) hx hb dU_quotient_157 rfl ?_
      refine lv_lstore (lv' := [(9, .long (jShl u9 10)), (0, .ref h0), (1, .ref (ad i)), (6, .int (bI v6)), (7, .long u7), (11, .long u11), (13, .int u13), (14, .int 5)]) (pc := 158) hx hb dU_quotient_158 hl (by decide) rfl (fun ls hl => ?_)
      refine lv_lload (pc := 160) hx hb dU_quotient_160 (lv_at hl 5 rfl) ?_
      refine lv_bipush (v := 10) (pc := 162) hx hb dU_quotient_162 (by decide) ?_
      refine lv_lshl (v := jShl u11 10) (pc := 164) hx hb dU_quotient_164 rfl ?_
      refine lv_lload (pc := 165) hx hb dU_quotient_165 (lv_at hl 0 rfl) ?_
      refine lv_lload (pc := 167) hx hb dU_quotient_167 (lv_at hl 4 rfl) ?_
      refine lv_ldiv (pc := 169) hx hb dU_quotient_169 hz ?_
      refine lv_ladd (pc := 170) hx hb dU_quotient_170 ?_
      refine lv_lstore (lv' := [(11, .long ((jShl u11 10) + ((jShl u9 10) / u7))), (9, .long (jShl u9 10)), (0, .ref h0), (1, .ref (ad i)), (6, .int (bI v6)), (7, .long u7), (13, .int u13), (14, .int 5)]) (pc := 171) hx hb dU_quotient_171 hl (by decide) rfl (fun ls hl => ?_)
      refine lv_lload (pc := 173) hx hb dU_quotient_173 (lv_at hl 1 rfl) ?_
      refine lv_lload (pc := 175) hx hb dU_quotient_175 (lv_at hl 5 rfl) ?_
      refine lv_lrem (pc := 177) hx hb dU_quotient_177 hz ?_
      refine lv_lstore (lv' := [(9, .long ((jShl u9 10) - (jShl u9 10) / u7 * u7)), (11, .long ((jShl u11 10) + ((jShl u9 10) / u7))), (0, .ref h0), (1, .ref (ad i)), (6, .int (bI v6)), (7, .long u7), (13, .int u13), (14, .int 5)]) (pc := 178) hx hb dU_quotient_178 hl (by decide) rfl (fun ls hl => ?_)
      refine lv_iinc (k := 6) (v := u13 + (-10)) (lv' := [(13, .int (u13 + (-10))), (9, .long ((jShl u9 10) - (jShl u9 10) / u7 * u7)), (11, .long ((jShl u11 10) + ((jShl u9 10) / u7))), (0, .ref h0), (1, .ref (ad i)), (6, .int (bI v6)), (7, .long u7), (14, .int 5)]) (pc := 180) hx hb dU_quotient_180 hl rfl (by rfl) (by decide) rfl (fun ls hl => ?_)
      refine lv_iinc (k := 7) (v := 6) (lv' := [(14, .int 6), (13, .int (u13 + (-10))), (9, .long ((jShl u9 10) - (jShl u9 10) / u7 * u7)), (11, .long ((jShl u11 10) + ((jShl u9 10) / u7))), (0, .ref h0), (1, .ref (ad i)), (6, .int (bI v6)), (7, .long u7)]) (pc := 183) hx hb dU_quotient_183 hl rfl (by decide) (by decide) rfl (fun ls hl => ?_)
      refine lv_goto (tgt := 146) (pc := 186) hx hb dU_quotient_186 (by decide) ?_
      exact J146_6 f9 v6 u7 ((jShl u9 10) - (jShl u9 10) / u7 * u7) ((jShl u11 10) + ((jShl u9 10) / u7)) (u13 + (-10)) hz ls _ _ (lv_sub hl [4, 5, 6, 7, 2, 3, 1, 0] rfl) hw hS ((show C_U_quotient_146_6 md f9 i v6 u7 ((jShl u9 10) - (jShl u9 10) / u7 * u7) ((jShl u11 10) + ((jShl u9 10) / u7)) (u13 + (-10)) = C_U_quotient_146_5 md f9 i v6 u7 u9 u11 u13 from by rw [C_U_quotient_146_5]).trans he)
  have J146_4 : ∀ (f9 : Int32) (v6 : Bool) (u7 : Int64) (u9 : Int64) (u11 : Int64) (u13 : Int32) (hz : ¬ u7 = 0) (ls : Array Slot) (H : Heap) (locs : List Loc), lv_has ls 15 [(0, .ref h0), (1, .ref (ad i)), (6, .int (bI v6)), (7, .long u7), (9, .long u9), (11, .long u11), (13, .int u13), (14, .int 4)] → FUw D cA h0 r0 md f9 rg s H → va_S (fA h0 r0) s.heap H locs → C_U_quotient_146_4 md f9 i v6 u7 u9 u11 u13 = C_U_quotient md fl i x2 x3 → W p l e rmU_quotient s m args below meth c H locs 0 0 Q (F0 m 146 ls []) := by
    intro f9 v6 u7 u9 u11 u13 hz ls H locs hl hw hS he
    refine lv_iload (pc := 146) hx hb dU_quotient_146 (lv_at hl 7 rfl) ?_
    refine lv_bipush (v := 6) (pc := 148) hx hb dU_quotient_148 (by decide) ?_
    refine lv_icmp_ge (tgt := 189) (pc := 150) hx hb dU_quotient_150 (by decide) (fun h601 => ?_) (fun h601 => ?_)
    · exact absurd h601 (by decide)
    · skip
      refine lv_lload (pc := 153) hx hb dU_quotient_153 (lv_at hl 4 rfl) ?_
      refine lv_bipush (v := 10) (pc := 155) hx hb dU_quotient_155 (by decide) ?_
      refine lv_lshl (v := jShl u9 10) (pc := 157) hx hb dU_quotient_157 rfl ?_
      refine lv_lstore (lv' := [(9, .long (jShl u9 10)), (0, .ref h0), (1, .ref (ad i)), (6, .int (bI v6)), (7, .long u7), (11, .long u11), (13, .int u13), (14, .int 4)]) (pc := 158) hx hb dU_quotient_158 hl (by decide) rfl (fun ls hl => ?_)
      refine lv_lload (pc := 160) hx hb dU_quotient_160 (lv_at hl 5 rfl) ?_
      refine lv_bipush (v := 10) (pc := 162) hx hb dU_quotient_162 (by decide) ?_
      refine lv_lshl (v := jShl u11 10) (pc := 164) hx hb dU_quotient_164 rfl ?_
      refine lv_lload (pc := 165) hx hb dU_quotient_165 (lv_at hl 0 rfl) ?_
      refine lv_lload (pc := 167) hx hb dU_quotient_167 (lv_at hl 4 rfl) ?_
      refine lv_ldiv (pc := 169) hx hb dU_quotient_169 hz ?_
      refine lv_ladd (pc := 170) hx hb dU_quotient_170 ?_
      refine lv_lstore (lv' := [(11, .long ((jShl u11 10) + ((jShl u9 10) / u7))), (9, .long (jShl u9 10)), (0, .ref h0), (1, .ref (ad i)), (6, .int (bI v6)), (7, .long u7), (13, .int u13), (14, .int 4)]) (pc := 171) hx hb dU_quotient_171 hl (by decide) rfl (fun ls hl => ?_)
      refine lv_lload (pc := 173) hx hb dU_quotient_173 (lv_at hl 1 rfl) ?_
      refine lv_lload (pc := 175) hx hb dU_quotient_175 (lv_at hl 5 rfl) ?_
      refine lv_lrem (pc := 177) hx hb dU_quotient_177 hz ?_
      refine lv_lstore (lv' := [(9, .long ((jShl u9 10) - (jShl u9 10) / u7 * u7)), (11, .long ((jShl u11 10) + ((jShl u9 10) / u7))), (0, .ref h0), (1, .ref (ad i)), (6, .int (bI v6)), (7, .long u7), (13, .int u13), (14, .int 4)]) (pc := 178) hx hb dU_quotient_178 hl (by decide) rfl (fun ls hl => ?_)
      refine lv_iinc (k := 6) (v := u13 + (-10)) (lv' := [(13, .int (u13 + (-10))), (9, .long ((jShl u9 10) - (jShl u9 10) / u7 * u7)), (11, .long ((jShl u11 10) + ((jShl u9 10) / u7))), (0, .ref h0), (1, .ref (ad i)), (6, .int (bI v6)), (7, .long u7), (14, .int 4)]) (pc := 180) hx hb dU_quotient_180 hl rfl (by rfl) (by decide) rfl (fun ls hl => ?_)
      refine lv_iinc (k := 7) (v := 5) (lv' := [(14, .int 5), (13, .int (u13 + (-10))), (9, .long ((jShl u9 10) - (jShl u9 10) / u7 * u7)), (11, .long ((jShl u11 10) + ((jShl u9 10) / u7))), (0, .ref h0), (1, .ref (ad i)), (6, .int (bI v6)), (7, .long u7)]) (pc := 183) hx hb dU_quotient_183 hl rfl (by decide) (by decide) rfl (fun ls hl => ?_)
      refine lv_goto (tgt := 146) (pc := 186) hx hb dU_quotient_186 (by decide) ?_
      exact J146_5 f9 v6 u7 ((jShl u9 10) - (jShl u9 10) / u7 * u7) ((jShl u11 10) + ((jShl u9 10) / u7)) (u13 + (-10)) hz ls _ _ (lv_sub hl [4, 5, 6, 7, 2, 3, 1, 0] rfl) hw hS ((show C_U_quotient_146_5 md f9 i v6 u7 ((jShl u9 10) - (jShl u9 10) / u7 * u7) ((jShl u11 10) + ((jShl u9 10) / u7)) (u13 + (-10)) = C_U_quotient_146_4 md f9 i v6 u7 u9 u11 u13 from by rw [C_U_quotient_146_4]).trans he)
  have J146_3 : ∀ (f9 : Int32) (v6 : Bool) (u7 : Int64) (u9 : Int64) (u11 : Int64) (u13 : Int32) (hz : ¬ u7 = 0) (ls : Array Slot) (H : Heap) (locs : List Loc), lv_has ls 15 [(0, .ref h0), (1, .ref (ad i)), (6, .int (bI v6)), (7, .long u7), (9, .long u9), (11, .long u11), (13, .int u13), (14, .int 3)] → FUw D cA h0 r0 md f9 rg s H → va_S (fA h0 r0) s.heap H locs → C_U_quotient_146_3 md f9 i v6 u7 u9 u11 u13 = C_U_quotient md fl i x2 x3 → W p l e rmU_quotient s m args below meth c H locs 0 0 Q (F0 m 146 ls []) := by
    intro f9 v6 u7 u9 u11 u13 hz ls H locs hl hw hS he
    refine lv_iload (pc := 146) hx hb dU_quotient_146 (lv_at hl 7 rfl) ?_
    refine lv_bipush (v := 6) (pc := 148) hx hb dU_quotient_148 (by decide) ?_
    refine lv_icmp_ge (tgt := 189) (pc := 150) hx hb dU_quotient_150 (by decide) (fun h501 => ?_) (fun h501 => ?_)
    · exact absurd h501 (by decide)
    · skip
      refine lv_lload (pc := 153) hx hb dU_quotient_153 (lv_at hl 4 rfl) ?_
      refine lv_bipush (v := 10) (pc := 155) hx hb dU_quotient_155 (by decide) ?_
      refine lv_lshl (v := jShl u9 10) (pc := 157) hx hb dU_quotient_157 rfl ?_
      refine lv_lstore (lv' := [(9, .long (jShl u9 10)), (0, .ref h0), (1, .ref (ad i)), (6, .int (bI v6)), (7, .long u7), (11, .long u11), (13, .int u13), (14, .int 3)]) (pc := 158) hx hb dU_quotient_158 hl (by decide) rfl (fun ls hl => ?_)
      refine lv_lload (pc := 160) hx hb dU_quotient_160 (lv_at hl 5 rfl) ?_
      refine lv_bipush (v := 10) (pc := 162) hx hb dU_quotient_162 (by decide) ?_
      refine lv_lshl (v := jShl u11 10) (pc := 164) hx hb dU_quotient_164 rfl ?_
      refine lv_lload (pc := 165) hx hb dU_quotient_165 (lv_at hl 0 rfl) ?_
      refine lv_lload (pc := 167) hx hb dU_quotient_167 (lv_at hl 4 rfl) ?_
      refine lv_ldiv (pc := 169) hx hb dU_quotient_169 hz ?_
      refine lv_ladd (pc := 170) hx hb dU_quotient_170 ?_
      refine lv_lstore (lv' := [(11, .long ((jShl u11 10) + ((jShl u9 10) / u7))), (9, .long (jShl u9 10)), (0, .ref h0), (1, .ref (ad i)), (6, .int (bI v6)), (7, .long u7), (13, .int u13), (14, .int 3)]) (pc := 171) hx hb dU_quotient_171 hl (by decide) rfl (fun ls hl => ?_)
      refine lv_lload (pc := 173) hx hb dU_quotient_173 (lv_at hl 1 rfl) ?_
      refine lv_lload (pc := 175) hx hb dU_quotient_175 (lv_at hl 5 rfl) ?_
      refine lv_lrem (pc := 177) hx hb dU_quotient_177 hz ?_
      refine lv_lstore (lv' := [(9, .long ((jShl u9 10) - (jShl u9 10) / u7 * u7)), (11, .long ((jShl u11 10) + ((jShl u9 10) / u7))), (0, .ref h0), (1, .ref (ad i)), (6, .int (bI v6)), (7, .long u7), (13, .int u13), (14, .int 3)]) (pc := 178) hx hb dU_quotient_178 hl (by decide) rfl (fun ls hl => ?_)
      refine lv_iinc (k := 6) (v := u13 + (-10)) (lv' := [(13, .int (u13 + (-10))), (9, .long ((jShl u9 10) - (jShl u9 10) / u7 * u7)), (11, .long ((jShl u11 10) + ((jShl u9 10) / u7))), (0, .ref h0), (1, .ref (ad i)), (6, .int (bI v6)), (7, .long u7), (14, .int 3)]) (pc := 180) hx hb dU_quotient_180 hl rfl (by rfl) (by decide) rfl (fun ls hl => ?_)
      refine lv_iinc (k := 7) (v := 4) (lv' := [(14, .int 4), (13, .int (u13 + (-10))), (9, .long ((jShl u9 10) - (jShl u9 10) / u7 * u7)), (11, .long ((jShl u11 10) + ((jShl u9 10) / u7))), (0, .ref h0), (1, .ref (ad i)), (6, .int (bI v6)), (7, .long u7)]) (pc := 183) hx hb dU_quotient_183 hl rfl (by decide) (by decide) rfl (fun ls hl => ?_)
      refine lv_goto (tgt := 146) (pc := 186) hx hb dU_quotient_186 (by decide) ?_
      exact J146_4 f9 v6 u7 ((jShl u9 10) - (jShl u9 10) / u7 * u7) ((jShl u11 10) + ((jShl u9 10) / u7)) (u13 + (-10)) hz ls _ _ (lv_sub hl [4, 5, 6, 7, 2, 3, 1, 0] rfl) hw hS ((show C_U_quotient_146_4 md f9 i v6 u7 ((jShl u9 10) - (jShl u9 10) / u7 * u7) ((jShl u11 10) + ((jShl u9 10) / u7)) (u13 + (-10)) = C_U_quotient_146_3 md f9 i v6 u7 u9 u11 u13 from by rw [C_U_quotient_146_3]).trans he)
  have J146_2 : ∀ (f9 : Int32) (v6 : Bool) (u7 : Int64) (u9 : Int64) (u11 : Int64) (u13 : Int32) (hz : ¬ u7 = 0) (ls : Array Slot) (H : Heap) (locs : List Loc), lv_has ls 15 [(0, .ref h0), (1, .ref (ad i)), (6, .int (bI v6)), (7, .long u7), (9, .long u9), (11, .long u11), (13, .int u13), (14, .int 2)] → FUw D cA h0 r0 md f9 rg s H → va_S (fA h0 r0) s.heap H locs → C_U_quotient_146_2 md f9 i v6 u7 u9 u11 u13 = C_U_quotient md fl i x2 x3 → W p l e rmU_quotient s m args below meth c H locs 0 0 Q (F0 m 146 ls []) := by
    intro f9 v6 u7 u9 u11 u13 hz ls H locs hl hw hS he
    refine lv_iload (pc := 146) hx hb dU_quotient_146 (lv_at hl 7 rfl) ?_
    refine lv_bipush (v := 6) (pc := 148) hx hb dU_quotient_148 (by decide) ?_
    refine lv_icmp_ge (tgt := 189) (pc := 150) hx hb dU_quotient_150 (by decide) (fun h401 => ?_) (fun h401 => ?_)
    · exact absurd h401 (by decide)
    · skip
      refine lv_lload (pc := 153) hx hb dU_quotient_153 (lv_at hl 4 rfl) ?_
      refine lv_bipush (v := 10) (pc := 155) hx hb dU_quotient_155 (by decide) ?_
      refine lv_lshl (v := jShl u9 10) (pc := 157) hx hb dU_quotient_157 rfl ?_
      refine lv_lstore (lv' := [(9, .long (jShl u9 10)), (0, .ref h0), (1, .ref (ad i)), (6, .int (bI v6)), (7, .long u7), (11, .long u11), (13, .int u13), (14, .int 2)]) (pc := 158) hx hb dU_quotient_158 hl (by decide) rfl (fun ls hl => ?_)
      refine lv_lload (pc := 160) hx hb dU_quotient_160 (lv_at hl 5 rfl) ?_
      refine lv_bipush (v := 10) (pc := 162) hx hb dU_quotient_162 (by decide) ?_
      refine lv_lshl (v := jShl u11 10) (pc := 164) hx hb dU_quotient_164 rfl ?_
      refine lv_lload (pc := 165) hx hb dU_quotient_165 (lv_at hl 0 rfl) ?_
      refine lv_lload (pc := 167) hx hb dU_quotient_167 (lv_at hl 4 rfl) ?_
      refine lv_ldiv (pc := 169) hx hb dU_quotient_169 hz ?_
      refine lv_ladd (pc := 170) hx hb dU_quotient_170 ?_
      refine lv_lstore (lv' := [(11, .long ((jShl u11 10) + ((jShl u9 10) / u7))), (9, .long (jShl u9 10)), (0, .ref h0), (1, .ref (ad i)), (6, .int (bI v6)), (7, .long u7), (13, .int u13), (14, .int 2)]) (pc := 171) hx hb dU_quotient_171 hl (by decide) rfl (fun ls hl => ?_)
      refine lv_lload (pc := 173) hx hb dU_quotient_173 (lv_at hl 1 rfl) ?_
      refine lv_lload (pc := 175) hx hb dU_quotient_175 (lv_at hl 5 rfl) ?_
      refine lv_lrem (pc := 177) hx hb dU_quotient_177 hz ?_
      refine lv_lstore (lv' := [(9, .long ((jShl u9 10) - (jShl u9 10) / u7 * u7)), (11, .long ((jShl u11 10) + ((jShl u9 10) / u7))), (0, .ref h0), (1, .ref (ad i)), (6, .int (bI v6)), (7, .long u7), (13, .int u13), (14, .int 2)]) (pc := 178) hx hb dU_quotient_178 hl (by decide) rfl (fun ls hl => ?_)
      refine lv_iinc (k := 6) (v := u13 + (-10)) (lv' := [(13, .int (u13 + (-10))), (9, .long ((jShl u9 10) - (jShl u9 10) / u7 * u7)), (11, .long ((jShl u11 10) + ((jShl u9 10) / u7))), (0, .ref h0), (1, .ref (ad i)), (6, .int (bI v6)), (7, .long u7), (14, .int 2)]) (pc := 180) hx hb dU_quotient_180 hl rfl (by rfl) (by decide) rfl (fun ls hl => ?_)
      refine lv_iinc (k := 7) (v := 3) (lv' := [(14, .int 3), (13, .int (u13 + (-10))), (9, .long ((jShl u9 10) - (jShl u9 10) / u7 * u7)), (11, .long ((jShl u11 10) + ((jShl u9 10) / u7))), (0, .ref h0), (1, .ref (ad i)), (6, .int (bI v6)), (7, .long u7)]) (pc := 183) hx hb dU_quotient_183 hl rfl (by decide) (by decide) rfl (fun ls hl => ?_)
      refine lv_goto (tgt := 146) (pc := 186) hx hb dU_quotient_186 (by decide) ?_
      exact J146_3 f9 v6 u7 ((jShl u9 10) - (jShl u9 10) / u7 * u7) ((jShl u11 10) + ((jShl u9 10) / u7)) (u13 + (-10)) hz ls _ _ (lv_sub hl [4, 5, 6, 7, 2, 3, 1, 0] rfl) hw hS ((show C_U_quotient_146_3 md f9 i v6 u7 ((jShl u9 10) - (jShl u9 10) / u7 * u7) ((jShl u11 10) + ((jShl u9 10) / u7)) (u13 + (-10)) = C_U_quotient_146_2 md f9 i v6 u7 u9 u11 u13 from by rw [C_U_quotient_146_2]).trans he)
  have J146_1 : ∀ (f9 : Int32) (v6 : Bool) (u7 : Int64) (u9 : Int64) (u11 : Int64) (u13 : Int32) (hz : ¬ u7 = 0) (ls : Array Slot) (H : Heap) (locs : List Loc), lv_has ls 15 [(0, .ref h0), (1, .ref (ad i)), (6, .int (bI v6)), (7, .long u7), (9, .long u9), (11, .long u11), (13, .int u13), (14, .int 1)] → FUw D cA h0 r0 md f9 rg s H → va_S (fA h0 r0) s.heap H locs → C_U_quotient_146_1 md f9 i v6 u7 u9 u11 u13 = C_U_quotient md fl i x2 x3 → W p l e rmU_quotient s m args below meth c H locs 0 0 Q (F0 m 146 ls []) := by
    intro f9 v6 u7 u9 u11 u13 hz ls H locs hl hw hS he
    refine lv_iload (pc := 146) hx hb dU_quotient_146 (lv_at hl 7 rfl) ?_
    refine lv_bipush (v := 6) (pc := 148) hx hb dU_quotient_148 (by decide) ?_
    refine lv_icmp_ge (tgt := 189) (pc := 150) hx hb dU_quotient_150 (by decide) (fun h301 => ?_) (fun h301 => ?_)
    · exact absurd h301 (by decide)
    · skip
      refine lv_lload (pc := 153) hx hb dU_quotient_153 (lv_at hl 4 rfl) ?_
      refine lv_bipush (v := 10) (pc := 155) hx hb dU_quotient_155 (by decide) ?_
      refine lv_lshl (v := jShl u9 10) (pc := 157) hx hb dU_quotient_157 rfl ?_
      refine lv_lstore (lv' := [(9, .long (jShl u9 10)), (0, .ref h0), (1, .ref (ad i)), (6, .int (bI v6)), (7, .long u7), (11, .long u11), (13, .int u13), (14, .int 1)]) (pc := 158) hx hb dU_quotient_158 hl (by decide) rfl (fun ls hl => ?_)
      refine lv_lload (pc := 160) hx hb dU_quotient_160 (lv_at hl 5 rfl) ?_
      refine lv_bipush (v := 10) (pc := 162) hx hb dU_quotient_162 (by decide) ?_
      refine lv_lshl (v := jShl u11 10) (pc := 164) hx hb dU_quotient_164 rfl ?_
      refine lv_lload (pc := 165) hx hb dU_quotient_165 (lv_at hl 0 rfl) ?_
      refine lv_lload (pc := 167) hx hb dU_quotient_167 (lv_at hl 4 rfl) ?_
      refine lv_ldiv (pc := 169) hx hb dU_quotient_169 hz ?_
      refine lv_ladd (pc := 170) hx hb dU_quotient_170 ?_
      refine lv_lstore (lv' := [(11, .long ((jShl u11 10) + ((jShl u9 10) / u7))), (9, .long (jShl u9 10)), (0, .ref h0), (1, .ref (ad i)), (6, .int (bI v6)), (7, .long u7), (13, .int u13), (14, .int 1)]) (pc := 171) hx hb dU_quotient_171 hl (by decide) rfl (fun ls hl => ?_)
      refine lv_lload (pc := 173) hx hb dU_quotient_173 (lv_at hl 1 rfl) ?_
      refine lv_lload (pc := 175) hx hb dU_quotient_175 (lv_at hl 5 rfl) ?_
      refine lv_lrem (pc := 177) hx hb dU_quotient_177 hz ?_
      refine lv_lstore (lv' := [(9, .long ((jShl u9 10) - (jShl u9 10) / u7 * u7)), (11, .long ((jShl u11 10) + ((jShl u9 10) / u7))), (0, .ref h0), (1, .ref (ad i)), (6, .int (bI v6)), (7, .long u7), (13, .int u13), (14, .int 1)]) (pc := 178) hx hb dU_quotient_178 hl (by decide) rfl (fun ls hl => ?_)
      refine lv_iinc (k := 6) (v := u13 + (-10)) (lv' := [(13, .int (u13 + (-10))), (9, .long ((jShl u9 10) - (jShl u9 10) / u7 * u7)), (11, .long ((jShl u11 10) + ((jShl u9 10) / u7))), (0, .ref h0), (1, .ref (ad i)), (6, .int (bI v6)), (7, .long u7), (14, .int 1)]) (pc := 180) hx hb dU_quotient_180 hl rfl (by rfl) (by decide) rfl (fun ls hl => ?_)
      refine lv_iinc (k := 7) (v := 2) (lv' := [(14, .int 2), (13, .int (u13 + (-10))), (9, .long ((jShl u9 10) - (jShl u9 10) / u7 * u7)), (11, .long ((jShl u11 10) + ((jShl u9 10) / u7))), (0, .ref h0), (1, .ref (ad i)), (6, .int (bI v6)), (7, .long u7)]) (pc := 183) hx hb dU_quotient_183 hl rfl (by decide) (by decide) rfl (fun ls hl => ?_)
      refine lv_goto (tgt := 146) (pc := 186) hx hb dU_quotient_186 (by decide) ?_
      exact J146_2 f9 v6 u7 ((jShl u9 10) - (jShl u9 10) / u7 * u7) ((jShl u11 10) + ((jShl u9 10) / u7)) (u13 + (-10)) hz ls _ _ (lv_sub hl [4, 5, 6, 7, 2, 3, 1, 0] rfl) hw hS ((show C_U_quotient_146_2 md f9 i v6 u7 ((jShl u9 10) - (jShl u9 10) / u7 * u7) ((jShl u11 10) + ((jShl u9 10) / u7)) (u13 + (-10)) = C_U_quotient_146_1 md f9 i v6 u7 u9 u11 u13 from by rw [C_U_quotient_146_1]).trans he)
  have J146_0 : ∀ (f9 : Int32) (v6 : Bool) (u7 : Int64) (u9 : Int64) (u11 : Int64) (u13 : Int32) (hz : ¬ u7 = 0) (ls : Array Slot) (H : Heap) (locs : List Loc), lv_has ls 15 [(0, .ref h0), (1, .ref (ad i)), (6, .int (bI v6)), (7, .long u7), (9, .long u9), (11, .long u11), (13, .int u13), (14, .int 0)] → FUw D cA h0 r0 md f9 rg s H → va_S (fA h0 r0) s.heap H locs → C_U_quotient_146_0 md f9 i v6 u7 u9 u11 u13 = C_U_quotient md fl i x2 x3 → W p l e rmU_quotient s m args below meth c H locs 0 0 Q (F0 m 146 ls []) := by
    intro f9 v6 u7 u9 u11 u13 hz ls H locs hl hw hS he
    refine lv_iload (pc := 146) hx hb dU_quotient_146 (lv_at hl 7 rfl) ?_
    refine lv_bipush (v := 6) (pc := 148) hx hb dU_quotient_148 (by decide) ?_
    refine lv_icmp_ge (tgt := 189) (pc := 150) hx hb dU_quotient_150 (by decide) (fun h201 => ?_) (fun h201 => ?_)
    · exact absurd h201 (by decide)
    · skip
      refine lv_lload (pc := 153) hx hb dU_quotient_153 (lv_at hl 4 rfl) ?_
      refine lv_bipush (v := 10) (pc := 155) hx hb dU_quotient_155 (by decide) ?_
      refine lv_lshl (v := jShl u9 10) (pc := 157) hx hb dU_quotient_157 rfl ?_
      refine lv_lstore (lv' := [(9, .long (jShl u9 10)), (0, .ref h0), (1, .ref (ad i)), (6, .int (bI v6)), (7, .long u7), (11, .long u11), (13, .int u13), (14, .int 0)]) (pc := 158) hx hb dU_quotient_158 hl (by decide) rfl (fun ls hl => ?_)
      refine lv_lload (pc := 160) hx hb dU_quotient_160 (lv_at hl 5 rfl) ?_
      refine lv_bipush (v := 10) (pc := 162) hx hb dU_quotient_162 (by decide) ?_
      refine lv_lshl (v := jShl u11 10) (pc := 164) hx hb dU_quotient_164 rfl ?_
      refine lv_lload (pc := 165) hx hb dU_quotient_165 (lv_at hl 0 rfl) ?_
      refine lv_lload (pc := 167) hx hb dU_quotient_167 (lv_at hl 4 rfl) ?_
      refine lv_ldiv (pc := 169) hx hb dU_quotient_169 hz ?_
      refine lv_ladd (pc := 170) hx hb dU_quotient_170 ?_
      refine lv_lstore (lv' := [(11, .long ((jShl u11 10) + ((jShl u9 10) / u7))), (9, .long (jShl u9 10)), (0, .ref h0), (1, .ref (ad i)), (6, .int (bI v6)), (7, .long u7), (13, .int u13), (14, .int 0)]) (pc := 171) hx hb dU_quotient_171 hl (by decide) rfl (fun ls hl => ?_)
      refine lv_lload (pc := 173) hx hb dU_quotient_173 (lv_at hl 1 rfl) ?_
      refine lv_lload (pc := 175) hx hb dU_quotient_175 (lv_at hl 5 rfl) ?_
      refine lv_lrem (pc := 177) hx hb dU_quotient_177 hz ?_
      refine lv_lstore (lv' := [(9, .long ((jShl u9 10) - (jShl u9 10) / u7 * u7)), (11, .long ((jShl u11 10) + ((jShl u9 10) / u7))), (0, .ref h0), (1, .ref (ad i)), (6, .int (bI v6)), (7, .long u7), (13, .int u13), (14, .int 0)]) (pc := 178) hx hb dU_quotient_178 hl (by decide) rfl (fun ls hl => ?_)
      refine lv_iinc (k := 6) (v := u13 + (-10)) (lv' := [(13, .int (u13 + (-10))), (9, .long ((jShl u9 10) - (jShl u9 10) / u7 * u7)), (11, .long ((jShl u11 10) + ((jShl u9 10) / u7))), (0, .ref h0), (1, .ref (ad i)), (6, .int (bI v6)), (7, .long u7), (14, .int 0)]) (pc := 180) hx hb dU_quotient_180 hl rfl (by rfl) (by decide) rfl (fun ls hl => ?_)
      refine lv_iinc (k := 7) (v := 1) (lv' := [(14, .int 1), (13, .int (u13 + (-10))), (9, .long ((jShl u9 10) - (jShl u9 10) / u7 * u7)), (11, .long ((jShl u11 10) + ((jShl u9 10) / u7))), (0, .ref h0), (1, .ref (ad i)), (6, .int (bI v6)), (7, .long u7)]) (pc := 183) hx hb dU_quotient_183 hl rfl (by decide) (by decide) rfl (fun ls hl => ?_)
      refine lv_goto (tgt := 146) (pc := 186) hx hb dU_quotient_186 (by decide) ?_
      exact J146_1 f9 v6 u7 ((jShl u9 10) - (jShl u9 10) / u7 * u7) ((jShl u11 10) + ((jShl u9 10) / u7)) (u13 + (-10)) hz ls _ _ (lv_sub hl [4, 5, 6, 7, 2, 3, 1, 0] rfl) hw hS ((show C_U_quotient_146_1 md f9 i v6 u7 ((jShl u9 10) - (jShl u9 10) / u7 * u7) ((jShl u11 10) + ((jShl u9 10) / u7)) (u13 + (-10)) = C_U_quotient_146_0 md f9 i v6 u7 u9 u11 u13 from by rw [C_U_quotient_146_0]).trans he)
  have J19 : ∀ (f9 : Int32) (u2 : Int64) (u4 : Int64) (v6 : Bool) (ls : Array Slot) (H : Heap) (locs : List Loc), lv_has ls 15 [(0, .ref h0), (1, .ref (ad i)), (2, .long u2), (4, .long u4)] → FUw D cA h0 r0 md f9 rg s H → va_S (fA h0 r0) s.heap H locs → C_U_quotient_19 md f9 i u2 u4 v6 = C_U_quotient md fl i x2 x3 → W p l e rmU_quotient s m args below meth c H locs 0 0 Q (F0 m 19 ls [.int (bI v6)]) := by
    intro f9 u2 u4 v6 ls H locs hl hw hS he
    refine lv_istore (lv' := [(6, .int (bI v6)), (0, .ref h0), (1, .ref (ad i)), (2, .long u2), (4, .long u4)]) (pc := 19) hx hb dU_quotient_19 hl (by decide) rfl (fun ls hl => ?_)
    refine lv_aload_n (pc := 21) hx hb dU_quotient_21 rfl (lv_at hl 2 rfl) ?_
    refine lv_lload_n (pc := 22) hx hb dU_quotient_22 rfl (lv_at hl 3 rfl) ?_
    refine pu_V (pc := 23) (i := i) (rest := []) ⟨hx, hb, hml, hown, hts⟩ hi (c_F_isEndless l ad hi u2) (cwF_isEndless hts w_168 ⟨by decide, by decide⟩) hF hS rfl hl.1 rfl (Nat.le_of_ble_eq_true rfl) dU_quotient_23 ⟨Nat.zero_le _, Nat.zero_le _⟩ ?_
    refine lv_if_eq (tgt := 53) (pc := 26) hx hb dU_quotient_26 (by decide) (fun h101 => ?_) (fun h101 => ?_)
    · skip
      have h101 : (C_F_isEndless i u2) = false := (bI_0 _).1 h101
      refine lv_aload_n (pc := 53) hx hb dU_quotient_53 rfl (lv_at hl 2 rfl) ?_
      refine lv_lload (pc := 54) hx hb dU_quotient_54 (lv_at hl 4 rfl) ?_
      refine pu_V (pc := 56) (i := i) (rest := []) ⟨hx, hb, hml, hown, hts⟩ hi (c_F_isEndless l ad hi u4) (cwF_isEndless hts w_168 ⟨by decide, by decide⟩) hF hS rfl hl.1 rfl (Nat.le_of_ble_eq_true rfl) dU_quotient_56 ⟨Nat.zero_le _, Nat.zero_le _⟩ ?_
      refine lv_if_eq (tgt := 69) (pc := 59) hx hb dU_quotient_59 (by decide) (fun h102 => ?_) (fun h102 => ?_)
      · skip
        have h102 : (C_F_isEndless i u4) = false := (bI_0 _).1 h102
        refine lv_aload_n (pc := 69) hx hb dU_quotient_69 rfl (lv_at hl 2 rfl) ?_
        refine lv_lload (pc := 70) hx hb dU_quotient_70 (lv_at hl 4 rfl) ?_
        refine pu_V (pc := 72) (i := i) (rest := []) ⟨hx, hb, hml, hown, hts⟩ hi (c_F_significand l ad hi u4) (cwF_significand hts w_206 ⟨by decide, by decide⟩) hF hS rfl hl.1 rfl (Nat.le_of_ble_eq_true rfl) dU_quotient_72 ⟨Nat.zero_le _, Nat.zero_le _⟩ ?_
        refine lv_lstore (lv' := [(7, .long (C_F_significand i u4)), (6, .int (bI v6)), (0, .ref h0), (1, .ref (ad i)), (2, .long u2), (4, .long u4)]) (pc := 75) hx hb dU_quotient_75 hl (by decide) rfl (fun ls hl => ?_)
        refine lv_lload (pc := 77) hx hb dU_quotient_77 (lv_at hl 0 rfl) ?_
        refine lv_lconst (v := 0) (pc := 79) hx hb dU_quotient_79 (by decide) ?_
        refine W.lcmp (pc := 80) hx hb dU_quotient_80 ?_
        refine lv_if_ne (tgt := 93) (pc := 81) hx hb dU_quotient_81 (by decide) (fun h103 => ?_) (fun h103 => ?_)
        · skip
          have h103 : ¬ ((C_F_significand i u4) = 0) := fun q => h103 ((lg_cmp_eq _ _).2 q)
          refine lv_aload_n (pc := 93) hx hb dU_quotient_93 rfl (lv_at hl 3 rfl) ?_
          refine lv_lload_n (pc := 94) hx hb dU_quotient_94 rfl (lv_at hl 4 rfl) ?_
          refine pu_V (pc := 95) (i := i) (rest := []) ⟨hx, hb, hml, hown, hts⟩ hi (c_F_isZero l ad hi u2) (cwF_isZero hts w_252 ⟨by decide, by decide⟩) hF hS rfl hl.1 rfl (Nat.le_of_ble_eq_true rfl) dU_quotient_95 ⟨Nat.zero_le _, Nat.zero_le _⟩ ?_
          refine lv_if_eq (tgt := 108) (pc := 98) hx hb dU_quotient_98 (by decide) (fun h104 => ?_) (fun h104 => ?_)
          · skip
            have h104 : (C_F_isZero i u2) = false := (bI_0 _).1 h104
            refine lv_aload_n (pc := 108) hx hb dU_quotient_108 rfl (lv_at hl 3 rfl) ?_
            refine lv_lload_n (pc := 109) hx hb dU_quotient_109 rfl (lv_at hl 4 rfl) ?_
            refine pu_V (pc := 110) (i := i) (rest := []) ⟨hx, hb, hml, hown, hts⟩ hi (c_F_significand l ad hi u2) (cwF_significand hts w_206 ⟨by decide, by decide⟩) hF hS rfl hl.1 rfl (Nat.le_of_ble_eq_true rfl) dU_quotient_110 ⟨Nat.zero_le _, Nat.zero_le _⟩ ?_
            refine lv_lstore (lv' := [(9, .long (C_F_significand i u2)), (7, .long (C_F_significand i u4)), (6, .int (bI v6)), (0, .ref h0), (1, .ref (ad i)), (2, .long u2), (4, .long u4)]) (pc := 113) hx hb dU_quotient_113 hl (by decide) rfl (fun ls hl => ?_)
            refine lv_lload (pc := 115) hx hb dU_quotient_115 (lv_at hl 0 rfl) ?_
            refine lv_lload (pc := 117) hx hb dU_quotient_117 (lv_at hl 1 rfl) ?_
            refine lv_ldiv (pc := 119) hx hb dU_quotient_119 h103 ?_
            refine lv_lstore (lv' := [(11, .long ((C_F_significand i u2) / (C_F_significand i u4))), (9, .long (C_F_significand i u2)), (7, .long (C_F_significand i u4)), (6, .int (bI v6)), (0, .ref h0), (1, .ref (ad i)), (2, .long u2), (4, .long u4)]) (pc := 120) hx hb dU_quotient_120 hl (by decide) rfl (fun ls hl => ?_)
            refine lv_lload (pc := 122) hx hb dU_quotient_122 (lv_at hl 1 rfl) ?_
            refine lv_lload (pc := 124) hx hb dU_quotient_124 (lv_at hl 2 rfl) ?_
            refine lv_lrem (pc := 126) hx hb dU_quotient_126 h103 ?_
            refine lv_lstore (lv' := [(9, .long ((C_F_significand i u2) - (C_F_significand i u2) / (C_F_significand i u4) * (C_F_significand i u4))), (11, .long ((C_F_significand i u2) / (C_F_significand i u4))), (7, .long (C_F_significand i u4)), (6, .int (bI v6)), (0, .ref h0), (1, .ref (ad i)), (2, .long u2), (4, .long u4)]) (pc := 127) hx hb dU_quotient_127 hl (by decide) rfl (fun ls hl => ?_)
            refine lv_aload_n (pc := 129) hx hb dU_quotient_129 rfl (lv_at hl 5 rfl) ?_
            refine lv_lload_n (pc := 130) hx hb dU_quotient_130 rfl (lv_at hl 6 rfl) ?_
            refine pu_V (pc := 131) (i := i) (rest := []) ⟨hx, hb, hml, hown, hts⟩ hi (c_F_power l ad hi u2) (cwF_power hts w_180 ⟨by decide, by decide⟩) hF hS rfl hl.1 rfl (Nat.le_of_ble_eq_true rfl) dU_quotient_131 ⟨Nat.zero_le _, Nat.zero_le _⟩ ?_
            refine lv_aload_n (pc := 134) hx hb dU_quotient_134 rfl (lv_at hl 5 rfl) ?_
            refine lv_lload (pc := 135) hx hb dU_quotient_135 (lv_at hl 7 rfl) ?_
            refine pu_V (pc := 137) (i := i) (rest := [.int (C_F_power i u2)]) ⟨hx, hb, hml, hown, hts⟩ hi (c_F_power l ad hi u4) (cwF_power hts w_180 ⟨by decide, by decide⟩) hF hS rfl hl.1 rfl (Nat.le_of_ble_eq_true rfl) dU_quotient_137 ⟨Nat.zero_le _, Nat.zero_le _⟩ ?_
            refine lv_isub (pc := 140) hx hb dU_quotient_140 ?_
            refine lv_istore (lv' := [(13, .int ((C_F_power i u2) - (C_F_power i u4))), (9, .long ((C_F_significand i u2) - (C_F_significand i u2) / (C_F_significand i u4) * (C_F_significand i u4))), (11, .long ((C_F_significand i u2) / (C_F_significand i u4))), (7, .long (C_F_significand i u4)), (6, .int (bI v6)), (0, .ref h0), (1, .ref (ad i)), (2, .long u2), (4, .long u4)]) (pc := 141) hx hb dU_quotient_141 hl (by decide) rfl (fun ls hl => ?_)
            refine lv_iconst (v := 0) (pc := 143) hx hb dU_quotient_143 (by decide) ?_
            refine lv_istore (lv' := [(14, .int 0), (13, .int ((C_F_power i u2) - (C_F_power i u4))), (9, .long ((C_F_significand i u2) - (C_F_significand i u2) / (C_F_significand i u4) * (C_F_significand i u4))), (11, .long ((C_F_significand i u2) / (C_F_significand i u4))), (7, .long (C_F_significand i u4)), (6, .int (bI v6)), (0, .ref h0), (1, .ref (ad i)), (2, .long u2), (4, .long u4)]) (pc := 144) hx hb dU_quotient_144 hl (by decide) rfl (fun ls hl => ?_)
            exact J146_0 f9 v6 (C_F_significand i u4) ((C_F_significand i u2) - (C_F_significand i u2) / (C_F_significand i u4) * (C_F_significand i u4)) ((C_F_significand i u2) / (C_F_significand i u4)) ((C_F_power i u2) - (C_F_power i u4)) h103 ls _ _ (lv_sub hl [6, 7, 5, 4, 2, 3, 1, 0] rfl) hw hS ((show C_U_quotient_146_0 md f9 i v6 (C_F_significand i u4) ((C_F_significand i u2) - (C_F_significand i u2) / (C_F_significand i u4) * (C_F_significand i u4)) ((C_F_significand i u2) / (C_F_significand i u4)) ((C_F_power i u2) - (C_F_power i u4)) = C_U_quotient_19 md f9 i u2 u4 v6 from by rw [C_U_quotient_19, if_pos h101, if_pos h102, if_neg h103, if_pos h104]).trans he)
          · skip
            have h104 : ¬ ((C_F_isZero i u2) = false) := fun q => h104 ((bI_0 _).2 q)
            refine lv_aload_n (pc := 101) hx hb dU_quotient_101 rfl (lv_at hl 3 rfl) ?_
            refine lv_iload (pc := 102) hx hb dU_quotient_102 (lv_at hl 1 rfl) ?_
            refine pu_V (pc := 104) (i := i) (rest := []) ⟨hx, hb, hml, hown, hts⟩ hi (c_F_zero l ad hi v6) (cwF_zero hts w_213 ⟨by decide, by decide⟩) hF hS rfl hl.1 rfl (Nat.le_of_ble_eq_true rfl) dU_quotient_104 ⟨Nat.zero_le _, Nat.zero_le _⟩ ?_
            have he9 := (show (C_F_zero i v6, f9) = C_U_quotient_19 md f9 i u2 u4 v6 from by rw [C_U_quotient_19, if_pos h101, if_pos h102, if_neg h103, if_neg h104]).trans he
            exact hret _ _ _ _ _ _ _ _ (congrArg Prod.fst he9) rfl (congrArg Prod.snd he9) rfl hw hS dU_quotient_107
        · skip
          have h103 : (C_F_significand i u4) = 0 := (lg_cmp_eq _ _).1 h103
          refine lv_aload_n (pc := 84) hx hb dU_quotient_84 rfl (lv_at hl 2 rfl) ?_
          refine lv_aload_n (pc := 85) hx hb dU_quotient_85 rfl (lv_at hl 3 rfl) ?_
          refine lv_lload_n (pc := 86) hx hb dU_quotient_86 rfl (lv_at hl 4 rfl) ?_
          refine lv_iload (pc := 87) hx hb dU_quotient_87 (lv_at hl 1 rfl) ?_
          refine fu_V (pc := 89) (rest := []) ⟨hx, hb, hml, hown, hts⟩ (c_U_quotientByZero l ad D cA h0 r0 hi md f9 rg u2 v6) (cwU_quotientByZero hts w_264 ⟨by decide, by decide⟩) hF hw hS rfl hl.1 rfl (Nat.le_of_ble_eq_true rfl) dU_quotient_89 ⟨Nat.zero_le _, Nat.zero_le _⟩ (fun H locs hw hS => ?_)
          refine W.eq (g2 := F0 m 92 ls [.long ((C_U_quotientByZero md f9 i u2 v6).1)]) rfl ?_
          have he9 := (show ((C_U_quotientByZero md f9 i u2 v6).1, (C_U_quotientByZero md f9 i u2 v6).2) = C_U_quotient_19 md f9 i u2 u4 v6 from by rw [C_U_quotient_19, if_pos h101, if_pos h102, if_pos h103]).trans he
          exact hret _ _ _ _ _ _ _ _ (congrArg Prod.fst he9) rfl (congrArg Prod.snd he9) rfl hw hS dU_quotient_92
      · skip
        have h102 : ¬ ((C_F_isEndless i u4) = false) := fun q => h102 ((bI_0 _).2 q)
        refine lv_aload_n (pc := 62) hx hb dU_quotient_62 rfl (lv_at hl 2 rfl) ?_
        refine lv_iload (pc := 63) hx hb dU_quotient_63 (lv_at hl 0 rfl) ?_
        refine pu_V (pc := 65) (i := i) (rest := []) ⟨hx, hb, hml, hown, hts⟩ hi (c_F_zero l ad hi v6) (cwF_zero hts w_213 ⟨by decide, by decide⟩) hF hS rfl hl.1 rfl (Nat.le_of_ble_eq_true rfl) dU_quotient_65 ⟨Nat.zero_le _, Nat.zero_le _⟩ ?_
        have he9 := (show (C_F_zero i v6, f9) = C_U_quotient_19 md f9 i u2 u4 v6 from by rw [C_U_quotient_19, if_pos h101, if_neg h102]).trans he
        exact hret _ _ _ _ _ _ _ _ (congrArg Prod.fst he9) rfl (congrArg Prod.snd he9) rfl hw hS dU_quotient_68
    · skip
      have h101 : ¬ ((C_F_isEndless i u2) = false) := fun q => h101 ((bI_0 _).2 q)
      refine lv_aload_n (pc := 29) hx hb dU_quotient_29 rfl (lv_at hl 2 rfl) ?_
      refine lv_lload (pc := 30) hx hb dU_quotient_30 (lv_at hl 4 rfl) ?_
      refine pu_V (pc := 32) (i := i) (rest := []) ⟨hx, hb, hml, hown, hts⟩ hi (c_F_isEndless l ad hi u4) (cwF_isEndless hts w_168 ⟨by decide, by decide⟩) hF hS rfl hl.1 rfl (Nat.le_of_ble_eq_true rfl) dU_quotient_32 ⟨Nat.zero_le _, Nat.zero_le _⟩ ?_
      refine lv_if_eq (tgt := 46) (pc := 35) hx hb dU_quotient_35 (by decide) (fun h105 => ?_) (fun h105 => ?_)
      · skip
        have h105 : (C_F_isEndless i u4) = false := (bI_0 _).1 h105
        refine lv_aload_n (pc := 46) hx hb dU_quotient_46 rfl (lv_at hl 2 rfl) ?_
        refine lv_iload (pc := 47) hx hb dU_quotient_47 (lv_at hl 0 rfl) ?_
        refine pu_V (pc := 49) (i := i) (rest := []) ⟨hx, hb, hml, hown, hts⟩ hi (c_F_endless l ad hi v6) (cwF_endless hts w_234 ⟨by decide, by decide⟩) hF hS rfl hl.1 rfl (Nat.le_of_ble_eq_true rfl) dU_quotient_49 ⟨Nat.zero_le _, Nat.zero_le _⟩ ?_
        have he9 := (show (C_F_endless i v6, f9) = C_U_quotient_19 md f9 i u2 u4 v6 from by rw [C_U_quotient_19, if_neg h101, if_pos h105]).trans he
        exact hret _ _ _ _ _ _ _ _ (congrArg Prod.fst he9) rfl (congrArg Prod.snd he9) rfl hw hS dU_quotient_52
      · skip
        have h105 : ¬ ((C_F_isEndless i u4) = false) := fun q => h105 ((bI_0 _).2 q)
        refine lv_aload_n (pc := 38) hx hb dU_quotient_38 rfl (lv_at hl 1 rfl) ?_
        refine lv_aload_n (pc := 39) hx hb dU_quotient_39 rfl (lv_at hl 2 rfl) ?_
        refine fu_V (pc := 40) (rest := []) ⟨hx, hb, hml, hown, hts⟩ (c_U_invalid l ad D cA h0 r0 hi md f9 rg ) (cwU_invalid hts w_172 ⟨by decide, by decide⟩) hF hw hS rfl hl.1 rfl (Nat.le_of_ble_eq_true rfl) dU_quotient_40 ⟨Nat.zero_le _, Nat.zero_le _⟩ (fun H locs hw hS => ?_)
        refine W.eq (g2 := F0 m 43 ls [.long ((C_U_invalid md f9 i).1)]) rfl ?_
        refine lv_goto (tgt := 52) (pc := 43) hx hb dU_quotient_43 (by decide) ?_
        have he9 := (show ((C_U_invalid md f9 i).1, (C_U_invalid md f9 i).2) = C_U_quotient_19 md f9 i u2 u4 v6 from by rw [C_U_quotient_19, if_neg h101, if_neg h105]).trans he
        exact hret _ _ _ _ _ _ _ _ (congrArg Prod.fst he9) rfl (congrArg Prod.snd he9) rfl hw hS dU_quotient_52
  refine lv_aload_n (pc := 0) hx hb dU_quotient_0 rfl (lv_at hl 1 rfl) ?_
  refine lv_lload_n (pc := 1) hx hb dU_quotient_1 rfl (lv_at hl 2 rfl) ?_
  refine pu_V (pc := 2) (i := i) (rest := []) ⟨hx, hb, hml, hown, hts⟩ hi (c_F_isMinus l ad hi x2) (cwF_isMinus hts w_164 ⟨by decide, by decide⟩) hF hS rfl hl.1 rfl (Nat.le_of_ble_eq_true rfl) dU_quotient_2 ⟨Nat.zero_le _, Nat.zero_le _⟩ ?_
  refine lv_aload_n (pc := 5) hx hb dU_quotient_5 rfl (lv_at hl 1 rfl) ?_
  refine lv_lload (pc := 6) hx hb dU_quotient_6 (lv_at hl 3 rfl) ?_
  refine pu_V (pc := 8) (i := i) (rest := [.int (bI (C_F_isMinus i x2))]) ⟨hx, hb, hml, hown, hts⟩ hi (c_F_isMinus l ad hi x3) (cwF_isMinus hts w_164 ⟨by decide, by decide⟩) hF hS rfl hl.1 rfl (Nat.le_of_ble_eq_true rfl) dU_quotient_8 ⟨Nat.zero_le _, Nat.zero_le _⟩ ?_
  refine lv_icmp_eq (tgt := 18) (pc := 11) hx hb dU_quotient_11 (by decide) (fun h1 => ?_) (fun h1 => ?_)
  · skip
    refine lv_iconst (v := 0) (pc := 18) hx hb dU_quotient_18 (by decide) ?_
    exact J19 fl x2 x3 false ls _ _ (lv_sub hl [0, 1, 2, 3] rfl) hw hS ((show C_U_quotient_19 md fl i x2 x3 false = C_U_quotient md fl i x2 x3 from by rw [C_U_quotient, if_pos h1]))
  · skip
    refine lv_iconst (v := 1) (pc := 14) hx hb dU_quotient_14 (by decide) ?_
    refine lv_goto (tgt := 19) (pc := 15) hx hb dU_quotient_15 (by decide) ?_
    exact J19 fl x2 x3 true ls _ _ (lv_sub hl [0, 1, 2, 3] rfl) hw hS ((show C_U_quotient_19 md fl i x2 x3 true = C_U_quotient md fl i x2 x3 from by rw [C_U_quotient, if_neg h1]))
def C_U_turned (md : Int32) (fl : Int32) (i : Nat) (j : Nat) (x3 : Int64) : Int64 × Int32 :=
  if (C_F_isNone i x3) = false then
    if (C_F_isEndless i x3) = false then
      if (C_F_isZero i x3) = false then
        ((C_U_rounded md fl j (C_F_isMinus i x3) (C_F_significand i x3) (C_F_power i x3)).1, (C_U_rounded md fl j (C_F_isMinus i x3) (C_F_significand i x3) (C_F_power i x3)).2)
      else
        (C_F_zero j (C_F_isMinus i x3), fl)
    else
      (C_F_endless j (C_F_isMinus i x3), fl)
  else
    (C_F_none j, fl)
abbrev rmU_turned : Room := { frames := 4, cells := 0, slots := 0, locals := 104 }
theorem cwU_turned {R : Room} {s : State} {args : Array Value} {w0 : Cond} {own : String} {idx : Nat} (hts : ∀ w ∈ (w0 :: bigW), w.before args s = true) (hl : Cond.methodLink own idx yU_turned ∈ bigW) (hR : rmU_turned.frames + 1 ≤ R.frames ∧ 8 + (6 + 11) + rmU_turned.locals ≤ R.locals) : CallW R s args own "FloatUnit" idx yU_turned cU_turned 6 (some .long) (wsM yU_turned cU_turned 6 (some .long)) rmU_turned 0 0 3 :=
  cwV 3 hts (big_V hl w_327 sel_U_turned w_1 w_328) rfl rfl rfl ⟨rfl, by decide, by decide, by decide +kernel⟩ hR
set_option maxRecDepth 100000 in
set_option maxHeartbeats 8000000 in
theorem c_U_turned (l : Launch) (ad : Nat → Nat) (D : va_G) (cA : ClassId) (h0 r0 : Nat) {i : Nat} (hi : i < 2) {j : Nat} (hj : j < 2) (md fl : Int32) (rg : Nat → Int64) (x3 : Int64) : FuM l ad D cA h0 r0 yU_turned (wsM yU_turned cU_turned 6 (some .long)) rmU_turned [.ref (ad i), .ref (ad j), .long x3] md fl rg (some (.long ((C_U_turned md fl i j x3).1))) md (C_U_turned md fl i j x3).2 rg := by
  refine fu_ofL (cc := cU_turned) (maxL := 6) (by decide) rfl (Nat.le_of_ble_eq_true rfl) ?_
  intro p e s m args below meth c Q hx hb hml hown hts hF H locs hS hw hret ls hl
  have hl : lv_has ls 6 [(0, .ref h0), (1, .ref (ad i)), (2, .ref (ad j)), (3, .long x3)] := hl
  refine lv_aload_n (pc := 0) hx hb dU_turned_0 rfl (lv_at hl 1 rfl) ?_
  refine lv_lload_n (pc := 1) hx hb dU_turned_1 rfl (lv_at hl 3 rfl) ?_
  refine pu_V (pc := 2) (i := i) (rest := []) ⟨hx, hb, hml, hown, hts⟩ hi (c_F_isMinus l ad hi x3) (cwF_isMinus hts w_164 ⟨by decide, by decide⟩) hF hS rfl hl.1 rfl (Nat.le_of_ble_eq_true rfl) dU_turned_2 ⟨Nat.zero_le _, Nat.zero_le _⟩ ?_
  refine lv_istore (lv' := [(5, .int (bI (C_F_isMinus i x3))), (0, .ref h0), (1, .ref (ad i)), (2, .ref (ad j)), (3, .long x3)]) (pc := 5) hx hb dU_turned_5 hl (by decide) rfl (fun ls hl => ?_)
  refine lv_aload_n (pc := 7) hx hb dU_turned_7 rfl (lv_at hl 2 rfl) ?_
  refine lv_lload_n (pc := 8) hx hb dU_turned_8 rfl (lv_at hl 4 rfl) ?_
  refine pu_V (pc := 9) (i := i) (rest := []) ⟨hx, hb, hml, hown, hts⟩ hi (c_F_isNone l ad hi x3) (cwF_isNone hts w_148 ⟨by decide, by decide⟩) hF hS rfl hl.1 rfl (Nat.le_of_ble_eq_true rfl) dU_turned_9 ⟨Nat.zero_le _, Nat.zero_le _⟩ ?_
  refine lv_if_eq (tgt := 20) (pc := 12) hx hb dU_turned_12 (by decide) (fun h1 => ?_) (fun h1 => ?_)
  · skip
    have h1 : (C_F_isNone i x3) = false := (bI_0 _).1 h1
    refine lv_aload_n (pc := 20) hx hb dU_turned_20 rfl (lv_at hl 2 rfl) ?_
    refine lv_lload_n (pc := 21) hx hb dU_turned_21 rfl (lv_at hl 4 rfl) ?_
    refine pu_V (pc := 22) (i := i) (rest := []) ⟨hx, hb, hml, hown, hts⟩ hi (c_F_isEndless l ad hi x3) (cwF_isEndless hts w_168 ⟨by decide, by decide⟩) hF hS rfl hl.1 rfl (Nat.le_of_ble_eq_true rfl) dU_turned_22 ⟨Nat.zero_le _, Nat.zero_le _⟩ ?_
    refine lv_if_eq (tgt := 35) (pc := 25) hx hb dU_turned_25 (by decide) (fun h2 => ?_) (fun h2 => ?_)
    · skip
      have h2 : (C_F_isEndless i x3) = false := (bI_0 _).1 h2
      refine lv_aload_n (pc := 35) hx hb dU_turned_35 rfl (lv_at hl 2 rfl) ?_
      refine lv_lload_n (pc := 36) hx hb dU_turned_36 rfl (lv_at hl 4 rfl) ?_
      refine pu_V (pc := 37) (i := i) (rest := []) ⟨hx, hb, hml, hown, hts⟩ hi (c_F_isZero l ad hi x3) (cwF_isZero hts w_252 ⟨by decide, by decide⟩) hF hS rfl hl.1 rfl (Nat.le_of_ble_eq_true rfl) dU_turned_37 ⟨Nat.zero_le _, Nat.zero_le _⟩ ?_
      refine lv_if_eq (tgt := 50) (pc := 40) hx hb dU_turned_40 (by decide) (fun h3 => ?_) (fun h3 => ?_)
      · skip
        have h3 : (C_F_isZero i x3) = false := (bI_0 _).1 h3
        refine lv_aload_n (pc := 50) hx hb dU_turned_50 rfl (lv_at hl 1 rfl) ?_
        refine lv_aload_n (pc := 51) hx hb dU_turned_51 rfl (lv_at hl 3 rfl) ?_
        refine lv_iload (pc := 52) hx hb dU_turned_52 (lv_at hl 0 rfl) ?_
        refine lv_aload_n (pc := 54) hx hb dU_turned_54 rfl (lv_at hl 2 rfl) ?_
        refine lv_lload_n (pc := 55) hx hb dU_turned_55 rfl (lv_at hl 4 rfl) ?_
        refine pu_V (pc := 56) (i := i) (rest := [.int (bI (C_F_isMinus i x3)), .ref (ad j), .ref h0]) ⟨hx, hb, hml, hown, hts⟩ hi (c_F_significand l ad hi x3) (cwF_significand hts w_206 ⟨by decide, by decide⟩) hF hS rfl hl.1 rfl (Nat.le_of_ble_eq_true rfl) dU_turned_56 ⟨Nat.zero_le _, Nat.zero_le _⟩ ?_
        refine lv_aload_n (pc := 59) hx hb dU_turned_59 rfl (lv_at hl 2 rfl) ?_
        refine lv_lload_n (pc := 60) hx hb dU_turned_60 rfl (lv_at hl 4 rfl) ?_
        refine pu_V (pc := 61) (i := i) (rest := [.long (C_F_significand i x3), .int (bI (C_F_isMinus i x3)), .ref (ad j), .ref h0]) ⟨hx, hb, hml, hown, hts⟩ hi (c_F_power l ad hi x3) (cwF_power hts w_180 ⟨by decide, by decide⟩) hF hS rfl hl.1 rfl (Nat.le_of_ble_eq_true rfl) dU_turned_61 ⟨Nat.zero_le _, Nat.zero_le _⟩ ?_
        refine fu_V (pc := 64) (rest := []) ⟨hx, hb, hml, hown, hts⟩ (c_U_rounded l ad D cA h0 r0 hj md fl rg (C_F_isMinus i x3) (C_F_significand i x3) (C_F_power i x3)) (cwU_rounded hts w_221 ⟨by decide, by decide⟩) hF hw hS rfl hl.1 rfl (Nat.le_of_ble_eq_true rfl) dU_turned_64 ⟨Nat.zero_le _, Nat.zero_le _⟩ (fun H locs hw hS => ?_)
        refine W.eq (g2 := F0 m 67 ls [.long ((C_U_rounded md fl j (C_F_isMinus i x3) (C_F_significand i x3) (C_F_power i x3)).1)]) rfl ?_
        have he9 := (show ((C_U_rounded md fl j (C_F_isMinus i x3) (C_F_significand i x3) (C_F_power i x3)).1, (C_U_rounded md fl j (C_F_isMinus i x3) (C_F_significand i x3) (C_F_power i x3)).2) = C_U_turned md fl i j x3 from by rw [C_U_turned, if_pos h1, if_pos h2, if_pos h3])
        exact hret _ _ _ _ _ _ _ _ (congrArg Prod.fst he9) rfl (congrArg Prod.snd he9) rfl hw hS dU_turned_67
      · skip
        have h3 : ¬ ((C_F_isZero i x3) = false) := fun q => h3 ((bI_0 _).2 q)
        refine lv_aload_n (pc := 43) hx hb dU_turned_43 rfl (lv_at hl 3 rfl) ?_
        refine lv_iload (pc := 44) hx hb dU_turned_44 (lv_at hl 0 rfl) ?_
        refine pu_V (pc := 46) (i := j) (rest := []) ⟨hx, hb, hml, hown, hts⟩ hj (c_F_zero l ad hj (C_F_isMinus i x3)) (cwF_zero hts w_213 ⟨by decide, by decide⟩) hF hS rfl hl.1 rfl (Nat.le_of_ble_eq_true rfl) dU_turned_46 ⟨Nat.zero_le _, Nat.zero_le _⟩ ?_
        have he9 := (show (C_F_zero j (C_F_isMinus i x3), fl) = C_U_turned md fl i j x3 from by rw [C_U_turned, if_pos h1, if_pos h2, if_neg h3])
        exact hret _ _ _ _ _ _ _ _ (congrArg Prod.fst he9) rfl (congrArg Prod.snd he9) rfl hw hS dU_turned_49
    · skip
      have h2 : ¬ ((C_F_isEndless i x3) = false) := fun q => h2 ((bI_0 _).2 q)
      refine lv_aload_n (pc := 28) hx hb dU_turned_28 rfl (lv_at hl 3 rfl) ?_
      refine lv_iload (pc := 29) hx hb dU_turned_29 (lv_at hl 0 rfl) ?_
      refine pu_V (pc := 31) (i := j) (rest := []) ⟨hx, hb, hml, hown, hts⟩ hj (c_F_endless l ad hj (C_F_isMinus i x3)) (cwF_endless hts w_234 ⟨by decide, by decide⟩) hF hS rfl hl.1 rfl (Nat.le_of_ble_eq_true rfl) dU_turned_31 ⟨Nat.zero_le _, Nat.zero_le _⟩ ?_
      have he9 := (show (C_F_endless j (C_F_isMinus i x3), fl) = C_U_turned md fl i j x3 from by rw [C_U_turned, if_pos h1, if_neg h2])
      exact hret _ _ _ _ _ _ _ _ (congrArg Prod.fst he9) rfl (congrArg Prod.snd he9) rfl hw hS dU_turned_34
  · skip
    have h1 : ¬ ((C_F_isNone i x3) = false) := fun q => h1 ((bI_0 _).2 q)
    refine lv_aload_n (pc := 15) hx hb dU_turned_15 rfl (lv_at hl 3 rfl) ?_
    refine pu_V (pc := 16) (i := j) (rest := []) ⟨hx, hb, hml, hown, hts⟩ hj (c_F_none l ad hj) (cwF_none hts w_156 ⟨by decide, by decide⟩) hF hS rfl hl.1 rfl (Nat.le_of_ble_eq_true rfl) dU_turned_16 ⟨Nat.zero_le _, Nat.zero_le _⟩ ?_
    have he9 := (show (C_F_none j, fl) = C_U_turned md fl i j x3 from by rw [C_U_turned, if_neg h1])
    exact hret _ _ _ _ _ _ _ _ (congrArg Prod.fst he9) rfl (congrArg Prod.snd he9) rfl hw hS dU_turned_19
def C_U_cut_23 (md f9 : Int32) (u4 : Int64) (u6 : Int64) (u8 : Int32) (u9 : Int64) : Int64 × Int32 :=
  if 12 ≤ u8 then
    (u4, C_U_raise md f9 16)
  else
    if (C_U_isBeyond u9 u4) = false then
      if 0 ≤ u8 then
        (u9, f9)
      else
        if (C_U_moved u9 (-u8)) = u6 then
          (u9, f9)
        else
          (u9, C_U_raise md f9 1)
    else
      (u4, C_U_raise md f9 16)
def C_U_cut (md : Int32) (fl : Int32) (i : Nat) (x2 : Int64) (x3 : Int64) : Int64 × Int32 :=
  C_U_cut_23 md fl x3 (C_F_significand i x2) (C_F_power i x2) (C_U_moved (C_F_significand i x2) (C_F_power i x2))
abbrev rmU_cut : Room := { frames := 3, cells := 0, slots := 0, locals := 70 }
theorem cwU_cut {R : Room} {s : State} {args : Array Value} {w0 : Cond} {own : String} {idx : Nat} (hts : ∀ w ∈ (w0 :: bigW), w.before args s = true) (hl : Cond.methodLink own idx yU_cut ∈ bigW) (hR : rmU_cut.frames + 1 ≤ R.frames ∧ 8 + (11 + 11) + rmU_cut.locals ≤ R.locals) : CallW R s args own "FloatUnit" idx yU_cut cU_cut 11 (some .long) (wsM yU_cut cU_cut 11 (some .long)) rmU_cut 0 0 3 :=
  cwV 3 hts (big_V hl w_309 sel_U_cut w_1 w_310) rfl rfl rfl ⟨rfl, by decide, by decide, by decide +kernel⟩ hR
set_option maxRecDepth 100000 in
set_option maxHeartbeats 8000000 in
theorem c_U_cut (l : Launch) (ad : Nat → Nat) (D : va_G) (cA : ClassId) (h0 r0 : Nat) {i : Nat} (hi : i < 2) (md fl : Int32) (rg : Nat → Int64) (x2 : Int64) (x3 : Int64) : FuM l ad D cA h0 r0 yU_cut (wsM yU_cut cU_cut 11 (some .long)) rmU_cut [.ref (ad i), .long x2, .long x3] md fl rg (some (.long ((C_U_cut md fl i x2 x3).1))) md (C_U_cut md fl i x2 x3).2 rg := by
  refine fu_ofL (cc := cU_cut) (maxL := 11) (by decide) rfl (Nat.le_of_ble_eq_true rfl) ?_
  intro p e s m args below meth c Q hx hb hml hown hts hF H locs hS hw hret ls hl
  have hl : lv_has ls 11 [(0, .ref h0), (1, .ref (ad i)), (2, .long x2), (4, .long x3)] := hl
  have J23 : ∀ (f9 : Int32) (u4 : Int64) (u6 : Int64) (u8 : Int32) (u9 : Int64) (ls : Array Slot) (H : Heap) (locs : List Loc), lv_has ls 11 [(0, .ref h0), (4, .long u4), (6, .long u6), (8, .int u8), (9, .long u9)] → FUw D cA h0 r0 md f9 rg s H → va_S (fA h0 r0) s.heap H locs → C_U_cut_23 md f9 u4 u6 u8 u9 = C_U_cut md fl i x2 x3 → W p l e rmU_cut s m args below meth c H locs 0 0 Q (F0 m 23 ls []) := by
    intro f9 u4 u6 u8 u9 ls H locs hl hw hS he
    refine lv_iload (pc := 23) hx hb dU_cut_23 (lv_at hl 3 rfl) ?_
    refine lv_bipush (v := 12) (pc := 25) hx hb dU_cut_25 (by decide) ?_
    refine lv_icmp_ge (tgt := 40) (pc := 27) hx hb dU_cut_27 (by decide) (fun h101 => ?_) (fun h101 => ?_)
    · skip
      refine lv_aload_n (pc := 40) hx hb dU_cut_40 rfl (lv_at hl 0 rfl) ?_
      refine lv_bipush (v := 16) (pc := 41) hx hb dU_cut_41 (by decide) ?_
      refine fu_V (pc := 43) (rest := []) ⟨hx, hb, hml, hown, hts⟩ (c_U_raise l ad D cA h0 r0  md f9 rg 16) (cwU_raise hts w_176 ⟨by decide, by decide⟩) hF hw hS rfl hl.1 rfl (Nat.le_of_ble_eq_true rfl) dU_cut_43 ⟨Nat.zero_le _, Nat.zero_le _⟩ (fun H locs hw hS => ?_)
      refine W.eq (g2 := F0 m 46 ls []) rfl ?_
      refine lv_lload (pc := 46) hx hb dU_cut_46 (lv_at hl 1 rfl) ?_
      have he9 := (show (u4, C_U_raise md f9 16) = C_U_cut_23 md f9 u4 u6 u8 u9 from by rw [C_U_cut_23, if_pos h101]).trans he
      exact hret _ _ _ _ _ _ _ _ (congrArg Prod.fst he9) rfl (congrArg Prod.snd he9) rfl hw hS dU_cut_48
    · skip
      refine lv_lload (pc := 30) hx hb dU_cut_30 (lv_at hl 4 rfl) ?_
      refine lv_lload (pc := 32) hx hb dU_cut_32 (lv_at hl 1 rfl) ?_
      refine pu_S (pc := 34) (rest := []) ⟨hx, hb, hml, hown, hts⟩ (c_U_isBeyond l ad u9 u4) (cwU_isBeyond hts w_314 ⟨by decide, by decide⟩) hF hS rfl hl.1 rfl (Nat.le_of_ble_eq_true rfl) dU_cut_34 ⟨Nat.zero_le _, Nat.zero_le _⟩ ?_
      refine lv_if_eq (tgt := 49) (pc := 37) hx hb dU_cut_37 (by decide) (fun h102 => ?_) (fun h102 => ?_)
      · skip
        have h102 : (C_U_isBeyond u9 u4) = false := (bI_0 _).1 h102
        refine lv_iload (pc := 49) hx hb dU_cut_49 (lv_at hl 3 rfl) ?_
        refine lv_if_ge (tgt := 73) (pc := 51) hx hb dU_cut_51 (by decide) (fun h103 => ?_) (fun h103 => ?_)
        · skip
          refine lv_lload (pc := 73) hx hb dU_cut_73 (lv_at hl 4 rfl) ?_
          have he9 := (show (u9, f9) = C_U_cut_23 md f9 u4 u6 u8 u9 from by rw [C_U_cut_23, if_neg h101, if_pos h102, if_pos h103]).trans he
          exact hret _ _ _ _ _ _ _ _ (congrArg Prod.fst he9) rfl (congrArg Prod.snd he9) rfl hw hS dU_cut_75
        · skip
          refine lv_lload (pc := 54) hx hb dU_cut_54 (lv_at hl 4 rfl) ?_
          refine lv_iload (pc := 56) hx hb dU_cut_56 (lv_at hl 3 rfl) ?_
          refine lv_ineg (pc := 58) hx hb dU_cut_58 ?_
          refine pu_S (pc := 59) (rest := []) ⟨hx, hb, hml, hown, hts⟩ (c_U_moved l ad u9 (-u8)) (cwU_moved hts w_311 ⟨by decide, by decide⟩) hF hS rfl hl.1 rfl (Nat.le_of_ble_eq_true rfl) dU_cut_59 ⟨Nat.zero_le _, Nat.zero_le _⟩ ?_
          refine lv_lload (pc := 62) hx hb dU_cut_62 (lv_at hl 2 rfl) ?_
          refine W.lcmp (pc := 64) hx hb dU_cut_64 ?_
          refine lv_if_eq (tgt := 73) (pc := 65) hx hb dU_cut_65 (by decide) (fun h104 => ?_) (fun h104 => ?_)
          · skip
            have h104 : (C_U_moved u9 (-u8)) = u6 := (lg_cmp_eq _ _).1 h104
            refine lv_lload (pc := 73) hx hb dU_cut_73 (lv_at hl 4 rfl) ?_
            have he9 := (show (u9, f9) = C_U_cut_23 md f9 u4 u6 u8 u9 from by rw [C_U_cut_23, if_neg h101, if_pos h102, if_neg h103, if_pos h104]).trans he
            exact hret _ _ _ _ _ _ _ _ (congrArg Prod.fst he9) rfl (congrArg Prod.snd he9) rfl hw hS dU_cut_75
          · skip
            have h104 : ¬ ((C_U_moved u9 (-u8)) = u6) := fun q => h104 ((lg_cmp_eq _ _).2 q)
            refine lv_aload_n (pc := 68) hx hb dU_cut_68 rfl (lv_at hl 0 rfl) ?_
            refine lv_iconst (v := 1) (pc := 69) hx hb dU_cut_69 (by decide) ?_
            refine fu_V (pc := 70) (rest := []) ⟨hx, hb, hml, hown, hts⟩ (c_U_raise l ad D cA h0 r0  md f9 rg 1) (cwU_raise hts w_176 ⟨by decide, by decide⟩) hF hw hS rfl hl.1 rfl (Nat.le_of_ble_eq_true rfl) dU_cut_70 ⟨Nat.zero_le _, Nat.zero_le _⟩ (fun H locs hw hS => ?_)
            refine W.eq (g2 := F0 m 73 ls []) rfl ?_
            refine lv_lload (pc := 73) hx hb dU_cut_73 (lv_at hl 4 rfl) ?_
            have he9 := (show (u9, C_U_raise md f9 1) = C_U_cut_23 md f9 u4 u6 u8 u9 from by rw [C_U_cut_23, if_neg h101, if_pos h102, if_neg h103, if_neg h104]).trans he
            exact hret _ _ _ _ _ _ _ _ (congrArg Prod.fst he9) rfl (congrArg Prod.snd he9) rfl hw hS dU_cut_75
      · skip
        have h102 : ¬ ((C_U_isBeyond u9 u4) = false) := fun q => h102 ((bI_0 _).2 q)
        refine lv_aload_n (pc := 40) hx hb dU_cut_40 rfl (lv_at hl 0 rfl) ?_
        refine lv_bipush (v := 16) (pc := 41) hx hb dU_cut_41 (by decide) ?_
        refine fu_V (pc := 43) (rest := []) ⟨hx, hb, hml, hown, hts⟩ (c_U_raise l ad D cA h0 r0  md f9 rg 16) (cwU_raise hts w_176 ⟨by decide, by decide⟩) hF hw hS rfl hl.1 rfl (Nat.le_of_ble_eq_true rfl) dU_cut_43 ⟨Nat.zero_le _, Nat.zero_le _⟩ (fun H locs hw hS => ?_)
        refine W.eq (g2 := F0 m 46 ls []) rfl ?_
        refine lv_lload (pc := 46) hx hb dU_cut_46 (lv_at hl 1 rfl) ?_
        have he9 := (show (u4, C_U_raise md f9 16) = C_U_cut_23 md f9 u4 u6 u8 u9 from by rw [C_U_cut_23, if_neg h101, if_neg h102]).trans he
        exact hret _ _ _ _ _ _ _ _ (congrArg Prod.fst he9) rfl (congrArg Prod.snd he9) rfl hw hS dU_cut_48
  refine lv_aload_n (pc := 0) hx hb dU_cut_0 rfl (lv_at hl 1 rfl) ?_
  refine lv_lload_n (pc := 1) hx hb dU_cut_1 rfl (lv_at hl 2 rfl) ?_
  refine pu_V (pc := 2) (i := i) (rest := []) ⟨hx, hb, hml, hown, hts⟩ hi (c_F_significand l ad hi x2) (cwF_significand hts w_206 ⟨by decide, by decide⟩) hF hS rfl hl.1 rfl (Nat.le_of_ble_eq_true rfl) dU_cut_2 ⟨Nat.zero_le _, Nat.zero_le _⟩ ?_
  refine lv_lstore (lv' := [(6, .long (C_F_significand i x2)), (0, .ref h0), (1, .ref (ad i)), (2, .long x2), (4, .long x3)]) (pc := 5) hx hb dU_cut_5 hl (by decide) rfl (fun ls hl => ?_)
  refine lv_aload_n (pc := 7) hx hb dU_cut_7 rfl (lv_at hl 2 rfl) ?_
  refine lv_lload_n (pc := 8) hx hb dU_cut_8 rfl (lv_at hl 3 rfl) ?_
  refine pu_V (pc := 9) (i := i) (rest := []) ⟨hx, hb, hml, hown, hts⟩ hi (c_F_power l ad hi x2) (cwF_power hts w_180 ⟨by decide, by decide⟩) hF hS rfl hl.1 rfl (Nat.le_of_ble_eq_true rfl) dU_cut_9 ⟨Nat.zero_le _, Nat.zero_le _⟩ ?_
  refine lv_istore (lv' := [(8, .int (C_F_power i x2)), (6, .long (C_F_significand i x2)), (0, .ref h0), (1, .ref (ad i)), (2, .long x2), (4, .long x3)]) (pc := 12) hx hb dU_cut_12 hl (by decide) rfl (fun ls hl => ?_)
  refine lv_lload (pc := 14) hx hb dU_cut_14 (lv_at hl 1 rfl) ?_
  refine lv_iload (pc := 16) hx hb dU_cut_16 (lv_at hl 0 rfl) ?_
  refine pu_S (pc := 18) (rest := []) ⟨hx, hb, hml, hown, hts⟩ (c_U_moved l ad (C_F_significand i x2) (C_F_power i x2)) (cwU_moved hts w_311 ⟨by decide, by decide⟩) hF hS rfl hl.1 rfl (Nat.le_of_ble_eq_true rfl) dU_cut_18 ⟨Nat.zero_le _, Nat.zero_le _⟩ ?_
  refine lv_lstore (lv' := [(9, .long (C_U_moved (C_F_significand i x2) (C_F_power i x2))), (8, .int (C_F_power i x2)), (6, .long (C_F_significand i x2)), (0, .ref h0), (1, .ref (ad i)), (2, .long x2), (4, .long x3)]) (pc := 21) hx hb dU_cut_21 hl (by decide) rfl (fun ls hl => ?_)
  exact J23 fl x3 (C_F_significand i x2) (C_F_power i x2) (C_U_moved (C_F_significand i x2) (C_F_power i x2)) ls _ _ (lv_sub hl [3, 6, 2, 1, 0] rfl) hw hS ((show C_U_cut_23 md fl x3 (C_F_significand i x2) (C_F_power i x2) (C_U_moved (C_F_significand i x2) (C_F_power i x2)) = C_U_cut md fl i x2 x3 from by rw [C_U_cut]))
