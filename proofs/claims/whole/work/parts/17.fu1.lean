/-! Methods of the unit that change flags alone (by program). -/
theorem sw3 {x : Int32} (h0 : ¬ x = 0) (h1 : ¬ x = 1) (h2 : ¬ x = 2) : x.toInt < 0 ∨ 2 < x.toInt := by
  obtain ⟨z, hz, rfl⟩ := iI_of x
  have g0 : ¬ z = 0 := fun q => h0 (by rw [q]; rfl)
  have g1 : ¬ z = 1 := fun q => h1 (by rw [q]; rfl)
  have g2 : ¬ z = 2 := fun q => h2 (by rw [q]; rfl)
  rw [iI_toInt hz]
  omega
theorem sw4 {x : Int32} (h0 : ¬ x = 0) (h1 : ¬ x = 1) (h2 : ¬ x = 2) (h3 : ¬ x = 3) : x.toInt < 0 ∨ 3 < x.toInt := by
  obtain ⟨z, hz, rfl⟩ := iI_of x
  have g0 : ¬ z = 0 := fun q => h0 (by rw [q]; rfl)
  have g1 : ¬ z = 1 := fun q => h1 (by rw [q]; rfl)
  have g2 : ¬ z = 2 := fun q => h2 (by rw [q]; rfl)
  have g3 : ¬ z = 3 := fun q => h3 (by rw [q]; rfl)
  rw [iI_toInt hz]
  omega
def C_U_raise (md : Int32) (fl : Int32) (k1 : Int32) : Int32 :=
  fl ||| k1
abbrev rmU_raise : Room := { frames := 0, cells := 0, slots := 0, locals := 0 }
theorem cwU_raise {R : Room} {s : State} {args : Array Value} {w0 : Cond} {own : String} {idx : Nat} (hts : ∀ w ∈ (w0 :: bigW), w.before args s = true) (hl : Cond.methodLink own idx yU_raise ∈ bigW) (hR : rmU_raise.frames + 1 ≤ R.frames ∧ 8 + (2 + 11) + rmU_raise.locals ≤ R.locals) : CallW R s args own "FloatUnit" idx yU_raise cU_raise 2 none (wsM yU_raise cU_raise 2 none) rmU_raise 0 0 1 :=
  cwV 1 hts (big_V hl w_178 sel_U_raise w_1 w_179) rfl rfl rfl ⟨rfl, by decide, by decide, by decide +kernel⟩ hR
set_option maxRecDepth 100000 in
set_option maxHeartbeats 8000000 in
theorem c_U_raise (l : Launch) (ad : Nat → Nat) (D : va_G) (cA : ClassId) (h0 r0 : Nat) (md fl : Int32) (rg : Nat → Int64) (k1 : Int32) : FuM l ad D cA h0 r0 yU_raise (wsM yU_raise cU_raise 2 none) rmU_raise [.int k1] md fl rg none md (C_U_raise md fl k1) rg := by
  refine fu_ofV (cc := cU_raise) (maxL := 2) (by decide) rfl (Nat.le_of_ble_eq_true rfl) ?_
  intro p e s m args below meth c Q hx hb hml hown hts hF H locs hS hw hret ls hl
  have hl : lv_has ls 2 [(0, .ref h0), (1, .int k1)] := hl
  refine lv_aload_n (pc := 0) hx hb dU_raise_0 rfl (lv_at hl 0 rfl) ?_
  refine lv_dup (pc := 1) hx hb dU_raise_1 rfl ?_
  refine fu_fl (pc := 2) hx hb hts hown hw w_20 dU_raise_2 ?_
  refine lv_iload_n (pc := 5) hx hb dU_raise_5 rfl (lv_at hl 1 rfl) ?_
  refine lv_ior (pc := 6) hx hb dU_raise_6 ?_
  refine fu_pfl (pc := 7) hx hb hts hown hw hS w_20 dU_raise_7 (fun H locs hw hS => ?_)
  exact hret _ _ _ _ _ _ _ rfl ((show fl ||| k1 = C_U_raise md fl k1 from by rw [C_U_raise])) rfl hw hS dU_raise_10
def C_U_invalid (md : Int32) (fl : Int32) (i : Nat) : Int64 × Int32 :=
  (C_F_none i, C_U_raise md fl 16)
abbrev rmU_invalid : Room := { frames := 1, cells := 0, slots := 0, locals := 21 }
theorem cwU_invalid {R : Room} {s : State} {args : Array Value} {w0 : Cond} {own : String} {idx : Nat} (hts : ∀ w ∈ (w0 :: bigW), w.before args s = true) (hl : Cond.methodLink own idx yU_invalid ∈ bigW) (hR : rmU_invalid.frames + 1 ≤ R.frames ∧ 8 + (2 + 11) + rmU_invalid.locals ≤ R.locals) : CallW R s args own "FloatUnit" idx yU_invalid cU_invalid 2 (some .long) (wsM yU_invalid cU_invalid 2 (some .long)) rmU_invalid 0 0 1 :=
  cwV 1 hts (big_V hl w_174 sel_U_invalid w_1 w_175) rfl rfl rfl ⟨rfl, by decide, by decide, by decide +kernel⟩ hR
set_option maxRecDepth 100000 in
set_option maxHeartbeats 8000000 in
theorem c_U_invalid (l : Launch) (ad : Nat → Nat) (D : va_G) (cA : ClassId) (h0 r0 : Nat) {i : Nat} (hi : i < 2) (md fl : Int32) (rg : Nat → Int64) : FuM l ad D cA h0 r0 yU_invalid (wsM yU_invalid cU_invalid 2 (some .long)) rmU_invalid [.ref (ad i)] md fl rg (some (.long ((C_U_invalid md fl i).1))) md (C_U_invalid md fl i).2 rg := by
  refine fu_ofL (cc := cU_invalid) (maxL := 2) (by decide) rfl (Nat.le_of_ble_eq_true rfl) ?_
  intro p e s m args below meth c Q hx hb hml hown hts hF H locs hS hw hret ls hl
  have hl : lv_has ls 2 [(0, .ref h0), (1, .ref (ad i))] := hl
  refine lv_aload_n (pc := 0) hx hb dU_invalid_0 rfl (lv_at hl 0 rfl) ?_
  refine lv_bipush (v := 16) (pc := 1) hx hb dU_invalid_1 (by decide) ?_
  refine fu_V (pc := 3) (rest := []) ⟨hx, hb, hml, hown, hts⟩ (c_U_raise l ad D cA h0 r0  md fl rg 16) (cwU_raise hts w_176 ⟨by decide, by decide⟩) hF hw hS rfl hl.1 rfl (Nat.le_of_ble_eq_true rfl) dU_invalid_3 ⟨Nat.zero_le _, Nat.zero_le _⟩ (fun H locs hw hS => ?_)
  refine W.eq (g2 := F0 m 6 ls []) rfl ?_
  refine lv_aload_n (pc := 6) hx hb dU_invalid_6 rfl (lv_at hl 1 rfl) ?_
  refine pu_V (pc := 7) (i := i) (rest := []) ⟨hx, hb, hml, hown, hts⟩ hi (c_F_none l ad hi) (cwF_none hts w_156 ⟨by decide, by decide⟩) hF hS rfl hl.1 rfl (Nat.le_of_ble_eq_true rfl) dU_invalid_7 ⟨Nat.zero_le _, Nat.zero_le _⟩ ?_
  have he9 := (show (C_F_none i, C_U_raise md fl 16) = C_U_invalid md fl i from by rw [C_U_invalid])
  exact hret _ _ _ _ _ _ _ _ (congrArg Prod.fst he9) rfl (congrArg Prod.snd he9) rfl hw hS dU_invalid_10
def C_U_goesAwayFromZero (md : Int32) (fl : Int32) (z1 : Bool) (x2 : Int64) (x3 : Int64) (x4 : Int64) : Bool :=
  if md = 0 then
    if x4 < x3 then
      true
    else
      if x3 = x4 then
        if (x2 &&& 1) = 0 then
          false
        else
          true
      else
        false
  else
    if md = 1 then
      false
    else
      if md = 2 then
        if x3 = 0 then
          false
        else
          if z1 = false then
            true
          else
            false
      else
        if x3 = 0 then
          false
        else
          if z1 = false then
            false
          else
            true
abbrev rmU_goesAwayFromZero : Room := { frames := 0, cells := 0, slots := 0, locals := 0 }
theorem cwU_goesAwayFromZero {R : Room} {s : State} {args : Array Value} {w0 : Cond} {own : String} {idx : Nat} (hts : ∀ w ∈ (w0 :: bigW), w.before args s = true) (hl : Cond.methodLink own idx yU_goesAwayFromZero ∈ bigW) (hR : rmU_goesAwayFromZero.frames + 1 ≤ R.frames ∧ 8 + (8 + 11) + rmU_goesAwayFromZero.locals ≤ R.locals) : CallW R s args own "FloatUnit" idx yU_goesAwayFromZero cU_goesAwayFromZero 8 (some .boolean) (wsM yU_goesAwayFromZero cU_goesAwayFromZero 8 (some .boolean)) rmU_goesAwayFromZero 0 0 4 :=
  cwV 4 hts (big_V hl w_241 sel_U_goesAwayFromZero w_1 w_242) rfl rfl rfl ⟨rfl, by decide, by decide, by decide +kernel⟩ hR
set_option maxRecDepth 100000 in
set_option maxHeartbeats 8000000 in
theorem c_U_goesAwayFromZero (l : Launch) (ad : Nat → Nat) (D : va_G) (cA : ClassId) (h0 r0 : Nat) (md fl : Int32) (rg : Nat → Int64) (z1 : Bool) (x2 : Int64) (x3 : Int64) (x4 : Int64) : FuM l ad D cA h0 r0 yU_goesAwayFromZero (wsM yU_goesAwayFromZero cU_goesAwayFromZero 8 (some .boolean)) rmU_goesAwayFromZero [.int (bI z1), .long x2, .long x3, .long x4] md fl rg (some (.int (bI (C_U_goesAwayFromZero md fl z1 x2 x3 x4)))) md fl rg := by
  refine fu_ofZ (cc := cU_goesAwayFromZero) (maxL := 8) (by decide) rfl (Nat.le_of_ble_eq_true rfl) ?_
  intro p e s m args below meth c Q hx hb hml hown hts hF H locs hS hw hret ls hl
  have hl : lv_has ls 8 [(0, .ref h0), (1, .int (bI z1)), (2, .long x2), (4, .long x3), (6, .long x4)] := hl
  refine lv_aload_n (pc := 0) hx hb dU_goesAwayFromZero_0 rfl (lv_at hl 0 rfl) ?_
  refine fu_md (pc := 1) hx hb hts hown hw w_19 dU_goesAwayFromZero_1 ?_
  by_cases h1 : md = 0
  · refine lv_tableIn (off := 28) (tgt := 32) (pc := 4) hx hb dU_goesAwayFromZero_4 (by rw [h1]; decide) (by rw [h1]; decide) (by rw [h1]; decide) (by decide) ?_
    refine lv_lload (pc := 32) hx hb dU_goesAwayFromZero_32 (lv_at hl 3 rfl) ?_
    refine lv_lload (pc := 34) hx hb dU_goesAwayFromZero_34 (lv_at hl 4 rfl) ?_
    refine W.lcmp (pc := 36) hx hb dU_goesAwayFromZero_36 ?_
    refine lv_if_gt (tgt := 56) (pc := 37) hx hb dU_goesAwayFromZero_37 (by decide) (fun h2 => ?_) (fun h2 => ?_)
    · skip
      have h2 : x4 < x3 := (lg_cmp_gt _ _).1 h2
      refine lv_iconst (v := 1) (pc := 56) hx hb dU_goesAwayFromZero_56 (by decide) ?_
      refine lv_goto (tgt := 61) (pc := 57) hx hb dU_goesAwayFromZero_57 (by decide) ?_
      exact hret _ _ _ _ _ _ _ _ (congrArg bI ((show true = C_U_goesAwayFromZero md fl z1 x2 x3 x4 from by rw [C_U_goesAwayFromZero, if_pos h1, if_pos h2]))) rfl rfl rfl hw hS dU_goesAwayFromZero_61
    · skip
      have h2 : ¬ (x4 < x3) := fun q => h2 ((lg_cmp_gt _ _).2 q)
      refine lv_lload (pc := 40) hx hb dU_goesAwayFromZero_40 (lv_at hl 3 rfl) ?_
      refine lv_lload (pc := 42) hx hb dU_goesAwayFromZero_42 (lv_at hl 4 rfl) ?_
      refine W.lcmp (pc := 44) hx hb dU_goesAwayFromZero_44 ?_
      refine lv_if_ne (tgt := 60) (pc := 45) hx hb dU_goesAwayFromZero_45 (by decide) (fun h3 => ?_) (fun h3 => ?_)
      · skip
        have h3 : ¬ (x3 = x4) := fun q => h3 ((lg_cmp_eq _ _).2 q)
        refine lv_iconst (v := 0) (pc := 60) hx hb dU_goesAwayFromZero_60 (by decide) ?_
        exact hret _ _ _ _ _ _ _ _ (congrArg bI ((show false = C_U_goesAwayFromZero md fl z1 x2 x3 x4 from by rw [C_U_goesAwayFromZero, if_pos h1, if_neg h2, if_neg h3]))) rfl rfl rfl hw hS dU_goesAwayFromZero_61
      · skip
        have h3 : x3 = x4 := (lg_cmp_eq _ _).1 h3
        refine lv_lload_n (pc := 48) hx hb dU_goesAwayFromZero_48 rfl (lv_at hl 2 rfl) ?_
        refine lv_lconst (v := 1) (pc := 49) hx hb dU_goesAwayFromZero_49 (by decide) ?_
        refine lv_land (pc := 50) hx hb dU_goesAwayFromZero_50 ?_
        refine lv_lconst (v := 0) (pc := 51) hx hb dU_goesAwayFromZero_51 (by decide) ?_
        refine W.lcmp (pc := 52) hx hb dU_goesAwayFromZero_52 ?_
        refine lv_if_eq (tgt := 60) (pc := 53) hx hb dU_goesAwayFromZero_53 (by decide) (fun h4 => ?_) (fun h4 => ?_)
        · skip
          have h4 : (x2 &&& 1) = 0 := (lg_cmp_eq _ _).1 h4
          refine lv_iconst (v := 0) (pc := 60) hx hb dU_goesAwayFromZero_60 (by decide) ?_
          exact hret _ _ _ _ _ _ _ _ (congrArg bI ((show false = C_U_goesAwayFromZero md fl z1 x2 x3 x4 from by rw [C_U_goesAwayFromZero, if_pos h1, if_neg h2, if_pos h3, if_pos h4]))) rfl rfl rfl hw hS dU_goesAwayFromZero_61
        · skip
          have h4 : ¬ ((x2 &&& 1) = 0) := fun q => h4 ((lg_cmp_eq _ _).2 q)
          refine lv_iconst (v := 1) (pc := 56) hx hb dU_goesAwayFromZero_56 (by decide) ?_
          refine lv_goto (tgt := 61) (pc := 57) hx hb dU_goesAwayFromZero_57 (by decide) ?_
          exact hret _ _ _ _ _ _ _ _ (congrArg bI ((show true = C_U_goesAwayFromZero md fl z1 x2 x3 x4 from by rw [C_U_goesAwayFromZero, if_pos h1, if_neg h2, if_pos h3, if_neg h4]))) rfl rfl rfl hw hS dU_goesAwayFromZero_61
  · skip
    by_cases h5 : md = 1
    · refine lv_tableIn (off := 58) (tgt := 62) (pc := 4) hx hb dU_goesAwayFromZero_4 (by rw [h5]; decide) (by rw [h5]; decide) (by rw [h5]; decide) (by decide) ?_
      refine lv_iconst (v := 0) (pc := 62) hx hb dU_goesAwayFromZero_62 (by decide) ?_
      exact hret _ _ _ _ _ _ _ _ (congrArg bI ((show false = C_U_goesAwayFromZero md fl z1 x2 x3 x4 from by rw [C_U_goesAwayFromZero, if_neg h1, if_pos h5]))) rfl rfl rfl hw hS dU_goesAwayFromZero_63
    · skip
      by_cases h6 : md = 2
      · refine lv_tableIn (off := 60) (tgt := 64) (pc := 4) hx hb dU_goesAwayFromZero_4 (by rw [h6]; decide) (by rw [h6]; decide) (by rw [h6]; decide) (by decide) ?_
        refine lv_lload (pc := 64) hx hb dU_goesAwayFromZero_64 (lv_at hl 3 rfl) ?_
        refine lv_lconst (v := 0) (pc := 66) hx hb dU_goesAwayFromZero_66 (by decide) ?_
        refine W.lcmp (pc := 67) hx hb dU_goesAwayFromZero_67 ?_
        refine lv_if_eq (tgt := 79) (pc := 68) hx hb dU_goesAwayFromZero_68 (by decide) (fun h7 => ?_) (fun h7 => ?_)
        · skip
          have h7 : x3 = 0 := (lg_cmp_eq _ _).1 h7
          refine lv_iconst (v := 0) (pc := 79) hx hb dU_goesAwayFromZero_79 (by decide) ?_
          exact hret _ _ _ _ _ _ _ _ (congrArg bI ((show false = C_U_goesAwayFromZero md fl z1 x2 x3 x4 from by rw [C_U_goesAwayFromZero, if_neg h1, if_neg h5, if_pos h6, if_pos h7]))) rfl rfl rfl hw hS dU_goesAwayFromZero_80
        · skip
          have h7 : ¬ (x3 = 0) := fun q => h7 ((lg_cmp_eq _ _).2 q)
          refine lv_iload_n (pc := 71) hx hb dU_goesAwayFromZero_71 rfl (lv_at hl 1 rfl) ?_
          refine lv_if_ne (tgt := 79) (pc := 72) hx hb dU_goesAwayFromZero_72 (by decide) (fun h8 => ?_) (fun h8 => ?_)
          · skip
            have h8 : ¬ (z1 = false) := fun q => h8 ((bI_0 _).2 q)
            refine lv_iconst (v := 0) (pc := 79) hx hb dU_goesAwayFromZero_79 (by decide) ?_
            exact hret _ _ _ _ _ _ _ _ (congrArg bI ((show false = C_U_goesAwayFromZero md fl z1 x2 x3 x4 from by rw [C_U_goesAwayFromZero, if_neg h1, if_neg h5, if_pos h6, if_neg h7, if_neg h8]))) rfl rfl rfl hw hS dU_goesAwayFromZero_80
          · skip
            have h8 : z1 = false := (bI_0 _).1 h8
            refine lv_iconst (v := 1) (pc := 75) hx hb dU_goesAwayFromZero_75 (by decide) ?_
            refine lv_goto (tgt := 80) (pc := 76) hx hb dU_goesAwayFromZero_76 (by decide) ?_
            exact hret _ _ _ _ _ _ _ _ (congrArg bI ((show true = C_U_goesAwayFromZero md fl z1 x2 x3 x4 from by rw [C_U_goesAwayFromZero, if_neg h1, if_neg h5, if_pos h6, if_neg h7, if_pos h8]))) rfl rfl rfl hw hS dU_goesAwayFromZero_80
      · skip
        refine lv_tableOut (tgt := 81) (pc := 4) hx hb dU_goesAwayFromZero_4 (sw3 h1 h5 h6) (by decide) ?_
        refine lv_lload (pc := 81) hx hb dU_goesAwayFromZero_81 (lv_at hl 3 rfl) ?_
        refine lv_lconst (v := 0) (pc := 83) hx hb dU_goesAwayFromZero_83 (by decide) ?_
        refine W.lcmp (pc := 84) hx hb dU_goesAwayFromZero_84 ?_
        refine lv_if_eq (tgt := 96) (pc := 85) hx hb dU_goesAwayFromZero_85 (by decide) (fun h9 => ?_) (fun h9 => ?_)
        · skip
          have h9 : x3 = 0 := (lg_cmp_eq _ _).1 h9
          refine lv_iconst (v := 0) (pc := 96) hx hb dU_goesAwayFromZero_96 (by decide) ?_
          exact hret _ _ _ _ _ _ _ _ (congrArg bI ((show false = C_U_goesAwayFromZero md fl z1 x2 x3 x4 from by rw [C_U_goesAwayFromZero, if_neg h1, if_neg h5, if_neg h6, if_pos h9]))) rfl rfl rfl hw hS dU_goesAwayFromZero_97
        · skip
          have h9 : ¬ (x3 = 0) := fun q => h9 ((lg_cmp_eq _ _).2 q)
          refine lv_iload_n (pc := 88) hx hb dU_goesAwayFromZero_88 rfl (lv_at hl 1 rfl) ?_
          refine lv_if_eq (tgt := 96) (pc := 89) hx hb dU_goesAwayFromZero_89 (by decide) (fun h10 => ?_) (fun h10 => ?_)
          · skip
            have h10 : z1 = false := (bI_0 _).1 h10
            refine lv_iconst (v := 0) (pc := 96) hx hb dU_goesAwayFromZero_96 (by decide) ?_
            exact hret _ _ _ _ _ _ _ _ (congrArg bI ((show false = C_U_goesAwayFromZero md fl z1 x2 x3 x4 from by rw [C_U_goesAwayFromZero, if_neg h1, if_neg h5, if_neg h6, if_neg h9, if_pos h10]))) rfl rfl rfl hw hS dU_goesAwayFromZero_97
          · skip
            have h10 : ¬ (z1 = false) := fun q => h10 ((bI_0 _).2 q)
            refine lv_iconst (v := 1) (pc := 92) hx hb dU_goesAwayFromZero_92 (by decide) ?_
            refine lv_goto (tgt := 97) (pc := 93) hx hb dU_goesAwayFromZero_93 (by decide) ?_
            exact hret _ _ _ _ _ _ _ _ (congrArg bI ((show true = C_U_goesAwayFromZero md fl z1 x2 x3 x4 from by rw [C_U_goesAwayFromZero, if_neg h1, if_neg h5, if_neg h6, if_neg h9, if_neg h10]))) rfl rfl rfl hw hS dU_goesAwayFromZero_97
def C_U_huge_34 (md f9 : Int32) (i : Nat) (v2 : Bool) (v3 : Bool) : Int64 × Int32 :=
  if v3 = false then
    (C_F_endless i v2, f9)
  else
    (C_F_greatest i v2, f9)
def C_U_huge (md : Int32) (fl : Int32) (i : Nat) (z2 : Bool) : Int64 × Int32 :=
  if md = 1 then
    C_U_huge_34 md (C_U_raise md fl 5) i z2 true
  else
    if z2 = false then
      if md = 3 then
        C_U_huge_34 md (C_U_raise md fl 5) i z2 true
      else
        C_U_huge_34 md (C_U_raise md fl 5) i z2 false
    else
      if md = 2 then
        C_U_huge_34 md (C_U_raise md fl 5) i z2 true
      else
        C_U_huge_34 md (C_U_raise md fl 5) i z2 false
abbrev rmU_huge : Room := { frames := 2, cells := 0, slots := 0, locals := 44 }
theorem cwU_huge {R : Room} {s : State} {args : Array Value} {w0 : Cond} {own : String} {idx : Nat} (hts : ∀ w ∈ (w0 :: bigW), w.before args s = true) (hl : Cond.methodLink own idx yU_huge ∈ bigW) (hR : rmU_huge.frames + 1 ≤ R.frames ∧ 8 + (4 + 11) + rmU_huge.locals ≤ R.locals) : CallW R s args own "FloatUnit" idx yU_huge cU_huge 4 (some .long) (wsM yU_huge cU_huge 4 (some .long)) rmU_huge 0 0 2 :=
  cwV 2 hts (big_V hl w_228 sel_U_huge w_1 w_229) rfl rfl rfl ⟨rfl, by decide, by decide, by decide +kernel⟩ hR
set_option maxRecDepth 100000 in
set_option maxHeartbeats 8000000 in
theorem c_U_huge (l : Launch) (ad : Nat → Nat) (D : va_G) (cA : ClassId) (h0 r0 : Nat) {i : Nat} (hi : i < 2) (md fl : Int32) (rg : Nat → Int64) (z2 : Bool) : FuM l ad D cA h0 r0 yU_huge (wsM yU_huge cU_huge 4 (some .long)) rmU_huge [.ref (ad i), .int (bI z2)] md fl rg (some (.long ((C_U_huge md fl i z2).1))) md (C_U_huge md fl i z2).2 rg := by
  refine fu_ofL (cc := cU_huge) (maxL := 4) (by decide) rfl (Nat.le_of_ble_eq_true rfl) ?_
  intro p e s m args below meth c Q hx hb hml hown hts hF H locs hS hw hret ls hl
  have hl : lv_has ls 4 [(0, .ref h0), (1, .ref (ad i)), (2, .int (bI z2))] := hl
  have J34 : ∀ (f9 : Int32) (v2 : Bool) (v3 : Bool) (ls : Array Slot) (H : Heap) (locs : List Loc), lv_has ls 4 [(0, .ref h0), (1, .ref (ad i)), (2, .int (bI v2))] → FUw D cA h0 r0 md f9 rg s H → va_S (fA h0 r0) s.heap H locs → C_U_huge_34 md f9 i v2 v3 = C_U_huge md fl i z2 → W p l e rmU_huge s m args below meth c H locs 0 0 Q (F0 m 34 ls [.int (bI v3)]) := by
    intro f9 v2 v3 ls H locs hl hw hS he
    refine lv_istore_n (lv' := [(3, .int (bI v3)), (0, .ref h0), (1, .ref (ad i)), (2, .int (bI v2))]) (pc := 34) hx hb dU_huge_34 rfl hl (by decide) rfl (fun ls hl => ?_)
    refine lv_iload_n (pc := 35) hx hb dU_huge_35 rfl (lv_at hl 0 rfl) ?_
    refine lv_if_eq (tgt := 47) (pc := 36) hx hb dU_huge_36 (by decide) (fun h101 => ?_) (fun h101 => ?_)
    · skip
      have h101 : v3 = false := (bI_0 _).1 h101
      refine lv_aload_n (pc := 47) hx hb dU_huge_47 rfl (lv_at hl 2 rfl) ?_
      refine lv_iload_n (pc := 48) hx hb dU_huge_48 rfl (lv_at hl 3 rfl) ?_
      refine pu_V (pc := 49) (i := i) (rest := []) ⟨hx, hb, hml, hown, hts⟩ hi (c_F_endless l ad hi v2) (cwF_endless hts w_234 ⟨by decide, by decide⟩) hF hS rfl hl.1 rfl (Nat.le_of_ble_eq_true rfl) dU_huge_49 ⟨Nat.zero_le _, Nat.zero_le _⟩ ?_
      have he9 := (show (C_F_endless i v2, f9) = C_U_huge_34 md f9 i v2 v3 from by rw [C_U_huge_34, if_pos h101]).trans he
      exact hret _ _ _ _ _ _ _ _ (congrArg Prod.fst he9) rfl (congrArg Prod.snd he9) rfl hw hS dU_huge_52
    · skip
      have h101 : ¬ (v3 = false) := fun q => h101 ((bI_0 _).2 q)
      refine lv_aload_n (pc := 39) hx hb dU_huge_39 rfl (lv_at hl 2 rfl) ?_
      refine lv_iload_n (pc := 40) hx hb dU_huge_40 rfl (lv_at hl 3 rfl) ?_
      refine pu_V (pc := 41) (i := i) (rest := []) ⟨hx, hb, hml, hown, hts⟩ hi (c_F_greatest l ad hi v2) (cwF_greatest hts w_230 ⟨by decide, by decide⟩) hF hS rfl hl.1 rfl (Nat.le_of_ble_eq_true rfl) dU_huge_41 ⟨Nat.zero_le _, Nat.zero_le _⟩ ?_
      refine lv_goto (tgt := 52) (pc := 44) hx hb dU_huge_44 (by decide) ?_
      have he9 := (show (C_F_greatest i v2, f9) = C_U_huge_34 md f9 i v2 v3 from by rw [C_U_huge_34, if_neg h101]).trans he
      exact hret _ _ _ _ _ _ _ _ (congrArg Prod.fst he9) rfl (congrArg Prod.snd he9) rfl hw hS dU_huge_52
  refine lv_aload_n (pc := 0) hx hb dU_huge_0 rfl (lv_at hl 0 rfl) ?_
  refine lv_iconst (v := 5) (pc := 1) hx hb dU_huge_1 (by decide) ?_
  refine fu_V (pc := 2) (rest := []) ⟨hx, hb, hml, hown, hts⟩ (c_U_raise l ad D cA h0 r0  md fl rg 5) (cwU_raise hts w_176 ⟨by decide, by decide⟩) hF hw hS rfl hl.1 rfl (Nat.le_of_ble_eq_true rfl) dU_huge_2 ⟨Nat.zero_le _, Nat.zero_le _⟩ (fun H locs hw hS => ?_)
  refine W.eq (g2 := F0 m 5 ls []) rfl ?_
  refine lv_aload_n (pc := 5) hx hb dU_huge_5 rfl (lv_at hl 0 rfl) ?_
  refine fu_md (pc := 6) hx hb hts hown hw w_19 dU_huge_6 ?_
  refine lv_iconst (v := 1) (pc := 9) hx hb dU_huge_9 (by decide) ?_
  refine lv_icmp_eq (tgt := 29) (pc := 10) hx hb dU_huge_10 (by decide) (fun h1 => ?_) (fun h1 => ?_)
  · skip
    refine lv_iconst (v := 1) (pc := 29) hx hb dU_huge_29 (by decide) ?_
    refine lv_goto (tgt := 34) (pc := 30) hx hb dU_huge_30 (by decide) ?_
    exact J34 (C_U_raise md fl 5) z2 true ls _ _ (lv_sub hl [0, 1, 2] rfl) hw hS ((show C_U_huge_34 md (C_U_raise md fl 5) i z2 true = C_U_huge md fl i z2 from by rw [C_U_huge, if_pos h1]))
  · skip
    refine lv_aload_n (pc := 13) hx hb dU_huge_13 rfl (lv_at hl 0 rfl) ?_
    refine fu_md (pc := 14) hx hb hts hown hw w_19 dU_huge_14 ?_
    refine lv_iload_n (pc := 17) hx hb dU_huge_17 rfl (lv_at hl 2 rfl) ?_
    refine lv_if_eq (tgt := 25) (pc := 18) hx hb dU_huge_18 (by decide) (fun h2 => ?_) (fun h2 => ?_)
    · skip
      have h2 : z2 = false := (bI_0 _).1 h2
      refine lv_iconst (v := 3) (pc := 25) hx hb dU_huge_25 (by decide) ?_
      refine lv_icmp_ne (tgt := 33) (pc := 26) hx hb dU_huge_26 (by decide) (fun h3 => ?_) (fun h3 => ?_)
      · skip
        refine lv_iconst (v := 0) (pc := 33) hx hb dU_huge_33 (by decide) ?_
        exact J34 (C_U_raise md fl 5) z2 false ls _ _ (lv_sub hl [0, 1, 2] rfl) hw hS ((show C_U_huge_34 md (C_U_raise md fl 5) i z2 false = C_U_huge md fl i z2 from by rw [C_U_huge, if_neg h1, if_pos h2, if_neg h3]))
      · skip
        refine lv_iconst (v := 1) (pc := 29) hx hb dU_huge_29 (by decide) ?_
        refine lv_goto (tgt := 34) (pc := 30) hx hb dU_huge_30 (by decide) ?_
        exact J34 (C_U_raise md fl 5) z2 true ls _ _ (lv_sub hl [0, 1, 2] rfl) hw hS ((show C_U_huge_34 md (C_U_raise md fl 5) i z2 true = C_U_huge md fl i z2 from by rw [C_U_huge, if_neg h1, if_pos h2, if_pos h3]))
    · skip
      have h2 : ¬ (z2 = false) := fun q => h2 ((bI_0 _).2 q)
      refine lv_iconst (v := 2) (pc := 21) hx hb dU_huge_21 (by decide) ?_
      refine lv_goto (tgt := 26) (pc := 22) hx hb dU_huge_22 (by decide) ?_
      refine lv_icmp_ne (tgt := 33) (pc := 26) hx hb dU_huge_26 (by decide) (fun h4 => ?_) (fun h4 => ?_)
      · skip
        refine lv_iconst (v := 0) (pc := 33) hx hb dU_huge_33 (by decide) ?_
        exact J34 (C_U_raise md fl 5) z2 false ls _ _ (lv_sub hl [0, 1, 2] rfl) hw hS ((show C_U_huge_34 md (C_U_raise md fl 5) i z2 false = C_U_huge md fl i z2 from by rw [C_U_huge, if_neg h1, if_neg h2, if_neg h4]))
      · skip
        refine lv_iconst (v := 1) (pc := 29) hx hb dU_huge_29 (by decide) ?_
        refine lv_goto (tgt := 34) (pc := 30) hx hb dU_huge_30 (by decide) ?_
        exact J34 (C_U_raise md fl 5) z2 true ls _ _ (lv_sub hl [0, 1, 2] rfl) hw hS ((show C_U_huge_34 md (C_U_raise md fl 5) i z2 true = C_U_huge md fl i z2 from by rw [C_U_huge, if_neg h1, if_neg h2, if_pos h4]))
def C_U_rounded_168 (md f9 : Int32) (i : Nat) (v2 : Bool) (u14 : Int64) (u16 : Int64) : Int64 × Int32 :=
  if u16 < (fEn i) then
    if u14 = 0 then
      (C_F_signed i v2 u16, f9)
    else
      if (fLe i) ≤ u16 then
        (C_F_signed i v2 u16, C_U_raise md f9 1)
      else
        (C_F_signed i v2 u16, C_U_raise md f9 3)
  else
    ((C_U_huge md f9 i v2).1, (C_U_huge md f9 i v2).2)
def C_U_rounded_153 (md f9 : Int32) (i : Nat) (v2 : Bool) (u10 : Int32) (u12 : Int64) (u14 : Int64) : Int64 × Int32 :=
  C_U_rounded_168 md f9 i v2 u14 ((((u10 - 1).toInt64) * (fLe i)) + u12)
def C_U_rounded_112 (md f9 : Int32) (i : Nat) (v2 : Bool) (u6 : Int64) (u10 : Int32) (u11 : Int32) : Int64 × Int32 :=
  if (C_U_goesAwayFromZero md f9 v2 (jUshr u6 u11) (u6 - (jShl (jUshr u6 u11) u11)) (jShl 1 (u11 - 1))) = false then
    C_U_rounded_153 md f9 i v2 u10 (jUshr u6 u11) (u6 - (jShl (jUshr u6 u11) u11))
  else
    C_U_rounded_153 md f9 i v2 u10 ((jUshr u6 u11) + 1) (u6 - (jShl (jUshr u6 u11) u11))
def C_U_rounded_87 (md f9 : Int32) (i : Nat) (v2 : Bool) (u6 : Int64) (u9 : Int32) (u10 : Int32) : Int64 × Int32 :=
  if ((C_F_unitPower i u10) - u9) ≤ 63 then
    C_U_rounded_112 md f9 i v2 u6 u10 ((C_F_unitPower i u10) - u9)
  else
    C_U_rounded_112 md f9 i v2 1 u10 63
def C_U_rounded_48 (md f9 : Int32) (i : Nat) (v2 : Bool) (u6 : Int64) (u8 : Int32) (u9 : Int32) : Int64 × Int32 :=
  if (jMax (((u9 - u8) + 62) + (fBi i)) 1) ≤ (2 * (fBi i)) then
    C_U_rounded_87 md f9 i v2 u6 (u9 - u8) (jMax (((u9 - u8) + 62) + (fBi i)) 1)
  else
    ((C_U_huge md f9 i v2).1, (C_U_huge md f9 i v2).2)
def C_U_rounded_17 (md f9 : Int32) (i : Nat) (v2 : Bool) (u3 : Int64) (u5 : Int32) (u6 : Int64) : Int64 × Int32 :=
  if 0 ≤ u3 then
    C_U_rounded_48 md f9 i v2 (jShl u6 (C_U_freePlaces u6)) (C_U_freePlaces u6) u5
  else
    C_U_rounded_48 md f9 i v2 (jShl u6 (C_U_freePlaces u6)) (C_U_freePlaces u6) (u5 + 1)
def C_U_rounded (md : Int32) (fl : Int32) (i : Nat) (z2 : Bool) (x3 : Int64) (k4 : Int32) : Int64 × Int32 :=
  if 0 ≤ x3 then
    C_U_rounded_17 md fl i z2 x3 k4 x3
  else
    C_U_rounded_17 md fl i z2 x3 k4 ((jUshr x3 1) ||| (x3 &&& 1))
abbrev rmU_rounded : Room := { frames := 3, cells := 0, slots := 0, locals := 67 }
theorem cwU_rounded {R : Room} {s : State} {args : Array Value} {w0 : Cond} {own : String} {idx : Nat} (hts : ∀ w ∈ (w0 :: bigW), w.before args s = true) (hl : Cond.methodLink own idx yU_rounded ∈ bigW) (hR : rmU_rounded.frames + 1 ≤ R.frames ∧ 8 + (18 + 11) + rmU_rounded.locals ≤ R.locals) : CallW R s args own "FloatUnit" idx yU_rounded cU_rounded 18 (some .long) (wsM yU_rounded cU_rounded 18 (some .long)) rmU_rounded 0 0 4 :=
  cwV 4 hts (big_V hl w_223 sel_U_rounded w_1 w_224) rfl rfl rfl ⟨rfl, by decide, by decide, by decide +kernel⟩ hR
set_option maxRecDepth 100000 in
set_option maxHeartbeats 8000000 in
theorem c_U_rounded (l : Launch) (ad : Nat → Nat) (D : va_G) (cA : ClassId) (h0 r0 : Nat) {i : Nat} (hi : i < 2) (md fl : Int32) (rg : Nat → Int64) (z2 : Bool) (x3 : Int64) (k4 : Int32) : FuM l ad D cA h0 r0 yU_rounded (wsM yU_rounded cU_rounded 18 (some .long)) rmU_rounded [.ref (ad i), .int (bI z2), .long x3, .int k4] md fl rg (some (.long ((C_U_rounded md fl i z2 x3 k4).1))) md (C_U_rounded md fl i z2 x3 k4).2 rg := by
  refine fu_ofL (cc := cU_rounded) (maxL := 18) (by decide) rfl (Nat.le_of_ble_eq_true rfl) ?_
  intro p e s m args below meth c Q hx hb hml hown hts hF H locs hS hw hret ls hl
  have hl : lv_has ls 18 [(0, .ref h0), (1, .ref (ad i)), (2, .int (bI z2)), (3, .long x3), (5, .int k4)] := hl
  have J168 : ∀ (f9 : Int32) (v2 : Bool) (u14 : Int64) (u16 : Int64) (ls : Array Slot) (H : Heap) (locs : List Loc), lv_has ls 18 [(0, .ref h0), (1, .ref (ad i)), (2, .int (bI v2)), (14, .long u14), (16, .long u16)] → FUw D cA h0 r0 md f9 rg s H → va_S (fA h0 r0) s.heap H locs → C_U_rounded_168 md f9 i v2 u14 u16 = C_U_rounded md fl i z2 x3 k4 → W p l e rmU_rounded s m args below meth c H locs 0 0 Q (F0 m 168 ls []) := by
    intro f9 v2 u14 u16 ls H locs hl hw hS he
    refine lv_lload (pc := 168) hx hb dU_rounded_168 (lv_at hl 4 rfl) ?_
    refine lv_aload_n (pc := 170) hx hb dU_rounded_170 rfl (lv_at hl 1 rfl) ?_
    refine fm_en (pc := 171) hx hb hF hi hS hown (hts _ (List.mem_cons_of_mem _ w_536)) dU_rounded_171 ?_
    refine W.lcmp (pc := 174) hx hb dU_rounded_174 ?_
    refine lv_if_lt (tgt := 185) (pc := 175) hx hb dU_rounded_175 (by decide) (fun h601 => ?_) (fun h601 => ?_)
    · skip
      have h601 : u16 < (fEn i) := (lg_cmp_lt _ _).1 h601
      refine lv_lload (pc := 185) hx hb dU_rounded_185 (lv_at hl 3 rfl) ?_
      refine lv_lconst (v := 0) (pc := 187) hx hb dU_rounded_187 (by decide) ?_
      refine W.lcmp (pc := 188) hx hb dU_rounded_188 ?_
      refine lv_if_eq (tgt := 211) (pc := 189) hx hb dU_rounded_189 (by decide) (fun h602 => ?_) (fun h602 => ?_)
      · skip
        have h602 : u14 = 0 := (lg_cmp_eq _ _).1 h602
        refine lv_aload_n (pc := 211) hx hb dU_rounded_211 rfl (lv_at hl 1 rfl) ?_
        refine lv_iload_n (pc := 212) hx hb dU_rounded_212 rfl (lv_at hl 2 rfl) ?_
        refine lv_lload (pc := 213) hx hb dU_rounded_213 (lv_at hl 4 rfl) ?_
        refine pu_V (pc := 215) (i := i) (rest := []) ⟨hx, hb, hml, hown, hts⟩ hi (c_F_signed l ad hi v2 u16) (cwF_signed hts w_243 ⟨by decide, by decide⟩) hF hS rfl hl.1 rfl (Nat.le_of_ble_eq_true rfl) dU_rounded_215 ⟨Nat.zero_le _, Nat.zero_le _⟩ ?_
        have he9 := (show (C_F_signed i v2 u16, f9) = C_U_rounded_168 md f9 i v2 u14 u16 from by rw [C_U_rounded_168, if_pos h601, if_pos h602]).trans he
        exact hret _ _ _ _ _ _ _ _ (congrArg Prod.fst he9) rfl (congrArg Prod.snd he9) rfl hw hS dU_rounded_218
      · skip
        have h602 : ¬ (u14 = 0) := fun q => h602 ((lg_cmp_eq _ _).2 q)
        refine lv_aload_n (pc := 192) hx hb dU_rounded_192 rfl (lv_at hl 0 rfl) ?_
        refine lv_lload (pc := 193) hx hb dU_rounded_193 (lv_at hl 4 rfl) ?_
        refine lv_aload_n (pc := 195) hx hb dU_rounded_195 rfl (lv_at hl 1 rfl) ?_
        refine fm_le (pc := 196) hx hb hF hi hS hown (hts _ (List.mem_cons_of_mem _ w_535)) dU_rounded_196 ?_
        refine W.lcmp (pc := 199) hx hb dU_rounded_199 ?_
        refine lv_if_ge (tgt := 207) (pc := 200) hx hb dU_rounded_200 (by decide) (fun h603 => ?_) (fun h603 => ?_)
        · skip
          have h603 : (fLe i) ≤ u16 := (lg_cmp_ge _ _).1 h603
          refine lv_iconst (v := 1) (pc := 207) hx hb dU_rounded_207 (by decide) ?_
          refine fu_V (pc := 208) (rest := []) ⟨hx, hb, hml, hown, hts⟩ (c_U_raise l ad D cA h0 r0  md f9 rg 1) (cwU_raise hts w_176 ⟨by decide, by decide⟩) hF hw hS rfl hl.1 rfl (Nat.le_of_ble_eq_true rfl) dU_rounded_208 ⟨Nat.zero_le _, Nat.zero_le _⟩ (fun H locs hw hS => ?_)
          refine W.eq (g2 := F0 m 211 ls []) rfl ?_
          refine lv_aload_n (pc := 211) hx hb dU_rounded_211 rfl (lv_at hl 1 rfl) ?_
          refine lv_iload_n (pc := 212) hx hb dU_rounded_212 rfl (lv_at hl 2 rfl) ?_
          refine lv_lload (pc := 213) hx hb dU_rounded_213 (lv_at hl 4 rfl) ?_
          refine pu_V (pc := 215) (i := i) (rest := []) ⟨hx, hb, hml, hown, hts⟩ hi (c_F_signed l ad hi v2 u16) (cwF_signed hts w_243 ⟨by decide, by decide⟩) hF hS rfl hl.1 rfl (Nat.le_of_ble_eq_true rfl) dU_rounded_215 ⟨Nat.zero_le _, Nat.zero_le _⟩ ?_
          have he9 := (show (C_F_signed i v2 u16, C_U_raise md f9 1) = C_U_rounded_168 md f9 i v2 u14 u16 from by rw [C_U_rounded_168, if_pos h601, if_neg h602, if_pos h603]).trans he
          exact hret _ _ _ _ _ _ _ _ (congrArg Prod.fst he9) rfl (congrArg Prod.snd he9) rfl hw hS dU_rounded_218
        · skip
          have h603 : ¬ ((fLe i) ≤ u16) := fun q => h603 ((lg_cmp_ge _ _).2 q)
          refine lv_iconst (v := 3) (pc := 203) hx hb dU_rounded_203 (by decide) ?_
          refine lv_goto (tgt := 208) (pc := 204) hx hb dU_rounded_204 (by decide) ?_
          refine fu_V (pc := 208) (rest := []) ⟨hx, hb, hml, hown, hts⟩ (c_U_raise l ad D cA h0 r0  md f9 rg 3) (cwU_raise hts w_176 ⟨by decide, by decide⟩) hF hw hS rfl hl.1 rfl (Nat.le_of_ble_eq_true rfl) dU_rounded_208 ⟨Nat.zero_le _, Nat.zero_le _⟩ (fun H locs hw hS => ?_)
          refine W.eq (g2 := F0 m 211 ls []) rfl ?_
          refine lv_aload_n (pc := 211) hx hb dU_rounded_211 rfl (lv_at hl 1 rfl) ?_
          refine lv_iload_n (pc := 212) hx hb dU_rounded_212 rfl (lv_at hl 2 rfl) ?_
          refine lv_lload (pc := 213) hx hb dU_rounded_213 (lv_at hl 4 rfl) ?_
          refine pu_V (pc := 215) (i := i) (rest := []) ⟨hx, hb, hml, hown, hts⟩ hi (c_F_signed l ad hi v2 u16) (cwF_signed hts w_243 ⟨by decide, by decide⟩) hF hS rfl hl.1 rfl (Nat.le_of_ble_eq_true rfl) dU_rounded_215 ⟨Nat.zero_le _, Nat.zero_le _⟩ ?_
          have he9 := (show (C_F_signed i v2 u16, C_U_raise md f9 3) = C_U_rounded_168 md f9 i v2 u14 u16 from by rw [C_U_rounded_168, if_pos h601, if_neg h602, if_neg h603]).trans he
          exact hret _ _ _ _ _ _ _ _ (congrArg Prod.fst he9) rfl (congrArg Prod.snd he9) rfl hw hS dU_rounded_218
    · skip
      have h601 : ¬ (u16 < (fEn i)) := fun q => h601 ((lg_cmp_lt _ _).2 q)
      refine lv_aload_n (pc := 178) hx hb dU_rounded_178 rfl (lv_at hl 0 rfl) ?_
      refine lv_aload_n (pc := 179) hx hb dU_rounded_179 rfl (lv_at hl 1 rfl) ?_
      refine lv_iload_n (pc := 180) hx hb dU_rounded_180 rfl (lv_at hl 2 rfl) ?_
      refine fu_V (pc := 181) (rest := []) ⟨hx, hb, hml, hown, hts⟩ (c_U_huge l ad D cA h0 r0 hi md f9 rg v2) (cwU_huge hts w_226 ⟨by decide, by decide⟩) hF hw hS rfl hl.1 rfl (Nat.le_of_ble_eq_true rfl) dU_rounded_181 ⟨Nat.zero_le _, Nat.zero_le _⟩ (fun H locs hw hS => ?_)
      refine W.eq (g2 := F0 m 184 ls [.long ((C_U_huge md f9 i v2).1)]) rfl ?_
      have he9 := (show ((C_U_huge md f9 i v2).1, (C_U_huge md f9 i v2).2) = C_U_rounded_168 md f9 i v2 u14 u16 from by rw [C_U_rounded_168, if_neg h601]).trans he
      exact hret _ _ _ _ _ _ _ _ (congrArg Prod.fst he9) rfl (congrArg Prod.snd he9) rfl hw hS dU_rounded_184
  have J153 : ∀ (f9 : Int32) (v2 : Bool) (u10 : Int32) (u12 : Int64) (u14 : Int64) (ls : Array Slot) (H : Heap) (locs : List Loc), lv_has ls 18 [(0, .ref h0), (1, .ref (ad i)), (2, .int (bI v2)), (10, .int u10), (12, .long u12), (14, .long u14)] → FUw D cA h0 r0 md f9 rg s H → va_S (fA h0 r0) s.heap H locs → C_U_rounded_153 md f9 i v2 u10 u12 u14 = C_U_rounded md fl i z2 x3 k4 → W p l e rmU_rounded s m args below meth c H locs 0 0 Q (F0 m 153 ls []) := by
    intro f9 v2 u10 u12 u14 ls H locs hl hw hS he
    refine lv_iload (pc := 153) hx hb dU_rounded_153 (lv_at hl 3 rfl) ?_
    refine lv_iconst (v := 1) (pc := 155) hx hb dU_rounded_155 (by decide) ?_
    refine lv_isub (pc := 156) hx hb dU_rounded_156 ?_
    refine lv_i2l (v := (u10 - 1).toInt64) (pc := 157) hx hb dU_rounded_157 rfl ?_
    refine lv_aload_n (pc := 158) hx hb dU_rounded_158 rfl (lv_at hl 1 rfl) ?_
    refine fm_le (pc := 159) hx hb hF hi hS hown (hts _ (List.mem_cons_of_mem _ w_535)) dU_rounded_159 ?_
    refine lv_lmul (pc := 162) hx hb dU_rounded_162 ?_
    refine lv_lload (pc := 163) hx hb dU_rounded_163 (lv_at hl 4 rfl) ?_
    refine lv_ladd (pc := 165) hx hb dU_rounded_165 ?_
    refine lv_lstore (lv' := [(16, .long ((((u10 - 1).toInt64) * (fLe i)) + u12)), (0, .ref h0), (1, .ref (ad i)), (2, .int (bI v2)), (10, .int u10), (12, .long u12), (14, .long u14)]) (pc := 166) hx hb dU_rounded_166 hl (by decide) rfl (fun ls hl => ?_)
    exact J168 f9 v2 u14 ((((u10 - 1).toInt64) * (fLe i)) + u12) ls _ _ (lv_sub hl [1, 2, 3, 6, 0] rfl) hw hS ((show C_U_rounded_168 md f9 i v2 u14 ((((u10 - 1).toInt64) * (fLe i)) + u12) = C_U_rounded_153 md f9 i v2 u10 u12 u14 from by rw [C_U_rounded_153]).trans he)
  have J112 : ∀ (f9 : Int32) (v2 : Bool) (u6 : Int64) (u10 : Int32) (u11 : Int32) (ls : Array Slot) (H : Heap) (locs : List Loc), lv_has ls 18 [(0, .ref h0), (1, .ref (ad i)), (2, .int (bI v2)), (6, .long u6), (10, .int u10), (11, .int u11)] → FUw D cA h0 r0 md f9 rg s H → va_S (fA h0 r0) s.heap H locs → C_U_rounded_112 md f9 i v2 u6 u10 u11 = C_U_rounded md fl i z2 x3 k4 → W p l e rmU_rounded s m args below meth c H locs 0 0 Q (F0 m 112 ls []) := by
    intro f9 v2 u6 u10 u11 ls H locs hl hw hS he
    refine lv_lload (pc := 112) hx hb dU_rounded_112 (lv_at hl 3 rfl) ?_
    refine lv_iload (pc := 114) hx hb dU_rounded_114 (lv_at hl 5 rfl) ?_
    refine lv_lushr (v := jUshr u6 u11) (pc := 116) hx hb dU_rounded_116 rfl ?_
    refine lv_lstore (lv' := [(12, .long (jUshr u6 u11)), (0, .ref h0), (1, .ref (ad i)), (2, .int (bI v2)), (6, .long u6), (10, .int u10), (11, .int u11)]) (pc := 117) hx hb dU_rounded_117 hl (by decide) rfl (fun ls hl => ?_)
    refine lv_lload (pc := 119) hx hb dU_rounded_119 (lv_at hl 4 rfl) ?_
    refine lv_lload (pc := 121) hx hb dU_rounded_121 (lv_at hl 0 rfl) ?_
    refine lv_iload (pc := 123) hx hb dU_rounded_123 (lv_at hl 6 rfl) ?_
    refine lv_lshl (v := jShl (jUshr u6 u11) u11) (pc := 125) hx hb dU_rounded_125 rfl ?_
    refine lv_lsub (pc := 126) hx hb dU_rounded_126 ?_
    refine lv_lstore (lv' := [(14, .long (u6 - (jShl (jUshr u6 u11) u11))), (12, .long (jUshr u6 u11)), (0, .ref h0), (1, .ref (ad i)), (2, .int (bI v2)), (6, .long u6), (10, .int u10), (11, .int u11)]) (pc := 127) hx hb dU_rounded_127 hl (by decide) rfl (fun ls hl => ?_)
    refine lv_aload_n (pc := 129) hx hb dU_rounded_129 rfl (lv_at hl 2 rfl) ?_
    refine lv_iload_n (pc := 130) hx hb dU_rounded_130 rfl (lv_at hl 4 rfl) ?_
    refine lv_lload (pc := 131) hx hb dU_rounded_131 (lv_at hl 1 rfl) ?_
    refine lv_lload (pc := 133) hx hb dU_rounded_133 (lv_at hl 0 rfl) ?_
    refine lv_lconst (v := 1) (pc := 135) hx hb dU_rounded_135 (by decide) ?_
    refine lv_iload (pc := 136) hx hb dU_rounded_136 (lv_at hl 7 rfl) ?_
    refine lv_iconst (v := 1) (pc := 138) hx hb dU_rounded_138 (by decide) ?_
    refine lv_isub (pc := 139) hx hb dU_rounded_139 ?_
    refine lv_lshl (v := jShl 1 (u11 - 1)) (pc := 140) hx hb dU_rounded_140 rfl ?_
    refine fu_V (pc := 141) (rest := []) ⟨hx, hb, hml, hown, hts⟩ (c_U_goesAwayFromZero l ad D cA h0 r0  md f9 rg v2 (jUshr u6 u11) (u6 - (jShl (jUshr u6 u11) u11)) (jShl 1 (u11 - 1))) (cwU_goesAwayFromZero hts w_239 ⟨by decide, by decide⟩) hF hw hS rfl hl.1 rfl (Nat.le_of_ble_eq_true rfl) dU_rounded_141 ⟨Nat.zero_le _, Nat.zero_le _⟩ (fun H locs hw hS => ?_)
    refine W.eq (g2 := F0 m 144 ls [.int (bI (C_U_goesAwayFromZero md f9 v2 (jUshr u6 u11) (u6 - (jShl (jUshr u6 u11) u11)) (jShl 1 (u11 - 1))))]) rfl ?_
    refine lv_if_eq (tgt := 153) (pc := 144) hx hb dU_rounded_144 (by decide) (fun h401 => ?_) (fun h401 => ?_)
    · skip
      have h401 : (C_U_goesAwayFromZero md f9 v2 (jUshr u6 u11) (u6 - (jShl (jUshr u6 u11) u11)) (jShl 1 (u11 - 1))) = false := (bI_0 _).1 h401
      exact J153 f9 v2 u10 (jUshr u6 u11) (u6 - (jShl (jUshr u6 u11) u11)) ls _ _ (lv_sub hl [2, 3, 4, 6, 1, 0] rfl) hw hS ((show C_U_rounded_153 md f9 i v2 u10 (jUshr u6 u11) (u6 - (jShl (jUshr u6 u11) u11)) = C_U_rounded_112 md f9 i v2 u6 u10 u11 from by rw [C_U_rounded_112, if_pos h401]).trans he)
    · skip
      have h401 : ¬ ((C_U_goesAwayFromZero md f9 v2 (jUshr u6 u11) (u6 - (jShl (jUshr u6 u11) u11)) (jShl 1 (u11 - 1))) = false) := fun q => h401 ((bI_0 _).2 q)
      refine lv_lload (pc := 147) hx hb dU_rounded_147 (lv_at hl 1 rfl) ?_
      refine lv_lconst (v := 1) (pc := 149) hx hb dU_rounded_149 (by decide) ?_
      refine lv_ladd (pc := 150) hx hb dU_rounded_150 ?_
      refine lv_lstore (lv' := [(12, .long ((jUshr u6 u11) + 1)), (14, .long (u6 - (jShl (jUshr u6 u11) u11))), (0, .ref h0), (1, .ref (ad i)), (2, .int (bI v2)), (6, .long u6), (10, .int u10), (11, .int u11)]) (pc := 151) hx hb dU_rounded_151 hl (by decide) rfl (fun ls hl => ?_)
      exact J153 f9 v2 u10 ((jUshr u6 u11) + 1) (u6 - (jShl (jUshr u6 u11) u11)) ls _ _ (lv_sub hl [2, 3, 4, 6, 0, 1] rfl) hw hS ((show C_U_rounded_153 md f9 i v2 u10 ((jUshr u6 u11) + 1) (u6 - (jShl (jUshr u6 u11) u11)) = C_U_rounded_112 md f9 i v2 u6 u10 u11 from by rw [C_U_rounded_112, if_neg h401]).trans he)
  have J87 : ∀ (f9 : Int32) (v2 : Bool) (u6 : Int64) (u9 : Int32) (u10 : Int32) (ls : Array Slot) (H : Heap) (locs : List Loc), lv_has ls 18 [(0, .ref h0), (1, .ref (ad i)), (2, .int (bI v2)), (6, .long u6), (9, .int u9), (10, .int u10)] → FUw D cA h0 r0 md f9 rg s H → va_S (fA h0 r0) s.heap H locs → C_U_rounded_87 md f9 i v2 u6 u9 u10 = C_U_rounded md fl i z2 x3 k4 → W p l e rmU_rounded s m args below meth c H locs 0 0 Q (F0 m 87 ls []) := by
    intro f9 v2 u6 u9 u10 ls H locs hl hw hS he
    refine lv_aload_n (pc := 87) hx hb dU_rounded_87 rfl (lv_at hl 1 rfl) ?_
    refine lv_iload (pc := 88) hx hb dU_rounded_88 (lv_at hl 5 rfl) ?_
    refine pu_V (pc := 90) (i := i) (rest := []) ⟨hx, hb, hml, hown, hts⟩ hi (c_F_unitPower l ad hi u10) (cwF_unitPower hts w_238 ⟨by decide, by decide⟩) hF hS rfl hl.1 rfl (Nat.le_of_ble_eq_true rfl) dU_rounded_90 ⟨Nat.zero_le _, Nat.zero_le _⟩ ?_
    refine lv_iload (pc := 93) hx hb dU_rounded_93 (lv_at hl 4 rfl) ?_
    refine lv_isub (pc := 95) hx hb dU_rounded_95 ?_
    refine lv_istore (lv' := [(11, .int ((C_F_unitPower i u10) - u9)), (0, .ref h0), (1, .ref (ad i)), (2, .int (bI v2)), (6, .long u6), (9, .int u9), (10, .int u10)]) (pc := 96) hx hb dU_rounded_96 hl (by decide) rfl (fun ls hl => ?_)
    refine lv_iload (pc := 98) hx hb dU_rounded_98 (lv_at hl 0 rfl) ?_
    refine lv_bipush (v := 63) (pc := 100) hx hb dU_rounded_100 (by decide) ?_
    refine lv_icmp_le (tgt := 112) (pc := 102) hx hb dU_rounded_102 (by decide) (fun h301 => ?_) (fun h301 => ?_)
    · skip
      exact J112 f9 v2 u6 u10 ((C_F_unitPower i u10) - u9) ls _ _ (lv_sub hl [1, 2, 3, 4, 6, 0] rfl) hw hS ((show C_U_rounded_112 md f9 i v2 u6 u10 ((C_F_unitPower i u10) - u9) = C_U_rounded_87 md f9 i v2 u6 u9 u10 from by rw [C_U_rounded_87, if_pos h301]).trans he)
    · skip
      refine lv_lconst (v := 1) (pc := 105) hx hb dU_rounded_105 (by decide) ?_
      refine lv_lstore (lv' := [(6, .long 1), (11, .int ((C_F_unitPower i u10) - u9)), (0, .ref h0), (1, .ref (ad i)), (2, .int (bI v2)), (9, .int u9), (10, .int u10)]) (pc := 106) hx hb dU_rounded_106 hl (by decide) rfl (fun ls hl => ?_)
      refine lv_bipush (v := 63) (pc := 108) hx hb dU_rounded_108 (by decide) ?_
      refine lv_istore (lv' := [(11, .int 63), (6, .long 1), (0, .ref h0), (1, .ref (ad i)), (2, .int (bI v2)), (9, .int u9), (10, .int u10)]) (pc := 110) hx hb dU_rounded_110 hl (by decide) rfl (fun ls hl => ?_)
      exact J112 f9 v2 1 u10 63 ls _ _ (lv_sub hl [2, 3, 4, 1, 6, 0] rfl) hw hS ((show C_U_rounded_112 md f9 i v2 1 u10 63 = C_U_rounded_87 md f9 i v2 u6 u9 u10 from by rw [C_U_rounded_87, if_neg h301]).trans he)
  have J48 : ∀ (f9 : Int32) (v2 : Bool) (u6 : Int64) (u8 : Int32) (u9 : Int32) (ls : Array Slot) (H : Heap) (locs : List Loc), lv_has ls 18 [(0, .ref h0), (1, .ref (ad i)), (2, .int (bI v2)), (6, .long u6), (8, .int u8)] → FUw D cA h0 r0 md f9 rg s H → va_S (fA h0 r0) s.heap H locs → C_U_rounded_48 md f9 i v2 u6 u8 u9 = C_U_rounded md fl i z2 x3 k4 → W p l e rmU_rounded s m args below meth c H locs 0 0 Q (F0 m 48 ls [.int u9]) := by
    intro f9 v2 u6 u8 u9 ls H locs hl hw hS he
    refine lv_iload (pc := 48) hx hb dU_rounded_48 (lv_at hl 4 rfl) ?_
    refine lv_isub (pc := 50) hx hb dU_rounded_50 ?_
    refine lv_istore (lv' := [(9, .int (u9 - u8)), (0, .ref h0), (1, .ref (ad i)), (2, .int (bI v2)), (6, .long u6), (8, .int u8)]) (pc := 51) hx hb dU_rounded_51 hl (by decide) rfl (fun ls hl => ?_)
    refine lv_iload (pc := 53) hx hb dU_rounded_53 (lv_at hl 0 rfl) ?_
    refine lv_bipush (v := 62) (pc := 55) hx hb dU_rounded_55 (by decide) ?_
    refine lv_iadd (pc := 57) hx hb dU_rounded_57 ?_
    refine lv_aload_n (pc := 58) hx hb dU_rounded_58 rfl (lv_at hl 2 rfl) ?_
    refine fm_bi (pc := 59) hx hb hF hi hS hown (hts _ (List.mem_cons_of_mem _ w_534)) dU_rounded_59 ?_
    refine lv_iadd (pc := 62) hx hb dU_rounded_62 ?_
    refine lv_iconst (v := 1) (pc := 63) hx hb dU_rounded_63 (by decide) ?_
    refine va_mmax (pc := 64) hx hb (hml.trans hl.1.symm) hown (hts _ (List.mem_cons_of_mem _ w_202)) (hts _ (List.mem_cons_of_mem _ w_185)) (hts _ (List.mem_cons_of_mem _ w_9)) (hts _ (List.mem_cons_of_mem _ w_186)) (by decide) (Nat.le_of_ble_eq_true rfl) (Nat.zero_le _) (Nat.zero_le _) dU_rounded_64 ?_
    refine lv_topi (fun v201 e201 => ?_)
    obtain rfl : v201 = jMax (((u9 - u8) + 62) + (fBi i)) 1 := e201
    refine lv_istore (lv' := [(10, .int (jMax (((u9 - u8) + 62) + (fBi i)) 1)), (9, .int (u9 - u8)), (0, .ref h0), (1, .ref (ad i)), (2, .int (bI v2)), (6, .long u6), (8, .int u8)]) (pc := 67) hx hb dU_rounded_67 hl (by decide) rfl (fun ls hl => ?_)
    refine lv_iload (pc := 69) hx hb dU_rounded_69 (lv_at hl 0 rfl) ?_
    refine lv_iconst (v := 2) (pc := 71) hx hb dU_rounded_71 (by decide) ?_
    refine lv_aload_n (pc := 72) hx hb dU_rounded_72 rfl (lv_at hl 3 rfl) ?_
    refine fm_bi (pc := 73) hx hb hF hi hS hown (hts _ (List.mem_cons_of_mem _ w_534)) dU_rounded_73 ?_
    refine lv_imul (pc := 76) hx hb dU_rounded_76 ?_
    refine lv_icmp_le (tgt := 87) (pc := 77) hx hb dU_rounded_77 (by decide) (fun h201 => ?_) (fun h201 => ?_)
    · skip
      exact J87 f9 v2 u6 (u9 - u8) (jMax (((u9 - u8) + 62) + (fBi i)) 1) ls _ _ (lv_sub hl [2, 3, 4, 5, 1, 0] rfl) hw hS ((show C_U_rounded_87 md f9 i v2 u6 (u9 - u8) (jMax (((u9 - u8) + 62) + (fBi i)) 1) = C_U_rounded_48 md f9 i v2 u6 u8 u9 from by rw [C_U_rounded_48, if_pos h201]).trans he)
    · skip
      refine lv_aload_n (pc := 80) hx hb dU_rounded_80 rfl (lv_at hl 2 rfl) ?_
      refine lv_aload_n (pc := 81) hx hb dU_rounded_81 rfl (lv_at hl 3 rfl) ?_
      refine lv_iload_n (pc := 82) hx hb dU_rounded_82 rfl (lv_at hl 4 rfl) ?_
      refine fu_V (pc := 83) (rest := []) ⟨hx, hb, hml, hown, hts⟩ (c_U_huge l ad D cA h0 r0 hi md f9 rg v2) (cwU_huge hts w_226 ⟨by decide, by decide⟩) hF hw hS rfl hl.1 rfl (Nat.le_of_ble_eq_true rfl) dU_rounded_83 ⟨Nat.zero_le _, Nat.zero_le _⟩ (fun H locs hw hS => ?_)
      refine W.eq (g2 := F0 m 86 ls [.long ((C_U_huge md f9 i v2).1)]) rfl ?_
      have he9 := (show ((C_U_huge md f9 i v2).1, (C_U_huge md f9 i v2).2) = C_U_rounded_48 md f9 i v2 u6 u8 u9 from by rw [C_U_rounded_48, if_neg h201]).trans he
      exact hret _ _ _ _ _ _ _ _ (congrArg Prod.fst he9) rfl (congrArg Prod.snd he9) rfl hw hS dU_rounded_86
  have J17 : ∀ (f9 : Int32) (v2 : Bool) (u3 : Int64) (u5 : Int32) (u6 : Int64) (ls : Array Slot) (H : Heap) (locs : List Loc), lv_has ls 18 [(0, .ref h0), (1, .ref (ad i)), (2, .int (bI v2)), (3, .long u3), (5, .int u5)] → FUw D cA h0 r0 md f9 rg s H → va_S (fA h0 r0) s.heap H locs → C_U_rounded_17 md f9 i v2 u3 u5 u6 = C_U_rounded md fl i z2 x3 k4 → W p l e rmU_rounded s m args below meth c H locs 0 0 Q (F0 m 17 ls [.long u6]) := by
    intro f9 v2 u3 u5 u6 ls H locs hl hw hS he
    refine lv_lstore (lv' := [(6, .long u6), (0, .ref h0), (1, .ref (ad i)), (2, .int (bI v2)), (3, .long u3), (5, .int u5)]) (pc := 17) hx hb dU_rounded_17 hl (by decide) rfl (fun ls hl => ?_)
    refine lv_lload (pc := 19) hx hb dU_rounded_19 (lv_at hl 0 rfl) ?_
    refine pu_S (pc := 21) (rest := []) ⟨hx, hb, hml, hown, hts⟩ (c_U_freePlaces l ad u6) (cwU_freePlaces hts w_225 ⟨by decide, by decide⟩) hF hS rfl hl.1 rfl (Nat.le_of_ble_eq_true rfl) dU_rounded_21 ⟨Nat.zero_le _, Nat.zero_le _⟩ ?_
    refine lv_istore (lv' := [(8, .int (C_U_freePlaces u6)), (6, .long u6), (0, .ref h0), (1, .ref (ad i)), (2, .int (bI v2)), (3, .long u3), (5, .int u5)]) (pc := 24) hx hb dU_rounded_24 hl (by decide) rfl (fun ls hl => ?_)
    refine lv_lload (pc := 26) hx hb dU_rounded_26 (lv_at hl 1 rfl) ?_
    refine lv_iload (pc := 28) hx hb dU_rounded_28 (lv_at hl 0 rfl) ?_
    refine lv_lshl (v := jShl u6 (C_U_freePlaces u6)) (pc := 30) hx hb dU_rounded_30 rfl ?_
    refine lv_lstore (lv' := [(6, .long (jShl u6 (C_U_freePlaces u6))), (8, .int (C_U_freePlaces u6)), (0, .ref h0), (1, .ref (ad i)), (2, .int (bI v2)), (3, .long u3), (5, .int u5)]) (pc := 31) hx hb dU_rounded_31 hl (by decide) rfl (fun ls hl => ?_)
    refine lv_lload_n (pc := 33) hx hb dU_rounded_33 rfl (lv_at hl 5 rfl) ?_
    refine lv_lconst (v := 0) (pc := 34) hx hb dU_rounded_34 (by decide) ?_
    refine W.lcmp (pc := 35) hx hb dU_rounded_35 ?_
    refine lv_if_ge (tgt := 46) (pc := 36) hx hb dU_rounded_36 (by decide) (fun h101 => ?_) (fun h101 => ?_)
    · skip
      have h101 : 0 ≤ u3 := (lg_cmp_ge _ _).1 h101
      refine lv_iload (pc := 46) hx hb dU_rounded_46 (lv_at hl 6 rfl) ?_
      exact J48 f9 v2 (jShl u6 (C_U_freePlaces u6)) (C_U_freePlaces u6) u5 ls _ _ (lv_sub hl [2, 3, 4, 0, 1] rfl) hw hS ((show C_U_rounded_48 md f9 i v2 (jShl u6 (C_U_freePlaces u6)) (C_U_freePlaces u6) u5 = C_U_rounded_17 md f9 i v2 u3 u5 u6 from by rw [C_U_rounded_17, if_pos h101]).trans he)
    · skip
      have h101 : ¬ (0 ≤ u3) := fun q => h101 ((lg_cmp_ge _ _).2 q)
      refine lv_iload (pc := 39) hx hb dU_rounded_39 (lv_at hl 6 rfl) ?_
      refine lv_iconst (v := 1) (pc := 41) hx hb dU_rounded_41 (by decide) ?_
      refine lv_iadd (pc := 42) hx hb dU_rounded_42 ?_
      refine lv_goto (tgt := 48) (pc := 43) hx hb dU_rounded_43 (by decide) ?_
      exact J48 f9 v2 (jShl u6 (C_U_freePlaces u6)) (C_U_freePlaces u6) (u5 + 1) ls _ _ (lv_sub hl [2, 3, 4, 0, 1] rfl) hw hS ((show C_U_rounded_48 md f9 i v2 (jShl u6 (C_U_freePlaces u6)) (C_U_freePlaces u6) (u5 + 1) = C_U_rounded_17 md f9 i v2 u3 u5 u6 from by rw [C_U_rounded_17, if_neg h101]).trans he)
  refine lv_lload_n (pc := 0) hx hb dU_rounded_0 rfl (lv_at hl 3 rfl) ?_
  refine lv_lconst (v := 0) (pc := 1) hx hb dU_rounded_1 (by decide) ?_
  refine W.lcmp (pc := 2) hx hb dU_rounded_2 ?_
  refine lv_if_ge (tgt := 16) (pc := 3) hx hb dU_rounded_3 (by decide) (fun h1 => ?_) (fun h1 => ?_)
  · skip
    have h1 : 0 ≤ x3 := (lg_cmp_ge _ _).1 h1
    refine lv_lload_n (pc := 16) hx hb dU_rounded_16 rfl (lv_at hl 3 rfl) ?_
    exact J17 fl z2 x3 k4 x3 ls _ _ (lv_sub hl [0, 1, 2, 3, 4] rfl) hw hS ((show C_U_rounded_17 md fl i z2 x3 k4 x3 = C_U_rounded md fl i z2 x3 k4 from by rw [C_U_rounded, if_pos h1]))
  · skip
    have h1 : ¬ (0 ≤ x3) := fun q => h1 ((lg_cmp_ge _ _).2 q)
    refine lv_lload_n (pc := 6) hx hb dU_rounded_6 rfl (lv_at hl 3 rfl) ?_
    refine lv_iconst (v := 1) (pc := 7) hx hb dU_rounded_7 (by decide) ?_
    refine lv_lushr (v := jUshr x3 1) (pc := 8) hx hb dU_rounded_8 rfl ?_
    refine lv_lload_n (pc := 9) hx hb dU_rounded_9 rfl (lv_at hl 3 rfl) ?_
    refine lv_lconst (v := 1) (pc := 10) hx hb dU_rounded_10 (by decide) ?_
    refine lv_land (pc := 11) hx hb dU_rounded_11 ?_
    refine lv_lor (pc := 12) hx hb dU_rounded_12 ?_
    refine lv_goto (tgt := 17) (pc := 13) hx hb dU_rounded_13 (by decide) ?_
    exact J17 fl z2 x3 k4 ((jUshr x3 1) ||| (x3 &&& 1)) ls _ _ (lv_sub hl [0, 1, 2, 3, 4] rfl) hw hS ((show C_U_rounded_17 md fl i z2 x3 k4 ((jUshr x3 1) ||| (x3 &&& 1)) = C_U_rounded md fl i z2 x3 k4 from by rw [C_U_rounded, if_neg h1]))
