/-! The rest: its loop by hand; the choice of the operation. -/
def restLoop : Nat → Int64 → Int64 → Int32 → Int64
  | 0, _, u, _ => u
  | n + 1, d, u, k => if k ≤ 0 then u else restLoop n d ((jShl u (jMin k 10)) - (jShl u (jMin k 10)) / d * d) (k + (-10))
theorem rest_neg {k : Int32} (h : k.toInt < ((0 : Nat) : Int)) : k ≤ 0 := by
  rw [Int32.le_iff_toInt_le, Int32.toInt_zero]
  omega
theorem rest_dec {k : Int32} {n : Nat} (h : k.toInt < ((n + 1 : Nat) : Int)) (h1 : ¬ k ≤ 0) : (k + (-10)).toInt < (n : Int) := by
  obtain ⟨z, hz, rfl⟩ := iI_of k
  have e : iI z + (-10) = iI (z - 10) := by
    rw [show (-10 : Int32) = iI (-10) from rfl, iI_add, Int.sub_eq_add_neg]
  rw [Int32.le_iff_toInt_le, Int32.toInt_zero, iI_toInt hz] at h1
  rw [iI_toInt hz] at h
  obtain ⟨a, b⟩ := hz
  rw [e, iI_toInt ⟨by omega, by omega⟩]
  omega
theorem rest_fuel (k : Int32) : k.toInt < ((k.toNatClampNeg + 1 : Nat) : Int) := by
  have h : k.toNatClampNeg = k.toInt.toNat := rfl
  omega
def C_U_rest_99 (md f9 : Int32) (i : Nat) (u2 : Int64) (u4 : Int64) (u9 : Int64) : Int64 × Int32 :=
  if u9 = 0 then
    (C_F_zero i (C_F_isMinus i u2), f9)
  else
    ((C_U_rounded md f9 i (C_F_isMinus i u2) u9 (C_F_power i u4)).1, (C_U_rounded md f9 i (C_F_isMinus i u2) u9 (C_F_power i u4)).2)
def C_U_rest_73 (md f9 : Int32) (i : Nat) (u2 u4 u6 u9 : Int64) (u11 : Int32) : Int64 × Int32 := C_U_rest_99 md f9 i u2 u4 (restLoop (u11.toNatClampNeg + 1) u6 u9 u11)
def C_U_rest (md : Int32) (fl : Int32) (i : Nat) (x2 : Int64) (x3 : Int64) : Int64 × Int32 :=
  if (C_F_isEndless i x2) = false then
    if (C_F_significand i x3) = 0 then
      ((C_U_invalid md fl i).1, (C_U_invalid md fl i).2)
    else
      if (C_F_isEndless i x3) = false then
        if 0 ≤ ((C_F_power i x2) - (C_F_power i x3)) then
          C_U_rest_73 md fl i x2 x3 (C_F_significand i x3) ((C_F_significand i x2) - (C_F_significand i x2) / (C_F_significand i x3) * (C_F_significand i x3)) ((C_F_power i x2) - (C_F_power i x3))
        else
          (x2, fl)
      else
        (x2, fl)
  else
    ((C_U_invalid md fl i).1, (C_U_invalid md fl i).2)
abbrev rmU_rest : Room := { frames := 4, cells := 0, slots := 0, locals := 104 }
theorem cwU_rest {R : Room} {s : State} {args : Array Value} {w0 : Cond} {own : String} {idx : Nat} (hts : ∀ w ∈ (w0 :: bigW), w.before args s = true) (hl : Cond.methodLink own idx yU_rest ∈ bigW) (hR : rmU_rest.frames + 1 ≤ R.frames ∧ 8 + (12 + 11) + rmU_rest.locals ≤ R.locals) : CallW R s args own "FloatUnit" idx yU_rest cU_rest 12 (some .long) (wsM yU_rest cU_rest 12 (some .long)) rmU_rest 0 0 3 :=
  cwV 3 hts (big_V hl w_270 sel_U_rest w_1 w_271) rfl rfl rfl ⟨rfl, by decide, by decide, by decide +kernel⟩ hR
set_option maxRecDepth 100000 in
set_option maxHeartbeats 8000000 in
theorem c_U_rest (l : Launch) (ad : Nat → Nat) (D : va_G) (cA : ClassId) (h0 r0 : Nat) {i : Nat} (hi : i < 2) (md fl : Int32) (rg : Nat → Int64) (x2 : Int64) (x3 : Int64) : FuM l ad D cA h0 r0 yU_rest (wsM yU_rest cU_rest 12 (some .long)) rmU_rest [.ref (ad i), .long x2, .long x3] md fl rg (some (.long ((C_U_rest md fl i x2 x3).1))) md (C_U_rest md fl i x2 x3).2 rg := by
  refine fu_ofL (cc := cU_rest) (maxL := 12) (by decide) rfl (Nat.le_of_ble_eq_true rfl) ?_
  intro p e s m args below meth c Q hx hb hml hown hts hF H locs hS hw hret ls hl
  have hl : lv_has ls 12 [(0, .ref h0), (1, .ref (ad i)), (2, .long x2), (4, .long x3)] := hl
  have J99 : ∀ (f9 : Int32) (u2 : Int64) (u4 : Int64) (u9 : Int64) (ls : Array Slot) (H : Heap) (locs : List Loc), lv_has ls 12 [(0, .ref h0), (1, .ref (ad i)), (2, .long u2), (4, .long u4), (9, .long u9)] → FUw D cA h0 r0 md f9 rg s H → va_S (fA h0 r0) s.heap H locs → C_U_rest_99 md f9 i u2 u4 u9 = C_U_rest md fl i x2 x3 → W p l e rmU_rest s m args below meth c H locs 0 0 Q (F0 m 99 ls []) := by
    intro f9 u2 u4 u9 ls H locs hl hw hS he
    refine lv_aload_n (pc := 99) hx hb dU_rest_99 rfl (lv_at hl 1 rfl) ?_
    refine lv_lload_n (pc := 100) hx hb dU_rest_100 rfl (lv_at hl 2 rfl) ?_
    refine pu_V (pc := 101) (i := i) (rest := []) ⟨hx, hb, hml, hown, hts⟩ hi (c_F_isMinus l ad hi u2) (cwF_isMinus hts w_164 ⟨by decide, by decide⟩) hF hS rfl hl.1 rfl (Nat.le_of_ble_eq_true rfl) dU_rest_101 ⟨Nat.zero_le _, Nat.zero_le _⟩ ?_
    refine lv_istore (lv' := [(11, .int (bI (C_F_isMinus i u2))), (0, .ref h0), (1, .ref (ad i)), (2, .long u2), (4, .long u4), (9, .long u9)]) (pc := 104) hx hb dU_rest_104 hl (by decide) rfl (fun ls hl => ?_)
    refine lv_lload (pc := 106) hx hb dU_rest_106 (lv_at hl 5 rfl) ?_
    refine lv_lconst (v := 0) (pc := 108) hx hb dU_rest_108 (by decide) ?_
    refine W.lcmp (pc := 109) hx hb dU_rest_109 ?_
    refine lv_if_ne (tgt := 122) (pc := 110) hx hb dU_rest_110 (by decide) (fun h101 => ?_) (fun h101 => ?_)
    · skip
      have h101 : ¬ (u9 = 0) := fun q => h101 ((lg_cmp_eq _ _).2 q)
      refine lv_aload_n (pc := 122) hx hb dU_rest_122 rfl (lv_at hl 1 rfl) ?_
      refine lv_aload_n (pc := 123) hx hb dU_rest_123 rfl (lv_at hl 2 rfl) ?_
      refine lv_iload (pc := 124) hx hb dU_rest_124 (lv_at hl 0 rfl) ?_
      refine lv_lload (pc := 126) hx hb dU_rest_126 (lv_at hl 5 rfl) ?_
      refine lv_aload_n (pc := 128) hx hb dU_rest_128 rfl (lv_at hl 2 rfl) ?_
      refine lv_lload (pc := 129) hx hb dU_rest_129 (lv_at hl 4 rfl) ?_
      refine pu_V (pc := 131) (i := i) (rest := [.long u9, .int (bI (C_F_isMinus i u2)), .ref (ad i), .ref h0]) ⟨hx, hb, hml, hown, hts⟩ hi (c_F_power l ad hi u4) (cwF_power hts w_180 ⟨by decide, by decide⟩) hF hS rfl hl.1 rfl (Nat.le_of_ble_eq_true rfl) dU_rest_131 ⟨Nat.zero_le _, Nat.zero_le _⟩ ?_
      refine fu_V (pc := 134) (rest := []) ⟨hx, hb, hml, hown, hts⟩ (c_U_rounded l ad D cA h0 r0 hi md f9 rg (C_F_isMinus i u2) u9 (C_F_power i u4)) (cwU_rounded hts w_221 ⟨by decide, by decide⟩) hF hw hS rfl hl.1 rfl (Nat.le_of_ble_eq_true rfl) dU_rest_134 ⟨Nat.zero_le _, Nat.zero_le _⟩ (fun H locs hw hS => ?_)
      refine W.eq (g2 := F0 m 137 ls [.long ((C_U_rounded md f9 i (C_F_isMinus i u2) u9 (C_F_power i u4)).1)]) rfl ?_
      have he9 := (show ((C_U_rounded md f9 i (C_F_isMinus i u2) u9 (C_F_power i u4)).1, (C_U_rounded md f9 i (C_F_isMinus i u2) u9 (C_F_power i u4)).2) = C_U_rest_99 md f9 i u2 u4 u9 from by rw [C_U_rest_99, if_neg h101]).trans he
      exact hret _ _ _ _ _ _ _ _ (congrArg Prod.fst he9) rfl (congrArg Prod.snd he9) rfl hw hS dU_rest_137
    · skip
      have h101 : u9 = 0 := (lg_cmp_eq _ _).1 h101
      refine lv_aload_n (pc := 113) hx hb dU_rest_113 rfl (lv_at hl 2 rfl) ?_
      refine lv_iload (pc := 114) hx hb dU_rest_114 (lv_at hl 0 rfl) ?_
      refine pu_V (pc := 116) (i := i) (rest := []) ⟨hx, hb, hml, hown, hts⟩ hi (c_F_zero l ad hi (C_F_isMinus i u2)) (cwF_zero hts w_213 ⟨by decide, by decide⟩) hF hS rfl hl.1 rfl (Nat.le_of_ble_eq_true rfl) dU_rest_116 ⟨Nat.zero_le _, Nat.zero_le _⟩ ?_
      refine lv_goto (tgt := 137) (pc := 119) hx hb dU_rest_119 (by decide) ?_
      have he9 := (show (C_F_zero i (C_F_isMinus i u2), f9) = C_U_rest_99 md f9 i u2 u4 u9 from by rw [C_U_rest_99, if_pos h101]).trans he
      exact hret _ _ _ _ _ _ _ _ (congrArg Prod.fst he9) rfl (congrArg Prod.snd he9) rfl hw hS dU_rest_137
  have L73 : ∀ (n : Nat) (f9 : Int32) (u2 u4 u6 u9 : Int64) (u11 : Int32) (hz : ¬ u6 = 0) (ls : Array Slot) (H : Heap) (locs : List Loc), u11.toInt < (n : Int) → lv_has ls 12 [(0, .ref h0), (1, .ref (ad i)), (2, .long u2), (4, .long u4), (6, .long u6), (9, .long u9), (11, .int u11)] → FUw D cA h0 r0 md f9 rg s H → va_S (fA h0 r0) s.heap H locs → C_U_rest_99 md f9 i u2 u4 (restLoop n u6 u9 u11) = C_U_rest md fl i x2 x3 → W p l e rmU_rest s m args below meth c H locs 0 0 Q (F0 m 73 ls []) := by
    intro n
    induction n with
    | zero =>
      intro f9 u2 u4 u6 u9 u11 hz ls H locs hk hl hw hS he
      refine lv_iload (pc := 73) hx hb dU_rest_73 (lv_at hl 6 rfl) ?_
      refine lv_if_le (tgt := 99) (pc := 75) hx hb dU_rest_75 (by decide) (fun h1 => ?_) (fun h1 => ?_)
      · exact J99 f9 u2 u4 u9 ls H locs (lv_sub hl [0, 1, 2, 3, 5] rfl) hw hS he
      · exact absurd (rest_neg hk) h1
    | succ n ih =>
      intro f9 u2 u4 u6 u9 u11 hz ls H locs hk hl hw hS he
      refine lv_iload (pc := 73) hx hb dU_rest_73 (lv_at hl 6 rfl) ?_
      refine lv_if_le (tgt := 99) (pc := 75) hx hb dU_rest_75 (by decide) (fun h201 => ?_) (fun h201 => ?_)
      · skip
        exact J99 f9 u2 u4 u9 ls H locs (lv_sub hl [0, 1, 2, 3, 5] rfl) hw hS ((show C_U_rest_99 md f9 i u2 u4 u9 = C_U_rest_99 md f9 i u2 u4 (restLoop (n + 1) u6 u9 u11) from by rw [restLoop, if_pos h201]).trans he)
      · skip
        refine lv_lload (pc := 78) hx hb dU_rest_78 (lv_at hl 5 rfl) ?_
        refine lv_iload (pc := 80) hx hb dU_rest_80 (lv_at hl 6 rfl) ?_
        refine lv_bipush (v := 10) (pc := 82) hx hb dU_rest_82 (by decide) ?_
        refine va_mmin (pc := 84) hx hb (hml.trans hl.1.symm) hown (hts _ (List.mem_cons_of_mem _ w_272)) (hts _ (List.mem_cons_of_mem _ w_273)) (hts _ (List.mem_cons_of_mem _ w_9)) (hts _ (List.mem_cons_of_mem _ w_274)) (by decide) (Nat.le_of_ble_eq_true rfl) (Nat.zero_le _) (Nat.zero_le _) dU_rest_84 ?_
        refine lv_topi (fun v201 e201 => ?_)
        obtain rfl : v201 = jMin u11 10 := e201
        refine lv_lshl (v := jShl u9 (jMin u11 10)) (pc := 87) hx hb dU_rest_87 rfl ?_
        refine lv_lload (pc := 88) hx hb dU_rest_88 (lv_at hl 4 rfl) ?_
        refine lv_lrem (pc := 90) hx hb dU_rest_90 hz ?_
        refine lv_lstore (lv' := [(9, .long ((jShl u9 (jMin u11 10)) - (jShl u9 (jMin u11 10)) / u6 * u6)), (0, .ref h0), (1, .ref (ad i)), (2, .long u2), (4, .long u4), (6, .long u6), (11, .int u11)]) (pc := 91) hx hb dU_rest_91 hl (by decide) rfl (fun ls hl => ?_)
        refine lv_iinc (k := 6) (v := u11 + (-10)) (lv' := [(11, .int (u11 + (-10))), (9, .long ((jShl u9 (jMin u11 10)) - (jShl u9 (jMin u11 10)) / u6 * u6)), (0, .ref h0), (1, .ref (ad i)), (2, .long u2), (4, .long u4), (6, .long u6)]) (pc := 93) hx hb dU_rest_93 hl rfl (by rfl) (by decide) rfl (fun ls hl => ?_)
        refine lv_goto (tgt := 73) (pc := 96) hx hb dU_rest_96 (by decide) ?_
        exact ih f9 u2 u4 u6 ((jShl u9 (jMin u11 10)) - (jShl u9 (jMin u11 10)) / u6 * u6) (u11 + (-10)) hz ls H locs (rest_dec hk h201) (lv_sub hl [2, 3, 4, 5, 6, 1, 0] rfl) hw hS ((show C_U_rest_99 md f9 i u2 u4 (restLoop n u6 ((jShl u9 (jMin u11 10)) - (jShl u9 (jMin u11 10)) / u6 * u6) (u11 + (-10))) = C_U_rest_99 md f9 i u2 u4 (restLoop (n + 1) u6 u9 u11) from by rw [restLoop, if_neg h201]).trans he)
  have J73 : ∀ (f9 : Int32) (u2 u4 u6 u9 : Int64) (u11 : Int32) (hz : ¬ u6 = 0) (ls : Array Slot) (H : Heap) (locs : List Loc), lv_has ls 12 [(0, .ref h0), (1, .ref (ad i)), (2, .long u2), (4, .long u4), (6, .long u6), (9, .long u9), (11, .int u11)] → FUw D cA h0 r0 md f9 rg s H → va_S (fA h0 r0) s.heap H locs → C_U_rest_73 md f9 i u2 u4 u6 u9 u11 = C_U_rest md fl i x2 x3 → W p l e rmU_rest s m args below meth c H locs 0 0 Q (F0 m 73 ls []) := by
    intro f9 u2 u4 u6 u9 u11 hz ls H locs hl hw hS he
    exact L73 (u11.toNatClampNeg + 1) f9 u2 u4 u6 u9 u11 hz ls H locs (rest_fuel u11) hl hw hS he
  refine lv_aload_n (pc := 0) hx hb dU_rest_0 rfl (lv_at hl 1 rfl) ?_
  refine lv_lload (pc := 1) hx hb dU_rest_1 (lv_at hl 3 rfl) ?_
  refine pu_V (pc := 3) (i := i) (rest := []) ⟨hx, hb, hml, hown, hts⟩ hi (c_F_significand l ad hi x3) (cwF_significand hts w_206 ⟨by decide, by decide⟩) hF hS rfl hl.1 rfl (Nat.le_of_ble_eq_true rfl) dU_rest_3 ⟨Nat.zero_le _, Nat.zero_le _⟩ ?_
  refine lv_lstore (lv' := [(6, .long (C_F_significand i x3)), (0, .ref h0), (1, .ref (ad i)), (2, .long x2), (4, .long x3)]) (pc := 6) hx hb dU_rest_6 hl (by decide) rfl (fun ls hl => ?_)
  refine lv_aload_n (pc := 8) hx hb dU_rest_8 rfl (lv_at hl 2 rfl) ?_
  refine lv_lload_n (pc := 9) hx hb dU_rest_9 rfl (lv_at hl 3 rfl) ?_
  refine pu_V (pc := 10) (i := i) (rest := []) ⟨hx, hb, hml, hown, hts⟩ hi (c_F_isEndless l ad hi x2) (cwF_isEndless hts w_168 ⟨by decide, by decide⟩) hF hS rfl hl.1 rfl (Nat.le_of_ble_eq_true rfl) dU_rest_10 ⟨Nat.zero_le _, Nat.zero_le _⟩ ?_
  refine lv_if_ne (tgt := 23) (pc := 13) hx hb dU_rest_13 (by decide) (fun h1 => ?_) (fun h1 => ?_)
  · skip
    have h1 : ¬ ((C_F_isEndless i x2) = false) := fun q => h1 ((bI_0 _).2 q)
    refine lv_aload_n (pc := 23) hx hb dU_rest_23 rfl (lv_at hl 1 rfl) ?_
    refine lv_aload_n (pc := 24) hx hb dU_rest_24 rfl (lv_at hl 2 rfl) ?_
    refine fu_V (pc := 25) (rest := []) ⟨hx, hb, hml, hown, hts⟩ (c_U_invalid l ad D cA h0 r0 hi md fl rg ) (cwU_invalid hts w_172 ⟨by decide, by decide⟩) hF hw hS rfl hl.1 rfl (Nat.le_of_ble_eq_true rfl) dU_rest_25 ⟨Nat.zero_le _, Nat.zero_le _⟩ (fun H locs hw hS => ?_)
    refine W.eq (g2 := F0 m 28 ls [.long ((C_U_invalid md fl i).1)]) rfl ?_
    have he9 := (show ((C_U_invalid md fl i).1, (C_U_invalid md fl i).2) = C_U_rest md fl i x2 x3 from by rw [C_U_rest, if_neg h1])
    exact hret _ _ _ _ _ _ _ _ (congrArg Prod.fst he9) rfl (congrArg Prod.snd he9) rfl hw hS dU_rest_28
  · skip
    have h1 : (C_F_isEndless i x2) = false := (bI_0 _).1 h1
    refine lv_lload (pc := 16) hx hb dU_rest_16 (lv_at hl 0 rfl) ?_
    refine lv_lconst (v := 0) (pc := 18) hx hb dU_rest_18 (by decide) ?_
    refine W.lcmp (pc := 19) hx hb dU_rest_19 ?_
    refine lv_if_ne (tgt := 29) (pc := 20) hx hb dU_rest_20 (by decide) (fun h2 => ?_) (fun h2 => ?_)
    · skip
      have h2 : ¬ ((C_F_significand i x3) = 0) := fun q => h2 ((lg_cmp_eq _ _).2 q)
      refine lv_aload_n (pc := 29) hx hb dU_rest_29 rfl (lv_at hl 2 rfl) ?_
      refine lv_lload_n (pc := 30) hx hb dU_rest_30 rfl (lv_at hl 3 rfl) ?_
      refine pu_V (pc := 31) (i := i) (rest := []) ⟨hx, hb, hml, hown, hts⟩ hi (c_F_power l ad hi x2) (cwF_power hts w_180 ⟨by decide, by decide⟩) hF hS rfl hl.1 rfl (Nat.le_of_ble_eq_true rfl) dU_rest_31 ⟨Nat.zero_le _, Nat.zero_le _⟩ ?_
      refine lv_aload_n (pc := 34) hx hb dU_rest_34 rfl (lv_at hl 2 rfl) ?_
      refine lv_lload (pc := 35) hx hb dU_rest_35 (lv_at hl 4 rfl) ?_
      refine pu_V (pc := 37) (i := i) (rest := [.int (C_F_power i x2)]) ⟨hx, hb, hml, hown, hts⟩ hi (c_F_power l ad hi x3) (cwF_power hts w_180 ⟨by decide, by decide⟩) hF hS rfl hl.1 rfl (Nat.le_of_ble_eq_true rfl) dU_rest_37 ⟨Nat.zero_le _, Nat.zero_le _⟩ ?_
      refine lv_isub (pc := 40) hx hb dU_rest_40 ?_
      refine lv_istore (lv' := [(8, .int ((C_F_power i x2) - (C_F_power i x3))), (6, .long (C_F_significand i x3)), (0, .ref h0), (1, .ref (ad i)), (2, .long x2), (4, .long x3)]) (pc := 41) hx hb dU_rest_41 hl (by decide) rfl (fun ls hl => ?_)
      refine lv_aload_n (pc := 43) hx hb dU_rest_43 rfl (lv_at hl 3 rfl) ?_
      refine lv_lload (pc := 44) hx hb dU_rest_44 (lv_at hl 5 rfl) ?_
      refine pu_V (pc := 46) (i := i) (rest := []) ⟨hx, hb, hml, hown, hts⟩ hi (c_F_isEndless l ad hi x3) (cwF_isEndless hts w_168 ⟨by decide, by decide⟩) hF hS rfl hl.1 rfl (Nat.le_of_ble_eq_true rfl) dU_rest_46 ⟨Nat.zero_le _, Nat.zero_le _⟩ ?_
      refine lv_if_ne (tgt := 57) (pc := 49) hx hb dU_rest_49 (by decide) (fun h3 => ?_) (fun h3 => ?_)
      · skip
        have h3 : ¬ ((C_F_isEndless i x3) = false) := fun q => h3 ((bI_0 _).2 q)
        refine lv_lload_n (pc := 57) hx hb dU_rest_57 rfl (lv_at hl 4 rfl) ?_
        have he9 := (show (x2, fl) = C_U_rest md fl i x2 x3 from by rw [C_U_rest, if_pos h1, if_neg h2, if_neg h3])
        exact hret _ _ _ _ _ _ _ _ (congrArg Prod.fst he9) rfl (congrArg Prod.snd he9) rfl hw hS dU_rest_58
      · skip
        have h3 : (C_F_isEndless i x3) = false := (bI_0 _).1 h3
        refine lv_iload (pc := 52) hx hb dU_rest_52 (lv_at hl 0 rfl) ?_
        refine lv_if_ge (tgt := 59) (pc := 54) hx hb dU_rest_54 (by decide) (fun h4 => ?_) (fun h4 => ?_)
        · skip
          refine lv_aload_n (pc := 59) hx hb dU_rest_59 rfl (lv_at hl 3 rfl) ?_
          refine lv_lload_n (pc := 60) hx hb dU_rest_60 rfl (lv_at hl 4 rfl) ?_
          refine pu_V (pc := 61) (i := i) (rest := []) ⟨hx, hb, hml, hown, hts⟩ hi (c_F_significand l ad hi x2) (cwF_significand hts w_206 ⟨by decide, by decide⟩) hF hS rfl hl.1 rfl (Nat.le_of_ble_eq_true rfl) dU_rest_61 ⟨Nat.zero_le _, Nat.zero_le _⟩ ?_
          refine lv_lload (pc := 64) hx hb dU_rest_64 (lv_at hl 1 rfl) ?_
          refine lv_lrem (pc := 66) hx hb dU_rest_66 h2 ?_
          refine lv_lstore (lv' := [(9, .long ((C_F_significand i x2) - (C_F_significand i x2) / (C_F_significand i x3) * (C_F_significand i x3))), (8, .int ((C_F_power i x2) - (C_F_power i x3))), (6, .long (C_F_significand i x3)), (0, .ref h0), (1, .ref (ad i)), (2, .long x2), (4, .long x3)]) (pc := 67) hx hb dU_rest_67 hl (by decide) rfl (fun ls hl => ?_)
          refine lv_iload (pc := 69) hx hb dU_rest_69 (lv_at hl 1 rfl) ?_
          refine lv_istore (lv' := [(11, .int ((C_F_power i x2) - (C_F_power i x3))), (9, .long ((C_F_significand i x2) - (C_F_significand i x2) / (C_F_significand i x3) * (C_F_significand i x3))), (8, .int ((C_F_power i x2) - (C_F_power i x3))), (6, .long (C_F_significand i x3)), (0, .ref h0), (1, .ref (ad i)), (2, .long x2), (4, .long x3)]) (pc := 71) hx hb dU_rest_71 hl (by decide) rfl (fun ls hl => ?_)
          exact J73 fl x2 x3 (C_F_significand i x3) ((C_F_significand i x2) - (C_F_significand i x2) / (C_F_significand i x3) * (C_F_significand i x3)) ((C_F_power i x2) - (C_F_power i x3)) h2 ls _ _ (lv_sub hl [4, 5, 6, 7, 3, 1, 0] rfl) hw hS ((show C_U_rest_73 md fl i x2 x3 (C_F_significand i x3) ((C_F_significand i x2) - (C_F_significand i x2) / (C_F_significand i x3) * (C_F_significand i x3)) ((C_F_power i x2) - (C_F_power i x3)) = C_U_rest md fl i x2 x3 from by rw [C_U_rest, if_pos h1, if_neg h2, if_pos h3, if_pos h4]))
        · skip
          refine lv_lload_n (pc := 57) hx hb dU_rest_57 rfl (lv_at hl 4 rfl) ?_
          have he9 := (show (x2, fl) = C_U_rest md fl i x2 x3 from by rw [C_U_rest, if_pos h1, if_neg h2, if_pos h3, if_neg h4])
          exact hret _ _ _ _ _ _ _ _ (congrArg Prod.fst he9) rfl (congrArg Prod.snd he9) rfl hw hS dU_rest_58
    · skip
      have h2 : (C_F_significand i x3) = 0 := (lg_cmp_eq _ _).1 h2
      refine lv_aload_n (pc := 23) hx hb dU_rest_23 rfl (lv_at hl 1 rfl) ?_
      refine lv_aload_n (pc := 24) hx hb dU_rest_24 rfl (lv_at hl 2 rfl) ?_
      refine fu_V (pc := 25) (rest := []) ⟨hx, hb, hml, hown, hts⟩ (c_U_invalid l ad D cA h0 r0 hi md fl rg ) (cwU_invalid hts w_172 ⟨by decide, by decide⟩) hF hw hS rfl hl.1 rfl (Nat.le_of_ble_eq_true rfl) dU_rest_25 ⟨Nat.zero_le _, Nat.zero_le _⟩ (fun H locs hw hS => ?_)
      refine W.eq (g2 := F0 m 28 ls [.long ((C_U_invalid md fl i).1)]) rfl ?_
      have he9 := (show ((C_U_invalid md fl i).1, (C_U_invalid md fl i).2) = C_U_rest md fl i x2 x3 from by rw [C_U_rest, if_pos h1, if_pos h2])
      exact hret _ _ _ _ _ _ _ _ (congrArg Prod.fst he9) rfl (congrArg Prod.snd he9) rfl hw hS dU_rest_28
def C_U_result (md : Int32) (fl : Int32) (k1 : Int32) (i : Nat) (x3 : Int64) (x4 : Int64) : Int64 × Int32 :=
  if (C_F_isNone i x3) = false then
    if (C_F_isNone i x4) = false then
      if k1 = 0 then
        ((C_U_sum md fl i x3 x4).1, (C_U_sum md fl i x3 x4).2)
      else
        if k1 = 1 then
          ((C_U_sum md fl i x3 (C_F_opposite i x4)).1, (C_U_sum md fl i x3 (C_F_opposite i x4)).2)
        else
          if k1 = 2 then
            ((C_U_product md fl i x3 x4).1, (C_U_product md fl i x3 x4).2)
          else
            if k1 = 3 then
              ((C_U_quotient md fl i x3 x4).1, (C_U_quotient md fl i x3 x4).2)
            else
              ((C_U_rest md fl i x3 x4).1, (C_U_rest md fl i x3 x4).2)
    else
      (C_F_none i, fl)
  else
    (C_F_none i, fl)
abbrev rmU_result : Room := { frames := 5, cells := 0, slots := 0, locals := 138 }
theorem cwU_result {R : Room} {s : State} {args : Array Value} {w0 : Cond} {own : String} {idx : Nat} (hts : ∀ w ∈ (w0 :: bigW), w.before args s = true) (hl : Cond.methodLink own idx yU_result ∈ bigW) (hR : rmU_result.frames + 1 ≤ R.frames ∧ 8 + (7 + 11) + rmU_result.locals ≤ R.locals) : CallW R s args own "FloatUnit" idx yU_result cU_result 7 (some .long) (wsM yU_result cU_result 7 (some .long)) rmU_result 0 0 4 :=
  cwV 4 hts (big_V hl w_146 sel_U_result w_1 w_147) rfl rfl rfl ⟨rfl, by decide, by decide, by decide +kernel⟩ hR
set_option maxRecDepth 100000 in
set_option maxHeartbeats 8000000 in
theorem c_U_result (l : Launch) (ad : Nat → Nat) (D : va_G) (cA : ClassId) (h0 r0 : Nat) {i : Nat} (hi : i < 2) (md fl : Int32) (rg : Nat → Int64) (k1 : Int32) (x3 : Int64) (x4 : Int64) : FuM l ad D cA h0 r0 yU_result (wsM yU_result cU_result 7 (some .long)) rmU_result [.int k1, .ref (ad i), .long x3, .long x4] md fl rg (some (.long ((C_U_result md fl k1 i x3 x4).1))) md (C_U_result md fl k1 i x3 x4).2 rg := by
  refine fu_ofL (cc := cU_result) (maxL := 7) (by decide) rfl (Nat.le_of_ble_eq_true rfl) ?_
  intro p e s m args below meth c Q hx hb hml hown hts hF H locs hS hw hret ls hl
  have hl : lv_has ls 7 [(0, .ref h0), (1, .int k1), (2, .ref (ad i)), (3, .long x3), (5, .long x4)] := hl
  refine lv_aload_n (pc := 0) hx hb dU_result_0 rfl (lv_at hl 2 rfl) ?_
  refine lv_lload_n (pc := 1) hx hb dU_result_1 rfl (lv_at hl 3 rfl) ?_
  refine pu_V (pc := 2) (i := i) (rest := []) ⟨hx, hb, hml, hown, hts⟩ hi (c_F_isNone l ad hi x3) (cwF_isNone hts w_148 ⟨by decide, by decide⟩) hF hS rfl hl.1 rfl (Nat.le_of_ble_eq_true rfl) dU_result_2 ⟨Nat.zero_le _, Nat.zero_le _⟩ ?_
  refine lv_if_ne (tgt := 17) (pc := 5) hx hb dU_result_5 (by decide) (fun h1 => ?_) (fun h1 => ?_)
  · skip
    have h1 : ¬ ((C_F_isNone i x3) = false) := fun q => h1 ((bI_0 _).2 q)
    refine lv_aload_n (pc := 17) hx hb dU_result_17 rfl (lv_at hl 2 rfl) ?_
    refine pu_V (pc := 18) (i := i) (rest := []) ⟨hx, hb, hml, hown, hts⟩ hi (c_F_none l ad hi) (cwF_none hts w_156 ⟨by decide, by decide⟩) hF hS rfl hl.1 rfl (Nat.le_of_ble_eq_true rfl) dU_result_18 ⟨Nat.zero_le _, Nat.zero_le _⟩ ?_
    have he9 := (show (C_F_none i, fl) = C_U_result md fl k1 i x3 x4 from by rw [C_U_result, if_neg h1])
    exact hret _ _ _ _ _ _ _ _ (congrArg Prod.fst he9) rfl (congrArg Prod.snd he9) rfl hw hS dU_result_21
  · skip
    have h1 : (C_F_isNone i x3) = false := (bI_0 _).1 h1
    refine lv_aload_n (pc := 8) hx hb dU_result_8 rfl (lv_at hl 2 rfl) ?_
    refine lv_lload (pc := 9) hx hb dU_result_9 (lv_at hl 4 rfl) ?_
    refine pu_V (pc := 11) (i := i) (rest := []) ⟨hx, hb, hml, hown, hts⟩ hi (c_F_isNone l ad hi x4) (cwF_isNone hts w_148 ⟨by decide, by decide⟩) hF hS rfl hl.1 rfl (Nat.le_of_ble_eq_true rfl) dU_result_11 ⟨Nat.zero_le _, Nat.zero_le _⟩ ?_
    refine lv_if_eq (tgt := 22) (pc := 14) hx hb dU_result_14 (by decide) (fun h2 => ?_) (fun h2 => ?_)
    · skip
      have h2 : (C_F_isNone i x4) = false := (bI_0 _).1 h2
      refine lv_iload_n (pc := 22) hx hb dU_result_22 rfl (lv_at hl 1 rfl) ?_
      by_cases h3 : k1 = 0
      · refine lv_tableIn (off := 29) (tgt := 52) (pc := 23) hx hb dU_result_23 (by rw [h3]; decide) (by rw [h3]; decide) (by rw [h3]; decide) (by decide) ?_
        refine lv_aload_n (pc := 52) hx hb dU_result_52 rfl (lv_at hl 0 rfl) ?_
        refine lv_aload_n (pc := 53) hx hb dU_result_53 rfl (lv_at hl 2 rfl) ?_
        refine lv_lload_n (pc := 54) hx hb dU_result_54 rfl (lv_at hl 3 rfl) ?_
        refine lv_lload (pc := 55) hx hb dU_result_55 (lv_at hl 4 rfl) ?_
        refine fu_V (pc := 57) (rest := []) ⟨hx, hb, hml, hown, hts⟩ (c_U_sum l ad D cA h0 r0 hi md fl rg x3 x4) (cwU_sum hts w_160 ⟨by decide, by decide⟩) hF hw hS rfl hl.1 rfl (Nat.le_of_ble_eq_true rfl) dU_result_57 ⟨Nat.zero_le _, Nat.zero_le _⟩ (fun H locs hw hS => ?_)
        refine W.eq (g2 := F0 m 60 ls [.long ((C_U_sum md fl i x3 x4).1)]) rfl ?_
        have he9 := (show ((C_U_sum md fl i x3 x4).1, (C_U_sum md fl i x3 x4).2) = C_U_result md fl k1 i x3 x4 from by rw [C_U_result, if_pos h1, if_pos h2, if_pos h3])
        exact hret _ _ _ _ _ _ _ _ (congrArg Prod.fst he9) rfl (congrArg Prod.snd he9) rfl hw hS dU_result_60
      · skip
        by_cases h4 : k1 = 1
        · refine lv_tableIn (off := 38) (tgt := 61) (pc := 23) hx hb dU_result_23 (by rw [h4]; decide) (by rw [h4]; decide) (by rw [h4]; decide) (by decide) ?_
          refine lv_aload_n (pc := 61) hx hb dU_result_61 rfl (lv_at hl 0 rfl) ?_
          refine lv_aload_n (pc := 62) hx hb dU_result_62 rfl (lv_at hl 2 rfl) ?_
          refine lv_lload_n (pc := 63) hx hb dU_result_63 rfl (lv_at hl 3 rfl) ?_
          refine lv_aload_n (pc := 64) hx hb dU_result_64 rfl (lv_at hl 2 rfl) ?_
          refine lv_lload (pc := 65) hx hb dU_result_65 (lv_at hl 4 rfl) ?_
          refine pu_V (pc := 67) (i := i) (rest := [.long x3, .ref (ad i), .ref h0]) ⟨hx, hb, hml, hown, hts⟩ hi (c_F_opposite l ad hi x4) (cwF_opposite hts w_244 ⟨by decide, by decide⟩) hF hS rfl hl.1 rfl (Nat.le_of_ble_eq_true rfl) dU_result_67 ⟨Nat.zero_le _, Nat.zero_le _⟩ ?_
          refine fu_V (pc := 70) (rest := []) ⟨hx, hb, hml, hown, hts⟩ (c_U_sum l ad D cA h0 r0 hi md fl rg x3 (C_F_opposite i x4)) (cwU_sum hts w_160 ⟨by decide, by decide⟩) hF hw hS rfl hl.1 rfl (Nat.le_of_ble_eq_true rfl) dU_result_70 ⟨Nat.zero_le _, Nat.zero_le _⟩ (fun H locs hw hS => ?_)
          refine W.eq (g2 := F0 m 73 ls [.long ((C_U_sum md fl i x3 (C_F_opposite i x4)).1)]) rfl ?_
          have he9 := (show ((C_U_sum md fl i x3 (C_F_opposite i x4)).1, (C_U_sum md fl i x3 (C_F_opposite i x4)).2) = C_U_result md fl k1 i x3 x4 from by rw [C_U_result, if_pos h1, if_pos h2, if_neg h3, if_pos h4])
          exact hret _ _ _ _ _ _ _ _ (congrArg Prod.fst he9) rfl (congrArg Prod.snd he9) rfl hw hS dU_result_73
        · skip
          by_cases h5 : k1 = 2
          · refine lv_tableIn (off := 51) (tgt := 74) (pc := 23) hx hb dU_result_23 (by rw [h5]; decide) (by rw [h5]; decide) (by rw [h5]; decide) (by decide) ?_
            refine lv_aload_n (pc := 74) hx hb dU_result_74 rfl (lv_at hl 0 rfl) ?_
            refine lv_aload_n (pc := 75) hx hb dU_result_75 rfl (lv_at hl 2 rfl) ?_
            refine lv_lload_n (pc := 76) hx hb dU_result_76 rfl (lv_at hl 3 rfl) ?_
            refine lv_lload (pc := 77) hx hb dU_result_77 (lv_at hl 4 rfl) ?_
            refine fu_V (pc := 79) (rest := []) ⟨hx, hb, hml, hown, hts⟩ (c_U_product l ad D cA h0 r0 hi md fl rg x3 x4) (cwU_product hts w_248 ⟨by decide, by decide⟩) hF hw hS rfl hl.1 rfl (Nat.le_of_ble_eq_true rfl) dU_result_79 ⟨Nat.zero_le _, Nat.zero_le _⟩ (fun H locs hw hS => ?_)
            refine W.eq (g2 := F0 m 82 ls [.long ((C_U_product md fl i x3 x4).1)]) rfl ?_
            have he9 := (show ((C_U_product md fl i x3 x4).1, (C_U_product md fl i x3 x4).2) = C_U_result md fl k1 i x3 x4 from by rw [C_U_result, if_pos h1, if_pos h2, if_neg h3, if_neg h4, if_pos h5])
            exact hret _ _ _ _ _ _ _ _ (congrArg Prod.fst he9) rfl (congrArg Prod.snd he9) rfl hw hS dU_result_82
          · skip
            by_cases h6 : k1 = 3
            · refine lv_tableIn (off := 60) (tgt := 83) (pc := 23) hx hb dU_result_23 (by rw [h6]; decide) (by rw [h6]; decide) (by rw [h6]; decide) (by decide) ?_
              refine lv_aload_n (pc := 83) hx hb dU_result_83 rfl (lv_at hl 0 rfl) ?_
              refine lv_aload_n (pc := 84) hx hb dU_result_84 rfl (lv_at hl 2 rfl) ?_
              refine lv_lload_n (pc := 85) hx hb dU_result_85 rfl (lv_at hl 3 rfl) ?_
              refine lv_lload (pc := 86) hx hb dU_result_86 (lv_at hl 4 rfl) ?_
              refine fu_V (pc := 88) (rest := []) ⟨hx, hb, hml, hown, hts⟩ (c_U_quotient l ad D cA h0 r0 hi md fl rg x3 x4) (cwU_quotient hts w_260 ⟨by decide, by decide⟩) hF hw hS rfl hl.1 rfl (Nat.le_of_ble_eq_true rfl) dU_result_88 ⟨Nat.zero_le _, Nat.zero_le _⟩ (fun H locs hw hS => ?_)
              refine W.eq (g2 := F0 m 91 ls [.long ((C_U_quotient md fl i x3 x4).1)]) rfl ?_
              have he9 := (show ((C_U_quotient md fl i x3 x4).1, (C_U_quotient md fl i x3 x4).2) = C_U_result md fl k1 i x3 x4 from by rw [C_U_result, if_pos h1, if_pos h2, if_neg h3, if_neg h4, if_neg h5, if_pos h6])
              exact hret _ _ _ _ _ _ _ _ (congrArg Prod.fst he9) rfl (congrArg Prod.snd he9) rfl hw hS dU_result_91
            · skip
              refine lv_tableOut (tgt := 92) (pc := 23) hx hb dU_result_23 (sw4 h3 h4 h5 h6) (by decide) ?_
              refine lv_aload_n (pc := 92) hx hb dU_result_92 rfl (lv_at hl 0 rfl) ?_
              refine lv_aload_n (pc := 93) hx hb dU_result_93 rfl (lv_at hl 2 rfl) ?_
              refine lv_lload_n (pc := 94) hx hb dU_result_94 rfl (lv_at hl 3 rfl) ?_
              refine lv_lload (pc := 95) hx hb dU_result_95 (lv_at hl 4 rfl) ?_
              refine fu_V (pc := 97) (rest := []) ⟨hx, hb, hml, hown, hts⟩ (c_U_rest l ad D cA h0 r0 hi md fl rg x3 x4) (cwU_rest hts w_268 ⟨by decide, by decide⟩) hF hw hS rfl hl.1 rfl (Nat.le_of_ble_eq_true rfl) dU_result_97 ⟨Nat.zero_le _, Nat.zero_le _⟩ (fun H locs hw hS => ?_)
              refine W.eq (g2 := F0 m 100 ls [.long ((C_U_rest md fl i x3 x4).1)]) rfl ?_
              have he9 := (show ((C_U_rest md fl i x3 x4).1, (C_U_rest md fl i x3 x4).2) = C_U_result md fl k1 i x3 x4 from by rw [C_U_result, if_pos h1, if_pos h2, if_neg h3, if_neg h4, if_neg h5, if_neg h6])
              exact hret _ _ _ _ _ _ _ _ (congrArg Prod.fst he9) rfl (congrArg Prod.snd he9) rfl hw hS dU_result_100
    · skip
      have h2 : ¬ ((C_F_isNone i x4) = false) := fun q => h2 ((bI_0 _).2 q)
      refine lv_aload_n (pc := 17) hx hb dU_result_17 rfl (lv_at hl 2 rfl) ?_
      refine pu_V (pc := 18) (i := i) (rest := []) ⟨hx, hb, hml, hown, hts⟩ hi (c_F_none l ad hi) (cwF_none hts w_156 ⟨by decide, by decide⟩) hF hS rfl hl.1 rfl (Nat.le_of_ble_eq_true rfl) dU_result_18 ⟨Nat.zero_le _, Nat.zero_le _⟩ ?_
      have he9 := (show (C_F_none i, fl) = C_U_result md fl k1 i x3 x4 from by rw [C_U_result, if_pos h1, if_neg h2])
      exact hret _ _ _ _ _ _ _ _ (congrArg Prod.fst he9) rfl (congrArg Prod.snd he9) rfl hw hS dU_result_21
