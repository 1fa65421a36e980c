/-! Pure methods of the class, and those of the format that rest on them (by program). -/
def C_U_freePlaces_5_0 (u0 : Int64) (u2 : Int32) : Int32 :=
  u2
def C_U_freePlaces_5_1 (u0 : Int64) (u2 : Int32) : Int32 :=
  if (jUshr (jShl u0 u2) 62) = 0 then
    C_U_freePlaces_5_0 u0 (u2 + 1)
  else
    C_U_freePlaces_5_0 u0 u2
def C_U_freePlaces_5_2 (u0 : Int64) (u2 : Int32) : Int32 :=
  if (jUshr (jShl u0 u2) 61) = 0 then
    C_U_freePlaces_5_1 u0 (u2 + 2)
  else
    C_U_freePlaces_5_1 u0 u2
def C_U_freePlaces_5_4 (u0 : Int64) (u2 : Int32) : Int32 :=
  if (jUshr (jShl u0 u2) 59) = 0 then
    C_U_freePlaces_5_2 u0 (u2 + 4)
  else
    C_U_freePlaces_5_2 u0 u2
def C_U_freePlaces_5_8 (u0 : Int64) (u2 : Int32) : Int32 :=
  if (jUshr (jShl u0 u2) 55) = 0 then
    C_U_freePlaces_5_4 u0 (u2 + 8)
  else
    C_U_freePlaces_5_4 u0 u2
def C_U_freePlaces_5_16 (u0 : Int64) (u2 : Int32) : Int32 :=
  if (jUshr (jShl u0 u2) 47) = 0 then
    C_U_freePlaces_5_8 u0 (u2 + 16)
  else
    C_U_freePlaces_5_8 u0 u2
def C_U_freePlaces_5_32 (u0 : Int64) (u2 : Int32) : Int32 :=
  if (jUshr (jShl u0 u2) 31) = 0 then
    C_U_freePlaces_5_16 u0 (u2 + 32)
  else
    C_U_freePlaces_5_16 u0 u2
def C_U_freePlaces (x1 : Int64) : Int32 :=
  C_U_freePlaces_5_32 x1 0
abbrev rmU_freePlaces : Room := { frames := 0, cells := 0, slots := 0, locals := 0 }
theorem cwU_freePlaces {R : Room} {s : State} {args : Array Value} {w0 : Cond} {idx : Nat} (hts : ∀ w ∈ (w0 :: bigW), w.before args s = true) (hl : Cond.methodLink "FloatUnit" idx yU_freePlaces ∈ bigW) (hR : rmU_freePlaces.frames + 1 ≤ R.frames ∧ 8 + (4 + 11) + rmU_freePlaces.locals ≤ R.locals) : CallB R s args "FloatUnit" idx yU_freePlaces cU_freePlaces 4 (some .int) (wsM yU_freePlaces cU_freePlaces 4 (some .int)) rmU_freePlaces 0 0 1 ∧ (Cond.static yU_freePlaces).before args s = true :=
  cwS 1 hts (big_S hl w_200 w_1 w_201) rfl rfl rfl ⟨rfl, by decide, by decide, by decide +kernel⟩ hR
set_option maxRecDepth 100000 in
set_option maxHeartbeats 4000000 in
theorem c_U_freePlaces (l : Launch) (ad : Nat → Nat) (x1 : Int64) : PuM l ad yU_freePlaces (wsM yU_freePlaces cU_freePlaces 4 (some .int)) rmU_freePlaces [.long x1] (.int (C_U_freePlaces x1)) := by
  refine pu_ofI (cc := cU_freePlaces) (maxL := 4) (by decide) rfl (Nat.le_of_ble_eq_true rfl) ?_
  intro p e s m args below meth c Q hx hb hml hown hts hF hS hret ls hl
  have hl : lv_has ls 4 [(0, .long x1)] := hl
  have J5_0 : ∀ (u0 : Int64) (u2 : Int32) (ls : Array Slot), lv_has ls 4 [(0, .long u0), (2, .int u2), (3, .int 0)] → C_U_freePlaces_5_0 u0 u2 = C_U_freePlaces x1 → W p l e rmU_freePlaces s m args below meth c s.heap [] 0 0 Q (F0 m 5 ls []) := by
    intro u0 u2 ls hl he
    refine lv_iload_n (pc := 5) hx hb dU_freePlaces_5 rfl (lv_at hl 2 rfl) ?_
    refine lv_if_le (tgt := 33) (pc := 6) hx hb dU_freePlaces_6 (by decide) (fun h701 => ?_) (fun h701 => ?_)
    · skip
      refine lv_iload_n (pc := 33) hx hb dU_freePlaces_33 rfl (lv_at hl 1 rfl) ?_
      exact hret _ _ _ ((show u2 = C_U_freePlaces_5_0 u0 u2 from by rw [C_U_freePlaces_5_0]).trans he) dU_freePlaces_34
    · exact absurd h701 (by decide)
  have J5_1 : ∀ (u0 : Int64) (u2 : Int32) (ls : Array Slot), lv_has ls 4 [(0, .long u0), (2, .int u2), (3, .int 1)] → C_U_freePlaces_5_1 u0 u2 = C_U_freePlaces x1 → W p l e rmU_freePlaces s m args below meth c s.heap [] 0 0 Q (F0 m 5 ls []) := by
    intro u0 u2 ls hl he
    refine lv_iload_n (pc := 5) hx hb dU_freePlaces_5 rfl (lv_at hl 2 rfl) ?_
    refine lv_if_le (tgt := 33) (pc := 6) hx hb dU_freePlaces_6 (by decide) (fun h601 => ?_) (fun h601 => ?_)
    · exact absurd h601 (by decide)
    · skip
      refine lv_lload_n (pc := 9) hx hb dU_freePlaces_9 rfl (lv_at hl 0 rfl) ?_
      refine lv_iload_n (pc := 10) hx hb dU_freePlaces_10 rfl (lv_at hl 1 rfl) ?_
      refine lv_lshl (v := jShl u0 u2) (pc := 11) hx hb dU_freePlaces_11 rfl ?_
      refine lv_bipush (v := 63) (pc := 12) hx hb dU_freePlaces_12 (by decide) ?_
      refine lv_iload_n (pc := 14) hx hb dU_freePlaces_14 rfl (lv_at hl 2 rfl) ?_
      refine lv_isub (pc := 15) hx hb dU_freePlaces_15 ?_
      refine lv_topi (fun v601 e601 => ?_)
      obtain rfl : v601 = 62 := e601.trans (by decide)
      refine lv_lushr (v := jUshr (jShl u0 u2) 62) (pc := 16) hx hb dU_freePlaces_16 rfl ?_
      refine lv_lconst (v := 0) (pc := 17) hx hb dU_freePlaces_17 (by decide) ?_
      refine W.lcmp (pc := 18) hx hb dU_freePlaces_18 ?_
      refine lv_if_ne (tgt := 26) (pc := 19) hx hb dU_freePlaces_19 (by decide) (fun h602 => ?_) (fun h602 => ?_)
      · skip
        have h602 : ¬ ((jUshr (jShl u0 u2) 62) = 0) := fun q => h602 ((lg_cmp_eq _ _).2 q)
        refine lv_iload_n (pc := 26) hx hb dU_freePlaces_26 rfl (lv_at hl 2 rfl) ?_
        refine lv_iconst (v := 2) (pc := 27) hx hb dU_freePlaces_27 (by decide) ?_
        refine lv_idiv (pc := 28) hx hb dU_freePlaces_28 (by decide) ?_
        refine lv_topi (fun v602 e602 => ?_)
        obtain rfl : v602 = 0 := e602.trans (by decide)
        refine lv_istore_n (lv' := [(3, .int 0), (0, .long u0), (2, .int u2)]) (pc := 29) hx hb dU_freePlaces_29 rfl hl (by decide) rfl (fun ls hl => ?_)
        refine lv_goto (tgt := 5) (pc := 30) hx hb dU_freePlaces_30 (by decide) ?_
        exact J5_0 u0 u2 ls (lv_sub hl [1, 2, 0] rfl) ((show C_U_freePlaces_5_0 u0 u2 = C_U_freePlaces_5_1 u0 u2 from by rw [C_U_freePlaces_5_1, if_neg h602]).trans he)
      · skip
        have h602 : (jUshr (jShl u0 u2) 62) = 0 := (lg_cmp_eq _ _).1 h602
        refine lv_iload_n (pc := 22) hx hb dU_freePlaces_22 rfl (lv_at hl 1 rfl) ?_
        refine lv_iload_n (pc := 23) hx hb dU_freePlaces_23 rfl (lv_at hl 2 rfl) ?_
        refine lv_iadd (pc := 24) hx hb dU_freePlaces_24 ?_
        refine lv_istore_n (lv' := [(2, .int (u2 + 1)), (0, .long u0), (3, .int 1)]) (pc := 25) hx hb dU_freePlaces_25 rfl hl (by decide) rfl (fun ls hl => ?_)
        refine lv_iload_n (pc := 26) hx hb dU_freePlaces_26 rfl (lv_at hl 2 rfl) ?_
        refine lv_iconst (v := 2) (pc := 27) hx hb dU_freePlaces_27 (by decide) ?_
        refine lv_idiv (pc := 28) hx hb dU_freePlaces_28 (by decide) ?_
        refine lv_topi (fun v603 e603 => ?_)
        obtain rfl : v603 = 0 := e603.trans (by decide)
        refine lv_istore_n (lv' := [(3, .int 0), (2, .int (u2 + 1)), (0, .long u0)]) (pc := 29) hx hb dU_freePlaces_29 rfl hl (by decide) rfl (fun ls hl => ?_)
        refine lv_goto (tgt := 5) (pc := 30) hx hb dU_freePlaces_30 (by decide) ?_
        exact J5_0 u0 (u2 + 1) ls (lv_sub hl [2, 1, 0] rfl) ((show C_U_freePlaces_5_0 u0 (u2 + 1) = C_U_freePlaces_5_1 u0 u2 from by rw [C_U_freePlaces_5_1, if_pos h602]).trans he)
  have J5_2 : ∀ (u0 : Int64) (u2 : Int32) (ls : Array Slot), lv_has ls 4 [(0, .long u0), (2, .int u2), (3, .int 2)] → C_U_freePlaces_5_2 u0 u2 = C_U_freePlaces x1 → W p l e rmU_freePlaces s m args below meth c s.heap [] 0 0 Q (F0 m 5 ls []) := by
    intro u0 u2 ls hl he
    refine lv_iload_n (pc := 5) hx hb dU_freePlaces_5 rfl (lv_at hl 2 rfl) ?_
    refine lv_if_le (tgt := 33) (pc := 6) hx hb dU_freePlaces_6 (by decide) (fun h501 => ?_) (fun h501 => ?_)
    · exact absurd h501 (by decide)
    · skip
      refine lv_lload_n (pc := 9) hx hb dU_freePlaces_9 rfl (lv_at hl 0 rfl) ?_
      refine lv_iload_n (pc := 10) hx hb dU_freePlaces_10 rfl (lv_at hl 1 rfl) ?_
      refine lv_lshl (v := jShl u0 u2) (pc := 11) hx hb dU_freePlaces_11 rfl ?_
      refine lv_bipush (v := 63) (pc := 12) hx hb dU_freePlaces_12 (by decide) ?_
      refine lv_iload_n (pc := 14) hx hb dU_freePlaces_14 rfl (lv_at hl 2 rfl) ?_
      refine lv_isub (pc := 15) hx hb dU_freePlaces_15 ?_
      refine lv_topi (fun v501 e501 => ?_)
      obtain rfl : v501 = 61 := e501.trans (by decide)
      refine lv_lushr (v := jUshr (jShl u0 u2) 61) (pc := 16) hx hb dU_freePlaces_16 rfl ?_
      refine lv_lconst (v := 0) (pc := 17) hx hb dU_freePlaces_17 (by decide) ?_
      refine W.lcmp (pc := 18) hx hb dU_freePlaces_18 ?_
      refine lv_if_ne (tgt := 26) (pc := 19) hx hb dU_freePlaces_19 (by decide) (fun h502 => ?_) (fun h502 => ?_)
      · skip
        have h502 : ¬ ((jUshr (jShl u0 u2) 61) = 0) := fun q => h502 ((lg_cmp_eq _ _).2 q)
        refine lv_iload_n (pc := 26) hx hb dU_freePlaces_26 rfl (lv_at hl 2 rfl) ?_
        refine lv_iconst (v := 2) (pc := 27) hx hb dU_freePlaces_27 (by decide) ?_
        refine lv_idiv (pc := 28) hx hb dU_freePlaces_28 (by decide) ?_
        refine lv_topi (fun v502 e502 => ?_)
        obtain rfl : v502 = 1 := e502.trans (by decide)
        refine lv_istore_n (lv' := [(3, .int 1), (0, .long u0), (2, .int u2)]) (pc := 29) hx hb dU_freePlaces_29 rfl hl (by decide) rfl (fun ls hl => ?_)
        refine lv_goto (tgt := 5) (pc := 30) hx hb dU_freePlaces_30 (by decide) ?_
        exact J5_1 u0 u2 ls (lv_sub hl [1, 2, 0] rfl) ((show C_U_freePlaces_5_1 u0 u2 = C_U_freePlaces_5_2 u0 u2 from by rw [C_U_freePlaces_5_2, if_neg h502]).trans he)
      · skip
        have h502 : (jUshr (jShl u0 u2) 61) = 0 := (lg_cmp_eq _ _).1 h502
        refine lv_iload_n (pc := 22) hx hb dU_freePlaces_22 rfl (lv_at hl 1 rfl) ?_
        refine lv_iload_n (pc := 23) hx hb dU_freePlaces_23 rfl (lv_at hl 2 rfl) ?_
        refine lv_iadd (pc := 24) hx hb dU_freePlaces_24 ?_
        refine lv_istore_n (lv' := [(2, .int (u2 + 2)), (0, .long u0), (3, .int 2)]) (pc := 25) hx hb dU_freePlaces_25 rfl hl (by decide) rfl (fun ls hl => ?_)
        refine lv_iload_n (pc := 26) hx hb dU_freePlaces_26 rfl (lv_at hl 2 rfl) ?_
        refine lv_iconst (v := 2) (pc := 27) hx hb dU_freePlaces_27 (by decide) ?_
        refine lv_idiv (pc := 28) hx hb dU_freePlaces_28 (by decide) ?_
        refine lv_topi (fun v503 e503 => ?_)
        obtain rfl : v503 = 1 := e503.trans (by decide)
        refine lv_istore_n (lv' := [(3, .int 1), (2, .int (u2 + 2)), (0, .long u0)]) (pc := 29) hx hb dU_freePlaces_29 rfl hl (by decide) rfl (fun ls hl => ?_)
        refine lv_goto (tgt := 5) (pc := 30) hx hb dU_freePlaces_30 (by decide) ?_
        exact J5_1 u0 (u2 + 2) ls (lv_sub hl [2, 1, 0] rfl) ((show C_U_freePlaces_5_1 u0 (u2 + 2) = C_U_freePlaces_5_2 u0 u2 from by rw [C_U_freePlaces_5_2, if_pos h502]).trans he)
  have J5_4 : ∀ (u0 : Int64) (u2 : Int32) (ls : Array Slot), lv_has ls 4 [(0, .long u0), (2, .int u2), (3, .int 4)] → C_U_freePlaces_5_4 u0 u2 = C_U_freePlaces x1 → W p l e rmU_freePlaces s m args below meth c s.heap [] 0 0 Q (F0 m 5 ls []) := by
    intro u0 u2 ls hl he
    refine lv_iload_n (pc := 5) hx hb dU_freePlaces_5 rfl (lv_at hl 2 rfl) ?_
    refine lv_if_le (tgt := 33) (pc := 6) hx hb dU_freePlaces_6 (by decide) (fun h401 => ?_) (fun h401 => ?_)
    · exact absurd h401 (by decide)
    · skip
      refine lv_lload_n (pc := 9) hx hb dU_freePlaces_9 rfl (lv_at hl 0 rfl) ?_
      refine lv_iload_n (pc := 10) hx hb dU_freePlaces_10 rfl (lv_at hl 1 rfl) ?_
      refine lv_lshl (v := jShl u0 u2) (pc := 11) hx hb dU_freePlaces_11 rfl ?_
      refine lv_bipush (v := 63) (pc := 12) hx hb dU_freePlaces_12 (by decide) ?_
      refine lv_iload_n (pc := 14) hx hb dU_freePlaces_14 rfl (lv_at hl 2 rfl) ?_
      refine lv_isub (pc := 15) hx hb dU_freePlaces_15 ?_
      refine lv_topi (fun v401 e401 => ?_)
      obtain rfl : v401 = 59 := e401.trans (by decide)
      refine lv_lushr (v := jUshr (jShl u0 u2) 59) (pc := 16) hx hb dU_freePlaces_16 rfl ?_
      refine lv_lconst (v := 0) (pc := 17) hx hb dU_freePlaces_17 (by decide) ?_
      refine W.lcmp (pc := 18) hx hb dU_freePlaces_18 ?_
      refine lv_if_ne (tgt := 26) (pc := 19) hx hb dU_freePlaces_19 (by decide) (fun h402 => ?_) (fun h402 => ?_)
      · skip
        have h402 : ¬ ((jUshr (jShl u0 u2) 59) = 0) := fun q => h402 ((lg_cmp_eq _ _).2 q)
        refine lv_iload_n (pc := 26) hx hb dU_freePlaces_26 rfl (lv_at hl 2 rfl) ?_
        refine lv_iconst (v := 2) (pc := 27) hx hb dU_freePlaces_27 (by decide) ?_
        refine lv_idiv (pc := 28) hx hb dU_freePlaces_28 (by decide) ?_
        refine lv_topi (fun v402 e402 => ?_)
        obtain rfl : v402 = 2 := e402.trans (by decide)
        refine lv_istore_n (lv' := [(3, .int 2), (0, .long u0), (2, .int u2)]) (pc := 29) hx hb dU_freePlaces_29 rfl hl (by decide) rfl (fun ls hl => ?_)
        refine lv_goto (tgt := 5) (pc := 30) hx hb dU_freePlaces_30 (by decide) ?_
        exact J5_2 u0 u2 ls (lv_sub hl [1, 2, 0] rfl) ((show C_U_freePlaces_5_2 u0 u2 = C_U_freePlaces_5_4 u0 u2 from by rw [C_U_freePlaces_5_4, if_neg h402]).trans he)
      · skip
        have h402 : (jUshr (jShl u0 u2) 59) = 0 := (lg_cmp_eq _ _).1 h402
        refine lv_iload_n (pc := 22) hx hb dU_freePlaces_22 rfl (lv_at hl 1 rfl) ?_
        refine lv_iload_n (pc := 23) hx hb dU_freePlaces_23 rfl (lv_at hl 2 rfl) ?_
        refine lv_iadd (pc := 24) hx hb dU_freePlaces_24 ?_
        refine lv_istore_n (lv' := [(2, .int (u2 + 4)), (0, .long u0), (3, .int 4)]) (pc := 25) hx hb dU_freePlaces_25 rfl hl (by decide) rfl (fun ls hl => ?_)
        refine lv_iload_n (pc := 26) hx hb dU_freePlaces_26 rfl (lv_at hl 2 rfl) ?_
        refine lv_iconst (v := 2) (pc := 27) hx hb dU_freePlaces_27 (by decide) ?_
        refine lv_idiv (pc := 28) hx hb dU_freePlaces_28 (by decide) ?_
        refine lv_topi (fun v403 e403 => ?_)
        obtain rfl : v403 = 2 := e403.trans (by decide)
        refine lv_istore_n (lv' := [(3, .int 2), (2, .int (u2 + 4)), (0, .long u0)]) (pc := 29) hx hb dU_freePlaces_29 rfl hl (by decide) rfl (fun ls hl => ?_)
        refine lv_goto (tgt := 5) (pc := 30) hx hb dU_freePlaces_30 (by decide) ?_
        exact J5_2 u0 (u2 + 4) ls (lv_sub hl [2, 1, 0] rfl) ((show C_U_freePlaces_5_2 u0 (u2 + 4) = C_U_freePlaces_5_4 u0 u2 from by rw [C_U_freePlaces_5_4, if_pos h402]).trans he)
  have J5_8 : ∀ (u0 : Int64) (u2 : Int32) (ls : Array Slot), lv_has ls 4 [(0, .long u0), (2, .int u2), (3, .int 8)] → C_U_freePlaces_5_8 u0 u2 = C_U_freePlaces x1 → W p l e rmU_freePlaces s m args below meth c s.heap [] 0 0 Q (F0 m 5 ls []) := by
    intro u0 u2 ls hl he
    refine lv_iload_n (pc := 5) hx hb dU_freePlaces_5 rfl (lv_at hl 2 rfl) ?_
    refine lv_if_le (tgt := 33) (pc := 6) hx hb dU_freePlaces_6 (by decide) (fun h301 => ?_) (fun h301 => ?_)
    · exact absurd h301 (by decide)
    · skip
      refine lv_lload_n (pc := 9) hx hb dU_freePlaces_9 rfl (lv_at hl 0 rfl) ?_
      refine lv_iload_n (pc := 10) hx hb dU_freePlaces_10 rfl (lv_at hl 1 rfl) ?_
      refine lv_lshl (v := jShl u0 u2) (pc := 11) hx hb dU_freePlaces_11 rfl ?_
      refine lv_bipush (v := 63) (pc := 12) hx hb dU_freePlaces_12 (by decide) ?_
      refine lv_iload_n (pc := 14) hx hb dU_freePlaces_14 rfl (lv_at hl 2 rfl) ?_
      refine lv_isub (pc := 15) hx hb dU_freePlaces_15 ?_
      refine lv_topi (fun v301 e301 => ?_)
      obtain rfl : v301 = 55 := e301.trans (by decide)
      refine lv_lushr (v := jUshr (jShl u0 u2) 55) (pc := 16) hx hb dU_freePlaces_16 rfl ?_
      refine lv_lconst (v := 0) (pc := 17) hx hb dU_freePlaces_17 (by decide) ?_
      refine W.lcmp (pc := 18) hx hb dU_freePlaces_18 ?_
      refine lv_if_ne (tgt := 26) (pc := 19) hx hb dU_freePlaces_19 (by decide) (fun h302 => ?_) (fun h302 => ?_)
      · skip
        have h302 : ¬ ((jUshr (jShl u0 u2) 55) = 0) := fun q => h302 ((lg_cmp_eq _ _).2 q)
        refine lv_iload_n (pc := 26) hx hb dU_freePlaces_26 rfl (lv_at hl 2 rfl) ?_
        refine lv_iconst (v := 2) (pc := 27) hx hb dU_freePlaces_27 (by decide) ?_
        refine lv_idiv (pc := 28) hx hb dU_freePlaces_28 (by decide) ?_
        refine lv_topi (fun v302 e302 => ?_)
        obtain rfl : v302 = 4 := e302.trans (by decide)
        refine lv_istore_n (lv' := [(3, .int 4), (0, .long u0), (2, .int u2)]) (pc := 29) hx hb dU_freePlaces_29 rfl hl (by decide) rfl (fun ls hl => ?_)
        refine lv_goto (tgt := 5) (pc := 30) hx hb dU_freePlaces_30 (by decide) ?_
        exact J5_4 u0 u2 ls (lv_sub hl [1, 2, 0] rfl) ((show C_U_freePlaces_5_4 u0 u2 = C_U_freePlaces_5_8 u0 u2 from by rw [C_U_freePlaces_5_8, if_neg h302]).trans he)
      · skip
        have h302 : (jUshr (jShl u0 u2) 55) = 0 := (lg_cmp_eq _ _).1 h302
        refine lv_iload_n (pc := 22) hx hb dU_freePlaces_22 rfl (lv_at hl 1 rfl) ?_
        refine lv_iload_n (pc := 23) hx hb dU_freePlaces_23 rfl (lv_at hl 2 rfl) ?_
        refine lv_iadd (pc := 24) hx hb dU_freePlaces_24 ?_
        refine lv_istore_n (lv' := [(2, .int (u2 + 8)), (0, .long u0), (3, .int 8)]) (pc := 25) hx hb dU_freePlaces_25 rfl hl (by decide) rfl (fun ls hl => ?_)
        refine lv_iload_n (pc := 26) hx hb dU_freePlaces_26 rfl (lv_at hl 2 rfl) ?_
        refine lv_iconst (v := 2) (pc := 27) hx hb dU_freePlaces_27 (by decide) ?_
        refine lv_idiv (pc := 28) hx hb dU_freePlaces_28 (by decide) ?_
        refine lv_topi (fun v303 e303 => ?_)
        obtain rfl : v303 = 4 := e303.trans (by decide)
        refine lv_istore_n (lv' := [(3, .int 4), (2, .int (u2 + 8)), (0, .long u0)]) (pc := 29) hx hb dU_freePlaces_29 rfl hl (by decide) rfl (fun ls hl => ?_)
        refine lv_goto (tgt := 5) (pc := 30) hx hb dU_freePlaces_30 (by decide) ?_
        exact J5_4 u0 (u2 + 8) ls (lv_sub hl [2, 1, 0] rfl) ((show C_U_freePlaces_5_4 u0 (u2 + 8) = C_U_freePlaces_5_8 u0 u2 from by rw [C_U_freePlaces_5_8, if_pos h302]).trans he)
  have J5_16 : ∀ (u0 : Int64) (u2 : Int32) (ls : Array Slot), lv_has ls 4 [(0, .long u0), (2, .int u2), (3, .int 16)] → C_U_freePlaces_5_16 u0 u2 = C_U_freePlaces x1 → W p l e rmU_freePlaces s m args below meth c s.heap [] 0 0 Q (F0 m 5 ls []) := by
    intro u0 u2 ls hl he
    refine lv_iload_n (pc := 5) hx hb dU_freePlaces_5 rfl (lv_at hl 2 rfl) ?_
    refine lv_if_le (tgt := 33) (pc := 6) hx hb dU_freePlaces_6 (by decide) (fun h201 => ?_) (fun h201 => ?_)
    · exact absurd h201 (by decide)
    · skip
      refine lv_lload_n (pc := 9) hx hb dU_freePlaces_9 rfl (lv_at hl 0 rfl) ?_
      refine lv_iload_n (pc := 10) hx hb dU_freePlaces_10 rfl (lv_at hl 1 rfl) ?_
      refine lv_lshl (v := jShl u0 u2) (pc := 11) hx hb dU_freePlaces_11 rfl ?_
      refine lv_bipush (v := 63) (pc := 12) hx hb dU_freePlaces_12 (by decide) ?_
      refine lv_iload_n (pc := 14) hx hb dU_freePlaces_14 rfl (lv_at hl 2 rfl) ?_
      refine lv_isub (pc := 15) hx hb dU_freePlaces_15 ?_
      refine lv_topi (fun v201 e201 => ?_)
      obtain rfl : v201 = 47 := e201.trans (by decide)
      refine lv_lushr (v := jUshr (jShl u0 u2) 47) (pc := 16) hx hb dU_freePlaces_16 rfl ?_
      refine lv_lconst (v := 0) (pc := 17) hx hb dU_freePlaces_17 (by decide) ?_
      refine W.lcmp (pc := 18) hx hb dU_freePlaces_18 ?_
      refine lv_if_ne (tgt := 26) (pc := 19) hx hb dU_freePlaces_19 (by decide) (fun h202 => ?_) (fun h202 => ?_)
      · skip
        have h202 : ¬ ((jUshr (jShl u0 u2) 47) = 0) := fun q => h202 ((lg_cmp_eq _ _).2 q)
        refine lv_iload_n (pc := 26) hx hb dU_freePlaces_26 rfl (lv_at hl 2 rfl) ?_
        refine lv_iconst (v := 2) (pc := 27) hx hb dU_freePlaces_27 (by decide) ?_
        refine lv_idiv (pc := 28) hx hb dU_freePlaces_28 (by decide) ?_
        refine lv_topi (fun v202 e202 => ?_)
        obtain rfl : v202 = 8 := e202.trans (by decide)
        refine lv_istore_n (lv' := [(3, .int 8), (0, .long u0), (2, .int u2)]) (pc := 29) hx hb dU_freePlaces_29 rfl hl (by decide) rfl (fun ls hl => ?_)
        refine lv_goto (tgt := 5) (pc := 30) hx hb dU_freePlaces_30 (by decide) ?_
        exact J5_8 u0 u2 ls (lv_sub hl [1, 2, 0] rfl) ((show C_U_freePlaces_5_8 u0 u2 = C_U_freePlaces_5_16 u0 u2 from by rw [C_U_freePlaces_5_16, if_neg h202]).trans he)
      · skip
        have h202 : (jUshr (jShl u0 u2) 47) = 0 := (lg_cmp_eq _ _).1 h202
        refine lv_iload_n (pc := 22) hx hb dU_freePlaces_22 rfl (lv_at hl 1 rfl) ?_
        refine lv_iload_n (pc := 23) hx hb dU_freePlaces_23 rfl (lv_at hl 2 rfl) ?_
        refine lv_iadd (pc := 24) hx hb dU_freePlaces_24 ?_
        refine lv_istore_n (lv' := [(2, .int (u2 + 16)), (0, .long u0), (3, .int 16)]) (pc := 25) hx hb dU_freePlaces_25 rfl hl (by decide) rfl (fun ls hl => ?_)
        refine lv_iload_n (pc := 26) hx hb dU_freePlaces_26 rfl (lv_at hl 2 rfl) ?_
        refine lv_iconst (v := 2) (pc := 27) hx hb dU_freePlaces_27 (by decide) ?_
        refine lv_idiv (pc := 28) hx hb dU_freePlaces_28 (by decide) ?_
        refine lv_topi (fun v203 e203 => ?_)
        obtain rfl : v203 = 8 := e203.trans (by decide)
        refine lv_istore_n (lv' := [(3, .int 8), (2, .int (u2 + 16)), (0, .long u0)]) (pc := 29) hx hb dU_freePlaces_29 rfl hl (by decide) rfl (fun ls hl => ?_)
        refine lv_goto (tgt := 5) (pc := 30) hx hb dU_freePlaces_30 (by decide) ?_
        exact J5_8 u0 (u2 + 16) ls (lv_sub hl [2, 1, 0] rfl) ((show C_U_freePlaces_5_8 u0 (u2 + 16) = C_U_freePlaces_5_16 u0 u2 from by rw [C_U_freePlaces_5_16, if_pos h202]).trans he)
  have J5_32 : ∀ (u0 : Int64) (u2 : Int32) (ls : Array Slot), lv_has ls 4 [(0, .long u0), (2, .int u2), (3, .int 32)] → C_U_freePlaces_5_32 u0 u2 = C_U_freePlaces x1 → W p l e rmU_freePlaces s m args below meth c s.heap [] 0 0 Q (F0 m 5 ls []) := by
    intro u0 u2 ls hl he
    refine lv_iload_n (pc := 5) hx hb dU_freePlaces_5 rfl (lv_at hl 2 rfl) ?_
    refine lv_if_le (tgt := 33) (pc := 6) hx hb dU_freePlaces_6 (by decide) (fun h101 => ?_) (fun h101 => ?_)
    · exact absurd h101 (by decide)
    · skip
      refine lv_lload_n (pc := 9) hx hb dU_freePlaces_9 rfl (lv_at hl 0 rfl) ?_
      refine lv_iload_n (pc := 10) hx hb dU_freePlaces_10 rfl (lv_at hl 1 rfl) ?_
      refine lv_lshl (v := jShl u0 u2) (pc := 11) hx hb dU_freePlaces_11 rfl ?_
      refine lv_bipush (v := 63) (pc := 12) hx hb dU_freePlaces_12 (by decide) ?_
      refine lv_iload_n (pc := 14) hx hb dU_freePlaces_14 rfl (lv_at hl 2 rfl) ?_
      refine lv_isub (pc := 15) hx hb dU_freePlaces_15 ?_
      refine lv_topi (fun v101 e101 => ?_)
      obtain rfl : v101 = 31 := e101.trans (by decide)
      refine lv_lushr (v := jUshr (jShl u0 u2) 31) (pc := 16) hx hb dU_freePlaces_16 rfl ?_
      refine lv_lconst (v := 0) (pc := 17) hx hb dU_freePlaces_17 (by decide) ?_
      refine W.lcmp (pc := 18) hx hb dU_freePlaces_18 ?_
      refine lv_if_ne (tgt := 26) (pc := 19) hx hb dU_freePlaces_19 (by decide) (fun h102 => ?_) (fun h102 => ?_)
      · skip
        have h102 : ¬ ((jUshr (jShl u0 u2) 31) = 0) := fun q => h102 ((lg_cmp_eq _ _).2 q)
        refine lv_iload_n (pc := 26) hx hb dU_freePlaces_26 rfl (lv_at hl 2 rfl) ?_
        refine lv_iconst (v := 2) (pc := 27) hx hb dU_freePlaces_27 (by decide) ?_
        refine lv_idiv (pc := 28) hx hb dU_freePlaces_28 (by decide) ?_
        refine lv_topi (fun v102 e102 => ?_)
        obtain rfl : v102 = 16 := e102.trans (by decide)
        refine lv_istore_n (lv' := [(3, .int 16), (0, .long u0), (2, .int u2)]) (pc := 29) hx hb dU_freePlaces_29 rfl hl (by decide) rfl (fun ls hl => ?_)
        refine lv_goto (tgt := 5) (pc := 30) hx hb dU_freePlaces_30 (by decide) ?_
        exact J5_16 u0 u2 ls (lv_sub hl [1, 2, 0] rfl) ((show C_U_freePlaces_5_16 u0 u2 = C_U_freePlaces_5_32 u0 u2 from by rw [C_U_freePlaces_5_32, if_neg h102]).trans he)
      · skip
        have h102 : (jUshr (jShl u0 u2) 31) = 0 := (lg_cmp_eq _ _).1 h102
        refine lv_iload_n (pc := 22) hx hb dU_freePlaces_22 rfl (lv_at hl 1 rfl) ?_
        refine lv_iload_n (pc := 23) hx hb dU_freePlaces_23 rfl (lv_at hl 2 rfl) ?_
        refine lv_iadd (pc := 24) hx hb dU_freePlaces_24 ?_
        refine lv_istore_n (lv' := [(2, .int (u2 + 32)), (0, .long u0), (3, .int 32)]) (pc := 25) hx hb dU_freePlaces_25 rfl hl (by decide) rfl (fun ls hl => ?_)
        refine lv_iload_n (pc := 26) hx hb dU_freePlaces_26 rfl (lv_at hl 2 rfl) ?_
        refine lv_iconst (v := 2) (pc := 27) hx hb dU_freePlaces_27 (by decide) ?_
        refine lv_idiv (pc := 28) hx hb dU_freePlaces_28 (by decide) ?_
        refine lv_topi (fun v103 e103 => ?_)
        obtain rfl : v103 = 16 := e103.trans (by decide)
        refine lv_istore_n (lv' := [(3, .int 16), (2, .int (u2 + 32)), (0, .long u0)]) (pc := 29) hx hb dU_freePlaces_29 rfl hl (by decide) rfl (fun ls hl => ?_)
        refine lv_goto (tgt := 5) (pc := 30) hx hb dU_freePlaces_30 (by decide) ?_
        exact J5_16 u0 (u2 + 32) ls (lv_sub hl [2, 1, 0] rfl) ((show C_U_freePlaces_5_16 u0 (u2 + 32) = C_U_freePlaces_5_32 u0 u2 from by rw [C_U_freePlaces_5_32, if_pos h102]).trans he)
  refine lv_iconst (v := 0) (pc := 0) hx hb dU_freePlaces_0 (by decide) ?_
  refine lv_istore_n (lv' := [(2, .int 0), (0, .long x1)]) (pc := 1) hx hb dU_freePlaces_1 rfl hl (by decide) rfl (fun ls hl => ?_)
  refine lv_bipush (v := 32) (pc := 2) hx hb dU_freePlaces_2 (by decide) ?_
  refine lv_istore_n (lv' := [(3, .int 32), (2, .int 0), (0, .long x1)]) (pc := 4) hx hb dU_freePlaces_4 rfl hl (by decide) rfl (fun ls hl => ?_)
  exact J5_32 x1 0 ls (lv_sub hl [2, 1, 0] rfl) (show C_U_freePlaces_5_32 x1 0 = C_U_freePlaces x1 from by rw [C_U_freePlaces])
def C_U_pressed (x1 : Int64) (k2 : Int32) : Int64 :=
  if k2 ≤ 62 then
    if (jShl (jUshr x1 k2) k2) = x1 then
      jUshr x1 k2
    else
      (jUshr x1 k2) ||| 1
  else
    if x1 = 0 then
      0
    else
      1
abbrev rmU_pressed : Room := { frames := 0, cells := 0, slots := 0, locals := 0 }
theorem cwU_pressed {R : Room} {s : State} {args : Array Value} {w0 : Cond} {idx : Nat} (hts : ∀ w ∈ (w0 :: bigW), w.before args s = true) (hl : Cond.methodLink "FloatUnit" idx yU_pressed ∈ bigW) (hR : rmU_pressed.frames + 1 ≤ R.frames ∧ 8 + (5 + 11) + rmU_pressed.locals ≤ R.locals) : CallB R s args "FloatUnit" idx yU_pressed cU_pressed 5 (some .long) (wsM yU_pressed cU_pressed 5 (some .long)) rmU_pressed 0 0 2 ∧ (Cond.static yU_pressed).before args s = true :=
  cwS 2 hts (big_S hl w_211 w_1 w_212) rfl rfl rfl ⟨rfl, by decide, by decide, by decide +kernel⟩ hR
set_option maxRecDepth 100000 in
set_option maxHeartbeats 4000000 in
theorem c_U_pressed (l : Launch) (ad : Nat → Nat) (x1 : Int64) (k2 : Int32) : PuM l ad yU_pressed (wsM yU_pressed cU_pressed 5 (some .long)) rmU_pressed [.long x1, .int k2] (.long (C_U_pressed x1 k2)) := by
  refine pu_ofL (cc := cU_pressed) (maxL := 5) (by decide) rfl (Nat.le_of_ble_eq_true rfl) ?_
  intro p e s m args below meth c Q hx hb hml hown hts hF hS hret ls hl
  have hl : lv_has ls 5 [(0, .long x1), (2, .int k2)] := hl
  refine lv_iload_n (pc := 0) hx hb dU_pressed_0 rfl (lv_at hl 1 rfl) ?_
  refine lv_bipush (v := 62) (pc := 1) hx hb dU_pressed_1 (by decide) ?_
  refine lv_icmp_le (tgt := 18) (pc := 3) hx hb dU_pressed_3 (by decide) (fun h1 => ?_) (fun h1 => ?_)
  · skip
    refine lv_lload_n (pc := 18) hx hb dU_pressed_18 rfl (lv_at hl 0 rfl) ?_
    refine lv_iload_n (pc := 19) hx hb dU_pressed_19 rfl (lv_at hl 1 rfl) ?_
    refine lv_lushr (v := jUshr x1 k2) (pc := 20) hx hb dU_pressed_20 rfl ?_
    refine lv_lstore_n (lv' := [(3, .long (jUshr x1 k2)), (0, .long x1), (2, .int k2)]) (pc := 21) hx hb dU_pressed_21 rfl hl (by decide) rfl (fun ls hl => ?_)
    refine lv_lload_n (pc := 22) hx hb dU_pressed_22 rfl (lv_at hl 0 rfl) ?_
    refine lv_iload_n (pc := 23) hx hb dU_pressed_23 rfl (lv_at hl 2 rfl) ?_
    refine lv_lshl (v := jShl (jUshr x1 k2) k2) (pc := 24) hx hb dU_pressed_24 rfl ?_
    refine lv_lload_n (pc := 25) hx hb dU_pressed_25 rfl (lv_at hl 1 rfl) ?_
    refine W.lcmp (pc := 26) hx hb dU_pressed_26 ?_
    refine lv_if_ne (tgt := 34) (pc := 27) hx hb dU_pressed_27 (by decide) (fun h2 => ?_) (fun h2 => ?_)
    · skip
      have h2 : ¬ ((jShl (jUshr x1 k2) k2) = x1) := fun q => h2 ((lg_cmp_eq _ _).2 q)
      refine lv_lload_n (pc := 34) hx hb dU_pressed_34 rfl (lv_at hl 0 rfl) ?_
      refine lv_lconst (v := 1) (pc := 35) hx hb dU_pressed_35 (by decide) ?_
      refine lv_lor (pc := 36) hx hb dU_pressed_36 ?_
      exact hret _ _ _ (show (jUshr x1 k2) ||| 1 = C_U_pressed x1 k2 from by rw [C_U_pressed, if_pos h1, if_neg h2]) dU_pressed_37
    · skip
      have h2 : (jShl (jUshr x1 k2) k2) = x1 := (lg_cmp_eq _ _).1 h2
      refine lv_lload_n (pc := 30) hx hb dU_pressed_30 rfl (lv_at hl 0 rfl) ?_
      refine lv_goto (tgt := 37) (pc := 31) hx hb dU_pressed_31 (by decide) ?_
      exact hret _ _ _ (show jUshr x1 k2 = C_U_pressed x1 k2 from by rw [C_U_pressed, if_pos h1, if_pos h2]) dU_pressed_37
  · skip
    refine lv_lload_n (pc := 6) hx hb dU_pressed_6 rfl (lv_at hl 0 rfl) ?_
    refine lv_lconst (v := 0) (pc := 7) hx hb dU_pressed_7 (by decide) ?_
    refine W.lcmp (pc := 8) hx hb dU_pressed_8 ?_
    refine lv_if_ne (tgt := 16) (pc := 9) hx hb dU_pressed_9 (by decide) (fun h3 => ?_) (fun h3 => ?_)
    · skip
      have h3 : ¬ (x1 = 0) := fun q => h3 ((lg_cmp_eq _ _).2 q)
      refine lv_lconst (v := 1) (pc := 16) hx hb dU_pressed_16 (by decide) ?_
      exact hret _ _ _ (show 1 = C_U_pressed x1 k2 from by rw [C_U_pressed, if_neg h1, if_neg h3]) dU_pressed_17
    · skip
      have h3 : x1 = 0 := (lg_cmp_eq _ _).1 h3
      refine lv_lconst (v := 0) (pc := 12) hx hb dU_pressed_12 (by decide) ?_
      refine lv_goto (tgt := 17) (pc := 13) hx hb dU_pressed_13 (by decide) ?_
      exact hret _ _ _ (show 0 = C_U_pressed x1 k2 from by rw [C_U_pressed, if_neg h1, if_pos h3]) dU_pressed_17
def C_U_moved (x1 : Int64) (k2 : Int32) : Int64 :=
  if k2 ≤ (-64) then
    0
  else
    if k2 < 64 then
      if 0 ≤ k2 then
        jShl x1 k2
      else
        jUshr x1 (-k2)
    else
      0
abbrev rmU_moved : Room := { frames := 0, cells := 0, slots := 0, locals := 0 }
theorem cwU_moved {R : Room} {s : State} {args : Array Value} {w0 : Cond} {idx : Nat} (hts : ∀ w ∈ (w0 :: bigW), w.before args s = true) (hl : Cond.methodLink "FloatUnit" idx yU_moved ∈ bigW) (hR : rmU_moved.frames + 1 ≤ R.frames ∧ 8 + (3 + 11) + rmU_moved.locals ≤ R.locals) : CallB R s args "FloatUnit" idx yU_moved cU_moved 3 (some .long) (wsM yU_moved cU_moved 3 (some .long)) rmU_moved 0 0 2 ∧ (Cond.static yU_moved).before args s = true :=
  cwS 2 hts (big_S hl w_312 w_1 w_313) rfl rfl rfl ⟨rfl, by decide, by decide, by decide +kernel⟩ hR
set_option maxRecDepth 100000 in
set_option maxHeartbeats 4000000 in
theorem c_U_moved (l : Launch) (ad : Nat → Nat) (x1 : Int64) (k2 : Int32) : PuM l ad yU_moved (wsM yU_moved cU_moved 3 (some .long)) rmU_moved [.long x1, .int k2] (.long (C_U_moved x1 k2)) := by
  refine pu_ofL (cc := cU_moved) (maxL := 3) (by decide) rfl (Nat.le_of_ble_eq_true rfl) ?_
  intro p e s m args below meth c Q hx hb hml hown hts hF hS hret ls hl
  have hl : lv_has ls 3 [(0, .long x1), (2, .int k2)] := hl
  refine lv_iload_n (pc := 0) hx hb dU_moved_0 rfl (lv_at hl 1 rfl) ?_
  refine lv_bipush (v := (-64)) (pc := 1) hx hb dU_moved_1 (by decide) ?_
  refine lv_icmp_le (tgt := 12) (pc := 3) hx hb dU_moved_3 (by decide) (fun h1 => ?_) (fun h1 => ?_)
  · skip
    refine lv_lconst (v := 0) (pc := 12) hx hb dU_moved_12 (by decide) ?_
    exact hret _ _ _ (show 0 = C_U_moved x1 k2 from by rw [C_U_moved, if_pos h1]) dU_moved_13
  · skip
    refine lv_iload_n (pc := 6) hx hb dU_moved_6 rfl (lv_at hl 1 rfl) ?_
    refine lv_bipush (v := 64) (pc := 7) hx hb dU_moved_7 (by decide) ?_
    refine lv_icmp_lt (tgt := 14) (pc := 9) hx hb dU_moved_9 (by decide) (fun h2 => ?_) (fun h2 => ?_)
    · skip
      refine lv_iload_n (pc := 14) hx hb dU_moved_14 rfl (lv_at hl 1 rfl) ?_
      refine lv_if_ge (tgt := 25) (pc := 15) hx hb dU_moved_15 (by decide) (fun h3 => ?_) (fun h3 => ?_)
      · skip
        refine lv_lload_n (pc := 25) hx hb dU_moved_25 rfl (lv_at hl 0 rfl) ?_
        refine lv_iload_n (pc := 26) hx hb dU_moved_26 rfl (lv_at hl 1 rfl) ?_
        refine lv_lshl (v := jShl x1 k2) (pc := 27) hx hb dU_moved_27 rfl ?_
        exact hret _ _ _ (show jShl x1 k2 = C_U_moved x1 k2 from by rw [C_U_moved, if_neg h1, if_pos h2, if_pos h3]) dU_moved_28
      · skip
        refine lv_lload_n (pc := 18) hx hb dU_moved_18 rfl (lv_at hl 0 rfl) ?_
        refine lv_iload_n (pc := 19) hx hb dU_moved_19 rfl (lv_at hl 1 rfl) ?_
        refine lv_ineg (pc := 20) hx hb dU_moved_20 ?_
        refine lv_lushr (v := jUshr x1 (-k2)) (pc := 21) hx hb dU_moved_21 rfl ?_
        refine lv_goto (tgt := 28) (pc := 22) hx hb dU_moved_22 (by decide) ?_
        exact hret _ _ _ (show jUshr x1 (-k2) = C_U_moved x1 k2 from by rw [C_U_moved, if_neg h1, if_pos h2, if_neg h3]) dU_moved_28
    · skip
      refine lv_lconst (v := 0) (pc := 12) hx hb dU_moved_12 (by decide) ?_
      exact hret _ _ _ (show 0 = C_U_moved x1 k2 from by rw [C_U_moved, if_neg h1, if_neg h2]) dU_moved_13
def C_U_isBeyond (x1 : Int64) (x2 : Int64) : Bool :=
  if (x1 ^^^ (-9223372036854775808)) ≤ (x2 ^^^ (-9223372036854775808)) then
    false
  else
    true
abbrev rmU_isBeyond : Room := { frames := 0, cells := 0, slots := 0, locals := 0 }
theorem cwU_isBeyond {R : Room} {s : State} {args : Array Value} {w0 : Cond} {idx : Nat} (hts : ∀ w ∈ (w0 :: bigW), w.before args s = true) (hl : Cond.methodLink "FloatUnit" idx yU_isBeyond ∈ bigW) (hR : rmU_isBeyond.frames + 1 ≤ R.frames ∧ 8 + (4 + 11) + rmU_isBeyond.locals ≤ R.locals) : CallB R s args "FloatUnit" idx yU_isBeyond cU_isBeyond 4 (some .boolean) (wsM yU_isBeyond cU_isBeyond 4 (some .boolean)) rmU_isBeyond 0 0 2 ∧ (Cond.static yU_isBeyond).before args s = true :=
  cwS 2 hts (big_S hl w_315 w_1 w_316) rfl rfl rfl ⟨rfl, by decide, by decide, by decide +kernel⟩ hR
set_option maxRecDepth 100000 in
set_option maxHeartbeats 4000000 in
theorem c_U_isBeyond (l : Launch) (ad : Nat → Nat) (x1 : Int64) (x2 : Int64) : PuM l ad yU_isBeyond (wsM yU_isBeyond cU_isBeyond 4 (some .boolean)) rmU_isBeyond [.long x1, .long x2] (.int (bI (C_U_isBeyond x1 x2))) := by
  refine pu_ofZ (cc := cU_isBeyond) (maxL := 4) (by decide) rfl (Nat.le_of_ble_eq_true rfl) ?_
  intro p e s m args below meth c Q hx hb hml hown hts hF hS hret ls hl
  have hl : lv_has ls 4 [(0, .long x1), (2, .long x2)] := hl
  refine lv_lload_n (pc := 0) hx hb dU_isBeyond_0 rfl (lv_at hl 0 rfl) ?_
  refine lv_ldc2 (v := (-9223372036854775808)) (pc := 1) hx hb hown (hts _ (List.mem_cons_of_mem _ w_317)) dU_isBeyond_1 ?_
  refine lv_lxor (pc := 4) hx hb dU_isBeyond_4 ?_
  refine lv_lload_n (pc := 5) hx hb dU_isBeyond_5 rfl (lv_at hl 1 rfl) ?_
  refine lv_ldc2 (v := (-9223372036854775808)) (pc := 6) hx hb hown (hts _ (List.mem_cons_of_mem _ w_317)) dU_isBeyond_6 ?_
  refine lv_lxor (pc := 9) hx hb dU_isBeyond_9 ?_
  refine W.lcmp (pc := 10) hx hb dU_isBeyond_10 ?_
  refine lv_if_le (tgt := 18) (pc := 11) hx hb dU_isBeyond_11 (by decide) (fun h1 => ?_) (fun h1 => ?_)
  · skip
    have h1 : (x1 ^^^ (-9223372036854775808)) ≤ (x2 ^^^ (-9223372036854775808)) := (lg_cmp_le _ _).1 h1
    refine lv_iconst (v := 0) (pc := 18) hx hb dU_isBeyond_18 (by decide) ?_
    exact hret _ _ _ (show bI false = bI (C_U_isBeyond x1 x2) from by rw [C_U_isBeyond, if_pos h1]) dU_isBeyond_19
  · skip
    have h1 : ¬ ((x1 ^^^ (-9223372036854775808)) ≤ (x2 ^^^ (-9223372036854775808))) := fun q => h1 ((lg_cmp_le _ _).2 q)
    refine lv_iconst (v := 1) (pc := 14) hx hb dU_isBeyond_14 (by decide) ?_
    refine lv_goto (tgt := 19) (pc := 15) hx hb dU_isBeyond_15 (by decide) ?_
    exact hret _ _ _ (show bI true = bI (C_U_isBeyond x1 x2) from by rw [C_U_isBeyond, if_neg h1]) dU_isBeyond_19
def C_U_upperProduct (x1 : Int64) (x2 : Int64) : Int64 :=
  if ((((x1 &&& 4294967295) * (jUshr x2 32)) + ((((jUshr x1 32) * (x2 &&& 4294967295)) + (jUshr ((x1 &&& 4294967295) * (x2 &&& 4294967295)) 32)) &&& 4294967295)) &&& 4294967295) = 0 then
    if (((x1 &&& 4294967295) * (x2 &&& 4294967295)) &&& 4294967295) = 0 then
      (((jUshr x1 32) * (jUshr x2 32)) + (jUshr (((jUshr x1 32) * (x2 &&& 4294967295)) + (jUshr ((x1 &&& 4294967295) * (x2 &&& 4294967295)) 32)) 32)) + (jUshr (((x1 &&& 4294967295) * (jUshr x2 32)) + ((((jUshr x1 32) * (x2 &&& 4294967295)) + (jUshr ((x1 &&& 4294967295) * (x2 &&& 4294967295)) 32)) &&& 4294967295)) 32)
    else
      ((((jUshr x1 32) * (jUshr x2 32)) + (jUshr (((jUshr x1 32) * (x2 &&& 4294967295)) + (jUshr ((x1 &&& 4294967295) * (x2 &&& 4294967295)) 32)) 32)) + (jUshr (((x1 &&& 4294967295) * (jUshr x2 32)) + ((((jUshr x1 32) * (x2 &&& 4294967295)) + (jUshr ((x1 &&& 4294967295) * (x2 &&& 4294967295)) 32)) &&& 4294967295)) 32)) ||| 1
  else
    ((((jUshr x1 32) * (jUshr x2 32)) + (jUshr (((jUshr x1 32) * (x2 &&& 4294967295)) + (jUshr ((x1 &&& 4294967295) * (x2 &&& 4294967295)) 32)) 32)) + (jUshr (((x1 &&& 4294967295) * (jUshr x2 32)) + ((((jUshr x1 32) * (x2 &&& 4294967295)) + (jUshr ((x1 &&& 4294967295) * (x2 &&& 4294967295)) 32)) &&& 4294967295)) 32)) ||| 1
abbrev rmU_upperProduct : Room := { frames := 0, cells := 0, slots := 0, locals := 0 }
theorem cwU_upperProduct {R : Room} {s : State} {args : Array Value} {w0 : Cond} {idx : Nat} (hts : ∀ w ∈ (w0 :: bigW), w.before args s = true) (hl : Cond.methodLink "FloatUnit" idx yU_upperProduct ∈ bigW) (hR : rmU_upperProduct.frames + 1 ≤ R.frames ∧ 8 + (21 + 11) + rmU_upperProduct.locals ≤ R.locals) : CallB R s args "FloatUnit" idx yU_upperProduct cU_upperProduct 21 (some .long) (wsM yU_upperProduct cU_upperProduct 21 (some .long)) rmU_upperProduct 0 0 2 ∧ (Cond.static yU_upperProduct).before args s = true :=
  cwS 2 hts (big_S hl w_257 w_1 w_258) rfl rfl rfl ⟨rfl, by decide, by decide, by decide +kernel⟩ hR
set_option maxRecDepth 100000 in
set_option maxHeartbeats 4000000 in
theorem c_U_upperProduct (l : Launch) (ad : Nat → Nat) (x1 : Int64) (x2 : Int64) : PuM l ad yU_upperProduct (wsM yU_upperProduct cU_upperProduct 21 (some .long)) rmU_upperProduct [.long x1, .long x2] (.long (C_U_upperProduct x1 x2)) := by
  refine pu_ofL (cc := cU_upperProduct) (maxL := 21) (by decide) rfl (Nat.le_of_ble_eq_true rfl) ?_
  intro p e s m args below meth c Q hx hb hml hown hts hF hS hret ls hl
  have hl : lv_has ls 21 [(0, .long x1), (2, .long x2)] := hl
  refine lv_lload_n (pc := 0) hx hb dU_upperProduct_0 rfl (lv_at hl 0 rfl) ?_
  refine lv_bipush (v := 32) (pc := 1) hx hb dU_upperProduct_1 (by decide) ?_
  refine lv_lushr (v := jUshr x1 32) (pc := 3) hx hb dU_upperProduct_3 rfl ?_
  refine lv_lstore (lv' := [(4, .long (jUshr x1 32)), (0, .long x1), (2, .long x2)]) (pc := 4) hx hb dU_upperProduct_4 hl (by decide) rfl (fun ls hl => ?_)
  refine lv_lload_n (pc := 6) hx hb dU_upperProduct_6 rfl (lv_at hl 1 rfl) ?_
  refine lv_ldc2 (v := 4294967295) (pc := 7) hx hb hown (hts _ (List.mem_cons_of_mem _ w_259)) dU_upperProduct_7 ?_
  refine lv_land (pc := 10) hx hb dU_upperProduct_10 ?_
  refine lv_lstore (lv' := [(6, .long (x1 &&& 4294967295)), (4, .long (jUshr x1 32)), (0, .long x1), (2, .long x2)]) (pc := 11) hx hb dU_upperProduct_11 hl (by decide) rfl (fun ls hl => ?_)
  refine lv_lload_n (pc := 13) hx hb dU_upperProduct_13 rfl (lv_at hl 3 rfl) ?_
  refine lv_bipush (v := 32) (pc := 14) hx hb dU_upperProduct_14 (by decide) ?_
  refine lv_lushr (v := jUshr x2 32) (pc := 16) hx hb dU_upperProduct_16 rfl ?_
  refine lv_lstore (lv' := [(8, .long (jUshr x2 32)), (6, .long (x1 &&& 4294967295)), (4, .long (jUshr x1 32)), (0, .long x1), (2, .long x2)]) (pc := 17) hx hb dU_upperProduct_17 hl (by decide) rfl (fun ls hl => ?_)
  refine lv_lload_n (pc := 19) hx hb dU_upperProduct_19 rfl (lv_at hl 4 rfl) ?_
  refine lv_ldc2 (v := 4294967295) (pc := 20) hx hb hown (hts _ (List.mem_cons_of_mem _ w_259)) dU_upperProduct_20 ?_
  refine lv_land (pc := 23) hx hb dU_upperProduct_23 ?_
  refine lv_lstore (lv' := [(10, .long (x2 &&& 4294967295)), (8, .long (jUshr x2 32)), (6, .long (x1 &&& 4294967295)), (4, .long (jUshr x1 32)), (0, .long x1), (2, .long x2)]) (pc := 24) hx hb dU_upperProduct_24 hl (by decide) rfl (fun ls hl => ?_)
  refine lv_lload (pc := 26) hx hb dU_upperProduct_26 (lv_at hl 2 rfl) ?_
  refine lv_lload (pc := 28) hx hb dU_upperProduct_28 (lv_at hl 0 rfl) ?_
  refine lv_lmul (pc := 30) hx hb dU_upperProduct_30 ?_
  refine lv_lstore (lv' := [(12, .long ((x1 &&& 4294967295) * (x2 &&& 4294967295))), (10, .long (x2 &&& 4294967295)), (8, .long (jUshr x2 32)), (6, .long (x1 &&& 4294967295)), (4, .long (jUshr x1 32)), (0, .long x1), (2, .long x2)]) (pc := 31) hx hb dU_upperProduct_31 hl (by decide) rfl (fun ls hl => ?_)
  refine lv_lload (pc := 33) hx hb dU_upperProduct_33 (lv_at hl 4 rfl) ?_
  refine lv_lload (pc := 35) hx hb dU_upperProduct_35 (lv_at hl 1 rfl) ?_
  refine lv_lmul (pc := 37) hx hb dU_upperProduct_37 ?_
  refine lv_lload (pc := 38) hx hb dU_upperProduct_38 (lv_at hl 0 rfl) ?_
  refine lv_bipush (v := 32) (pc := 40) hx hb dU_upperProduct_40 (by decide) ?_
  refine lv_lushr (v := jUshr ((x1 &&& 4294967295) * (x2 &&& 4294967295)) 32) (pc := 42) hx hb dU_upperProduct_42 rfl ?_
  refine lv_ladd (pc := 43) hx hb dU_upperProduct_43 ?_
  refine lv_lstore (lv' := [(14, .long (((jUshr x1 32) * (x2 &&& 4294967295)) + (jUshr ((x1 &&& 4294967295) * (x2 &&& 4294967295)) 32))), (12, .long ((x1 &&& 4294967295) * (x2 &&& 4294967295))), (10, .long (x2 &&& 4294967295)), (8, .long (jUshr x2 32)), (6, .long (x1 &&& 4294967295)), (4, .long (jUshr x1 32)), (0, .long x1), (2, .long x2)]) (pc := 44) hx hb dU_upperProduct_44 hl (by decide) rfl (fun ls hl => ?_)
  refine lv_lload (pc := 46) hx hb dU_upperProduct_46 (lv_at hl 4 rfl) ?_
  refine lv_lload (pc := 48) hx hb dU_upperProduct_48 (lv_at hl 3 rfl) ?_
  refine lv_lmul (pc := 50) hx hb dU_upperProduct_50 ?_
  refine lv_lload (pc := 51) hx hb dU_upperProduct_51 (lv_at hl 0 rfl) ?_
  refine lv_ldc2 (v := 4294967295) (pc := 53) hx hb hown (hts _ (List.mem_cons_of_mem _ w_259)) dU_upperProduct_53 ?_
  refine lv_land (pc := 56) hx hb dU_upperProduct_56 ?_
  refine lv_ladd (pc := 57) hx hb dU_upperProduct_57 ?_
  refine lv_lstore (lv' := [(16, .long (((x1 &&& 4294967295) * (jUshr x2 32)) + ((((jUshr x1 32) * (x2 &&& 4294967295)) + (jUshr ((x1 &&& 4294967295) * (x2 &&& 4294967295)) 32)) &&& 4294967295))), (14, .long (((jUshr x1 32) * (x2 &&& 4294967295)) + (jUshr ((x1 &&& 4294967295) * (x2 &&& 4294967295)) 32))), (12, .long ((x1 &&& 4294967295) * (x2 &&& 4294967295))), (10, .long (x2 &&& 4294967295)), (8, .long (jUshr x2 32)), (6, .long (x1 &&& 4294967295)), (4, .long (jUshr x1 32)), (0, .long x1), (2, .long x2)]) (pc := 58) hx hb dU_upperProduct_58 hl (by decide) rfl (fun ls hl => ?_)
  refine lv_lload (pc := 60) hx hb dU_upperProduct_60 (lv_at hl 6 rfl) ?_
  refine lv_lload (pc := 62) hx hb dU_upperProduct_62 (lv_at hl 4 rfl) ?_
  refine lv_lmul (pc := 64) hx hb dU_upperProduct_64 ?_
  refine lv_lload (pc := 65) hx hb dU_upperProduct_65 (lv_at hl 1 rfl) ?_
  refine lv_bipush (v := 32) (pc := 67) hx hb dU_upperProduct_67 (by decide) ?_
  refine lv_lushr (v := jUshr (((jUshr x1 32) * (x2 &&& 4294967295)) + (jUshr ((x1 &&& 4294967295) * (x2 &&& 4294967295)) 32)) 32) (pc := 69) hx hb dU_upperProduct_69 rfl ?_
  refine lv_ladd (pc := 70) hx hb dU_upperProduct_70 ?_
  refine lv_lload (pc := 71) hx hb dU_upperProduct_71 (lv_at hl 0 rfl) ?_
  refine lv_bipush (v := 32) (pc := 73) hx hb dU_upperProduct_73 (by decide) ?_
  refine lv_lushr (v := jUshr (((x1 &&& 4294967295) * (jUshr x2 32)) + ((((jUshr x1 32) * (x2 &&& 4294967295)) + (jUshr ((x1 &&& 4294967295) * (x2 &&& 4294967295)) 32)) &&& 4294967295)) 32) (pc := 75) hx hb dU_upperProduct_75 rfl ?_
  refine lv_ladd (pc := 76) hx hb dU_upperProduct_76 ?_
  refine lv_lstore (lv' := [(18, .long ((((jUshr x1 32) * (jUshr x2 32)) + (jUshr (((jUshr x1 32) * (x2 &&& 4294967295)) + (jUshr ((x1 &&& 4294967295) * (x2 &&& 4294967295)) 32)) 32)) + (jUshr (((x1 &&& 4294967295) * (jUshr x2 32)) + ((((jUshr x1 32) * (x2 &&& 4294967295)) + (jUshr ((x1 &&& 4294967295) * (x2 &&& 4294967295)) 32)) &&& 4294967295)) 32))), (16, .long (((x1 &&& 4294967295) * (jUshr x2 32)) + ((((jUshr x1 32) * (x2 &&& 4294967295)) + (jUshr ((x1 &&& 4294967295) * (x2 &&& 4294967295)) 32)) &&& 4294967295))), (14, .long (((jUshr x1 32) * (x2 &&& 4294967295)) + (jUshr ((x1 &&& 4294967295) * (x2 &&& 4294967295)) 32))), (12, .long ((x1 &&& 4294967295) * (x2 &&& 4294967295))), (10, .long (x2 &&& 4294967295)), (8, .long (jUshr x2 32)), (6, .long (x1 &&& 4294967295)), (4, .long (jUshr x1 32)), (0, .long x1), (2, .long x2)]) (pc := 77) hx hb dU_upperProduct_77 hl (by decide) rfl (fun ls hl => ?_)
  refine lv_lload (pc := 79) hx hb dU_upperProduct_79 (lv_at hl 1 rfl) ?_
  refine lv_ldc2 (v := 4294967295) (pc := 81) hx hb hown (hts _ (List.mem_cons_of_mem _ w_259)) dU_upperProduct_81 ?_
  refine lv_land (pc := 84) hx hb dU_upperProduct_84 ?_
  refine lv_lconst (v := 0) (pc := 85) hx hb dU_upperProduct_85 (by decide) ?_
  refine W.lcmp (pc := 86) hx hb dU_upperProduct_86 ?_
  refine lv_if_ne (tgt := 105) (pc := 87) hx hb dU_upperProduct_87 (by decide) (fun h1 => ?_) (fun h1 => ?_)
  · skip
    have h1 : ¬ (((((x1 &&& 4294967295) * (jUshr x2 32)) + ((((jUshr x1 32) * (x2 &&& 4294967295)) + (jUshr ((x1 &&& 4294967295) * (x2 &&& 4294967295)) 32)) &&& 4294967295)) &&& 4294967295) = 0) := fun q => h1 ((lg_cmp_eq _ _).2 q)
    refine lv_iconst (v := 0) (pc := 105) hx hb dU_upperProduct_105 (by decide) ?_
    refine lv_istore (lv' := [(20, .int 0), (18, .long ((((jUshr x1 32) * (jUshr x2 32)) + (jUshr (((jUshr x1 32) * (x2 &&& 4294967295)) + (jUshr ((x1 &&& 4294967295) * (x2 &&& 4294967295)) 32)) 32)) + (jUshr (((x1 &&& 4294967295) * (jUshr x2 32)) + ((((jUshr x1 32) * (x2 &&& 4294967295)) + (jUshr ((x1 &&& 4294967295) * (x2 &&& 4294967295)) 32)) &&& 4294967295)) 32))), (16, .long (((x1 &&& 4294967295) * (jUshr x2 32)) + ((((jUshr x1 32) * (x2 &&& 4294967295)) + (jUshr ((x1 &&& 4294967295) * (x2 &&& 4294967295)) 32)) &&& 4294967295))), (14, .long (((jUshr x1 32) * (x2 &&& 4294967295)) + (jUshr ((x1 &&& 4294967295) * (x2 &&& 4294967295)) 32))), (12, .long ((x1 &&& 4294967295) * (x2 &&& 4294967295))), (10, .long (x2 &&& 4294967295)), (8, .long (jUshr x2 32)), (6, .long (x1 &&& 4294967295)), (4, .long (jUshr x1 32)), (0, .long x1), (2, .long x2)]) (pc := 106) hx hb dU_upperProduct_106 hl (by decide) rfl (fun ls hl => ?_)
    refine lv_iload (pc := 108) hx hb dU_upperProduct_108 (lv_at hl 0 rfl) ?_
    refine lv_if_eq (tgt := 118) (pc := 110) hx hb dU_upperProduct_110 (by decide) (fun h2 => ?_) (fun h2 => ?_)
    · skip
      refine lv_lload (pc := 118) hx hb dU_upperProduct_118 (lv_at hl 1 rfl) ?_
      refine lv_lconst (v := 1) (pc := 120) hx hb dU_upperProduct_120 (by decide) ?_
      refine lv_lor (pc := 121) hx hb dU_upperProduct_121 ?_
      exact hret _ _ _ (show ((((jUshr x1 32) * (jUshr x2 32)) + (jUshr (((jUshr x1 32) * (x2 &&& 4294967295)) + (jUshr ((x1 &&& 4294967295) * (x2 &&& 4294967295)) 32)) 32)) + (jUshr (((x1 &&& 4294967295) * (jUshr x2 32)) + ((((jUshr x1 32) * (x2 &&& 4294967295)) + (jUshr ((x1 &&& 4294967295) * (x2 &&& 4294967295)) 32)) &&& 4294967295)) 32)) ||| 1 = C_U_upperProduct x1 x2 from by rw [C_U_upperProduct, if_neg h1]) dU_upperProduct_122
    · exact absurd h2 (by decide)
  · skip
    have h1 : ((((x1 &&& 4294967295) * (jUshr x2 32)) + ((((jUshr x1 32) * (x2 &&& 4294967295)) + (jUshr ((x1 &&& 4294967295) * (x2 &&& 4294967295)) 32)) &&& 4294967295)) &&& 4294967295) = 0 := (lg_cmp_eq _ _).1 h1
    refine lv_lload (pc := 90) hx hb dU_upperProduct_90 (lv_at hl 3 rfl) ?_
    refine lv_ldc2 (v := 4294967295) (pc := 92) hx hb hown (hts _ (List.mem_cons_of_mem _ w_259)) dU_upperProduct_92 ?_
    refine lv_land (pc := 95) hx hb dU_upperProduct_95 ?_
    refine lv_lconst (v := 0) (pc := 96) hx hb dU_upperProduct_96 (by decide) ?_
    refine W.lcmp (pc := 97) hx hb dU_upperProduct_97 ?_
    refine lv_if_ne (tgt := 105) (pc := 98) hx hb dU_upperProduct_98 (by decide) (fun h3 => ?_) (fun h3 => ?_)
    · skip
      have h3 : ¬ ((((x1 &&& 4294967295) * (x2 &&& 4294967295)) &&& 4294967295) = 0) := fun q => h3 ((lg_cmp_eq _ _).2 q)
      refine lv_iconst (v := 0) (pc := 105) hx hb dU_upperProduct_105 (by decide) ?_
      refine lv_istore (lv' := [(20, .int 0), (18, .long ((((jUshr x1 32) * (jUshr x2 32)) + (jUshr (((jUshr x1 32) * (x2 &&& 4294967295)) + (jUshr ((x1 &&& 4294967295) * (x2 &&& 4294967295)) 32)) 32)) + (jUshr (((x1 &&& 4294967295) * (jUshr x2 32)) + ((((jUshr x1 32) * (x2 &&& 4294967295)) + (jUshr ((x1 &&& 4294967295) * (x2 &&& 4294967295)) 32)) &&& 4294967295)) 32))), (16, .long (((x1 &&& 4294967295) * (jUshr x2 32)) + ((((jUshr x1 32) * (x2 &&& 4294967295)) + (jUshr ((x1 &&& 4294967295) * (x2 &&& 4294967295)) 32)) &&& 4294967295))), (14, .long (((jUshr x1 32) * (x2 &&& 4294967295)) + (jUshr ((x1 &&& 4294967295) * (x2 &&& 4294967295)) 32))), (12, .long ((x1 &&& 4294967295) * (x2 &&& 4294967295))), (10, .long (x2 &&& 4294967295)), (8, .long (jUshr x2 32)), (6, .long (x1 &&& 4294967295)), (4, .long (jUshr x1 32)), (0, .long x1), (2, .long x2)]) (pc := 106) hx hb dU_upperProduct_106 hl (by decide) rfl (fun ls hl => ?_)
      refine lv_iload (pc := 108) hx hb dU_upperProduct_108 (lv_at hl 0 rfl) ?_
      refine lv_if_eq (tgt := 118) (pc := 110) hx hb dU_upperProduct_110 (by decide) (fun h4 => ?_) (fun h4 => ?_)
      · skip
        refine lv_lload (pc := 118) hx hb dU_upperProduct_118 (lv_at hl 1 rfl) ?_
        refine lv_lconst (v := 1) (pc := 120) hx hb dU_upperProduct_120 (by decide) ?_
        refine lv_lor (pc := 121) hx hb dU_upperProduct_121 ?_
        exact hret _ _ _ (show ((((jUshr x1 32) * (jUshr x2 32)) + (jUshr (((jUshr x1 32) * (x2 &&& 4294967295)) + (jUshr ((x1 &&& 4294967295) * (x2 &&& 4294967295)) 32)) 32)) + (jUshr (((x1 &&& 4294967295) * (jUshr x2 32)) + ((((jUshr x1 32) * (x2 &&& 4294967295)) + (jUshr ((x1 &&& 4294967295) * (x2 &&& 4294967295)) 32)) &&& 4294967295)) 32)) ||| 1 = C_U_upperProduct x1 x2 from by rw [C_U_upperProduct, if_pos h1, if_neg h3]) dU_upperProduct_122
      · exact absurd h4 (by decide)
    · skip
      have h3 : (((x1 &&& 4294967295) * (x2 &&& 4294967295)) &&& 4294967295) = 0 := (lg_cmp_eq _ _).1 h3
      refine lv_iconst (v := 1) (pc := 101) hx hb dU_upperProduct_101 (by decide) ?_
      refine lv_goto (tgt := 106) (pc := 102) hx hb dU_upperProduct_102 (by decide) ?_
      refine lv_istore (lv' := [(20, .int 1), (18, .long ((((jUshr x1 32) * (jUshr x2 32)) + (jUshr (((jUshr x1 32) * (x2 &&& 4294967295)) + (jUshr ((x1 &&& 4294967295) * (x2 &&& 4294967295)) 32)) 32)) + (jUshr (((x1 &&& 4294967295) * (jUshr x2 32)) + ((((jUshr x1 32) * (x2 &&& 4294967295)) + (jUshr ((x1 &&& 4294967295) * (x2 &&& 4294967295)) 32)) &&& 4294967295)) 32))), (16, .long (((x1 &&& 4294967295) * (jUshr x2 32)) + ((((jUshr x1 32) * (x2 &&& 4294967295)) + (jUshr ((x1 &&& 4294967295) * (x2 &&& 4294967295)) 32)) &&& 4294967295))), (14, .long (((jUshr x1 32) * (x2 &&& 4294967295)) + (jUshr ((x1 &&& 4294967295) * (x2 &&& 4294967295)) 32))), (12, .long ((x1 &&& 4294967295) * (x2 &&& 4294967295))), (10, .long (x2 &&& 4294967295)), (8, .long (jUshr x2 32)), (6, .long (x1 &&& 4294967295)), (4, .long (jUshr x1 32)), (0, .long x1), (2, .long x2)]) (pc := 106) hx hb dU_upperProduct_106 hl (by decide) rfl (fun ls hl => ?_)
      refine lv_iload (pc := 108) hx hb dU_upperProduct_108 (lv_at hl 0 rfl) ?_
      refine lv_if_eq (tgt := 118) (pc := 110) hx hb dU_upperProduct_110 (by decide) (fun h5 => ?_) (fun h5 => ?_)
      · exact absurd h5 (by decide)
      · skip
        refine lv_lload (pc := 113) hx hb dU_upperProduct_113 (lv_at hl 1 rfl) ?_
        refine lv_goto (tgt := 122) (pc := 115) hx hb dU_upperProduct_115 (by decide) ?_
        exact hret _ _ _ (show (((jUshr x1 32) * (jUshr x2 32)) + (jUshr (((jUshr x1 32) * (x2 &&& 4294967295)) + (jUshr ((x1 &&& 4294967295) * (x2 &&& 4294967295)) 32)) 32)) + (jUshr (((x1 &&& 4294967295) * (jUshr x2 32)) + ((((jUshr x1 32) * (x2 &&& 4294967295)) + (jUshr ((x1 &&& 4294967295) * (x2 &&& 4294967295)) 32)) &&& 4294967295)) 32) = C_U_upperProduct x1 x2 from by rw [C_U_upperProduct, if_pos h1, if_pos h3]) dU_upperProduct_122
def C_F_lift (x1 : Int64) : Int32 :=
  (C_U_freePlaces x1) - 10
abbrev rmF_lift : Room := { frames := 1, cells := 0, slots := 0, locals := 23 }
theorem cwF_lift {R : Room} {s : State} {args : Array Value} {w0 : Cond} {idx : Nat} (hts : ∀ w ∈ (w0 :: bigW), w.before args s = true) (hl : Cond.methodLink "FloatUnit$Format" idx yF_lift ∈ bigW) (hR : rmF_lift.frames + 1 ≤ R.frames ∧ 8 + (2 + 11) + rmF_lift.locals ≤ R.locals) : CallB R s args "FloatUnit$Format" idx yF_lift cF_lift 2 (some .int) (wsM yF_lift cF_lift 2 (some .int)) rmF_lift 0 0 1 ∧ (Cond.static yF_lift).before args s = true :=
  cwS 1 hts (big_S hl w_197 w_8 w_198) rfl rfl rfl ⟨rfl, by decide, by decide, by decide +kernel⟩ hR
set_option maxRecDepth 100000 in
set_option maxHeartbeats 4000000 in
theorem c_F_lift (l : Launch) (ad : Nat → Nat) (x1 : Int64) : PuM l ad yF_lift (wsM yF_lift cF_lift 2 (some .int)) rmF_lift [.long x1] (.int (C_F_lift x1)) := by
  refine pu_ofI (cc := cF_lift) (maxL := 2) (by decide) rfl (Nat.le_of_ble_eq_true rfl) ?_
  intro p e s m args below meth c Q hx hb hml hown hts hF hS hret ls hl
  have hl : lv_has ls 2 [(0, .long x1)] := hl
  refine lv_lload_n (pc := 0) hx hb dF_lift_0 rfl (lv_at hl 0 rfl) ?_
  refine pu_SN (pc := 1) (rest := []) ⟨hx, hb, hml, hown, hts⟩ (c_U_freePlaces l ad x1) ⟨va_cnB 1 hts (big_M w_201) rfl rfl rfl hF.2.2.2.2.2.2 (hts _ (List.mem_cons_of_mem _ w_1)) ⟨by decide, by decide, by decide +kernel⟩ ⟨by decide, by decide⟩, hts _ (List.mem_cons_of_mem _ w_200), trivial⟩ hF hS rfl hl.1 rfl (Nat.le_of_ble_eq_true rfl) dF_lift_1 ⟨Nat.zero_le _, Nat.zero_le _⟩ ?_
  refine lv_bipush (v := 10) (pc := 4) hx hb dF_lift_4 (by decide) ?_
  refine lv_isub (pc := 6) hx hb dF_lift_6 ?_
  exact hret _ _ _ (show (C_U_freePlaces x1) - 10 = C_F_lift x1 from by rw [C_F_lift]) dF_lift_7
def C_F_significand (i : Nat) (x1 : Int64) : Int64 :=
  jShl (C_F_plain i x1) (C_F_lift (C_F_plain i x1))
abbrev rmF_significand : Room := { frames := 2, cells := 0, slots := 0, locals := 46 }
theorem cwF_significand {R : Room} {s : State} {args : Array Value} {w0 : Cond} {own : String} {idx : Nat} (hts : ∀ w ∈ (w0 :: bigW), w.before args s = true) (hl : Cond.methodLink own idx yF_significand ∈ bigW) (hR : rmF_significand.frames + 1 ≤ R.frames ∧ 8 + (5 + 11) + rmF_significand.locals ≤ R.locals) : CallW R s args own "FloatUnit$Format" idx yF_significand cF_significand 5 (some .long) (wsM yF_significand cF_significand 5 (some .long)) rmF_significand 0 0 1 :=
  cwV 1 hts (big_V hl w_207 w_208 w_8 w_209) rfl rfl rfl ⟨rfl, by decide, by decide, by decide +kernel⟩ hR
set_option maxRecDepth 100000 in
set_option maxHeartbeats 4000000 in
theorem c_F_significand (l : Launch) (ad : Nat → Nat) {i : Nat} (hi : i < 2) (x1 : Int64) : PuM l ad yF_significand (wsM yF_significand cF_significand 5 (some .long)) rmF_significand [.ref (ad i), .long x1] (.long (C_F_significand i x1)) := by
  refine pu_ofL (cc := cF_significand) (maxL := 5) (by decide) rfl (Nat.le_of_ble_eq_true rfl) ?_
  intro p e s m args below meth c Q hx hb hml hown hts hF hS hret ls hl
  have hl : lv_has ls 5 [(0, .ref (ad i)), (1, .long x1)] := hl
  refine lv_aload_n (pc := 0) hx hb dF_significand_0 rfl (lv_at hl 0 rfl) ?_
  refine lv_lload_n (pc := 1) hx hb dF_significand_1 rfl (lv_at hl 1 rfl) ?_
  refine pu_V (pc := 2) (i := i) (rest := []) ⟨hx, hb, hml, hown, hts⟩ hi (c_F_plain l ad hi x1) (cwF_plain hts w_191 ⟨by decide, by decide⟩) hF hS rfl hl.1 rfl (Nat.le_of_ble_eq_true rfl) dF_significand_2 ⟨Nat.zero_le _, Nat.zero_le _⟩ ?_
  refine lv_lstore_n (lv' := [(3, .long (C_F_plain i x1)), (0, .ref (ad i)), (1, .long x1)]) (pc := 5) hx hb dF_significand_5 rfl hl (by decide) rfl (fun ls hl => ?_)
  refine lv_lload_n (pc := 6) hx hb dF_significand_6 rfl (lv_at hl 0 rfl) ?_
  refine lv_lload_n (pc := 7) hx hb dF_significand_7 rfl (lv_at hl 0 rfl) ?_
  refine pu_S (pc := 8) (rest := [.long (C_F_plain i x1)]) ⟨hx, hb, hml, hown, hts⟩ (c_F_lift l ad (C_F_plain i x1)) (cwF_lift hts w_196 ⟨by decide, by decide⟩) hF hS rfl hl.1 rfl (Nat.le_of_ble_eq_true rfl) dF_significand_8 ⟨Nat.zero_le _, Nat.zero_le _⟩ ?_
  refine lv_lshl (v := jShl (C_F_plain i x1) (C_F_lift (C_F_plain i x1))) (pc := 11) hx hb dF_significand_11 rfl ?_
  exact hret _ _ _ (show jShl (C_F_plain i x1) (C_F_lift (C_F_plain i x1)) = C_F_significand i x1 from by rw [C_F_significand]) dF_significand_12
def C_F_power (i : Nat) (x1 : Int64) : Int32 :=
  (C_F_unitPower i (jMax ((jUshr (C_F_size i x1) ((fPr i) - 1)).toInt32) 1)) - (C_F_lift (C_F_plain i x1))
abbrev rmF_power : Room := { frames := 2, cells := 0, slots := 0, locals := 46 }
theorem cwF_power {R : Room} {s : State} {args : Array Value} {w0 : Cond} {own : String} {idx : Nat} (hts : ∀ w ∈ (w0 :: bigW), w.before args s = true) (hl : Cond.methodLink own idx yF_power ∈ bigW) (hR : rmF_power.frames + 1 ≤ R.frames ∧ 8 + (4 + 11) + rmF_power.locals ≤ R.locals) : CallW R s args own "FloatUnit$Format" idx yF_power cF_power 4 (some .int) (wsM yF_power cF_power 4 (some .int)) rmF_power 0 0 1 :=
  cwV 1 hts (big_V hl w_181 w_182 w_8 w_183) rfl rfl rfl ⟨rfl, by decide, by decide, by decide +kernel⟩ hR
set_option maxRecDepth 100000 in
set_option maxHeartbeats 4000000 in
theorem c_F_power (l : Launch) (ad : Nat → Nat) {i : Nat} (hi : i < 2) (x1 : Int64) : PuM l ad yF_power (wsM yF_power cF_power 4 (some .int)) rmF_power [.ref (ad i), .long x1] (.int (C_F_power i x1)) := by
  refine pu_ofI (cc := cF_power) (maxL := 4) (by decide) rfl (Nat.le_of_ble_eq_true rfl) ?_
  intro p e s m args below meth c Q hx hb hml hown hts hF hS hret ls hl
  have hl : lv_has ls 4 [(0, .ref (ad i)), (1, .long x1)] := hl
  refine lv_aload_n (pc := 0) hx hb dF_power_0 rfl (lv_at hl 0 rfl) ?_
  refine lv_lload_n (pc := 1) hx hb dF_power_1 rfl (lv_at hl 1 rfl) ?_
  refine pu_V (pc := 2) (i := i) (rest := []) ⟨hx, hb, hml, hown, hts⟩ hi (c_F_size l ad hi x1) (cwF_size hts w_152 ⟨by decide, by decide⟩) hF hS rfl hl.1 rfl (Nat.le_of_ble_eq_true rfl) dF_power_2 ⟨Nat.zero_le _, Nat.zero_le _⟩ ?_
  refine lv_aload_n (pc := 5) hx hb dF_power_5 rfl (lv_at hl 0 rfl) ?_
  refine fm_pr (pc := 6) hx hb hF hi hS hown (hts _ (List.mem_cons_of_mem _ w_532)) dF_power_6 ?_
  refine lv_iconst (v := 1) (pc := 9) hx hb dF_power_9 (by decide) ?_
  refine lv_isub (pc := 10) hx hb dF_power_10 ?_
  refine lv_lushr (v := jUshr (C_F_size i x1) ((fPr i) - 1)) (pc := 11) hx hb dF_power_11 rfl ?_
  refine lv_l2i (v := (jUshr (C_F_size i x1) ((fPr i) - 1)).toInt32) (pc := 12) hx hb dF_power_12 rfl ?_
  refine lv_istore_n (lv' := [(3, .int ((jUshr (C_F_size i x1) ((fPr i) - 1)).toInt32)), (0, .ref (ad i)), (1, .long x1)]) (pc := 13) hx hb dF_power_13 rfl hl (by decide) rfl (fun ls hl => ?_)
  refine lv_aload_n (pc := 14) hx hb dF_power_14 rfl (lv_at hl 1 rfl) ?_
  refine lv_iload_n (pc := 15) hx hb dF_power_15 rfl (lv_at hl 0 rfl) ?_
  refine lv_iconst (v := 1) (pc := 16) hx hb dF_power_16 (by decide) ?_
  refine va_mmax (pc := 17) hx hb (hml.trans hl.1.symm) hown (hts _ (List.mem_cons_of_mem _ w_184)) (hts _ (List.mem_cons_of_mem _ w_185)) (hts _ (List.mem_cons_of_mem _ w_9)) (hts _ (List.mem_cons_of_mem _ w_186)) (by decide) (Nat.le_of_ble_eq_true rfl) (Nat.zero_le _) (Nat.zero_le _) dF_power_17 ?_
  refine lv_topi (fun v1 e1 => ?_)
  obtain rfl : v1 = jMax ((jUshr (C_F_size i x1) ((fPr i) - 1)).toInt32) 1 := e1
  refine pu_V (pc := 20) (i := i) (rest := []) ⟨hx, hb, hml, hown, hts⟩ hi (c_F_unitPower l ad hi (jMax ((jUshr (C_F_size i x1) ((fPr i) - 1)).toInt32) 1)) (cwF_unitPower hts w_187 ⟨by decide, by decide⟩) hF hS rfl hl.1 rfl (Nat.le_of_ble_eq_true rfl) dF_power_20 ⟨Nat.zero_le _, Nat.zero_le _⟩ ?_
  refine lv_aload_n (pc := 23) hx hb dF_power_23 rfl (lv_at hl 1 rfl) ?_
  refine lv_lload_n (pc := 24) hx hb dF_power_24 rfl (lv_at hl 2 rfl) ?_
  refine pu_V (pc := 25) (i := i) (rest := [.int (C_F_unitPower i (jMax ((jUshr (C_F_size i x1) ((fPr i) - 1)).toInt32) 1))]) ⟨hx, hb, hml, hown, hts⟩ hi (c_F_plain l ad hi x1) (cwF_plain hts w_191 ⟨by decide, by decide⟩) hF hS rfl hl.1 rfl (Nat.le_of_ble_eq_true rfl) dF_power_25 ⟨Nat.zero_le _, Nat.zero_le _⟩ ?_
  refine pu_S (pc := 28) (rest := [.int (C_F_unitPower i (jMax ((jUshr (C_F_size i x1) ((fPr i) - 1)).toInt32) 1))]) ⟨hx, hb, hml, hown, hts⟩ (c_F_lift l ad (C_F_plain i x1)) (cwF_lift hts w_196 ⟨by decide, by decide⟩) hF hS rfl hl.1 rfl (Nat.le_of_ble_eq_true rfl) dF_power_28 ⟨Nat.zero_le _, Nat.zero_le _⟩ ?_
  refine lv_isub (pc := 31) hx hb dF_power_31 ?_
  exact hret _ _ _ (show (C_F_unitPower i (jMax ((jUshr (C_F_size i x1) ((fPr i) - 1)).toInt32) 1)) - (C_F_lift (C_F_plain i x1)) = C_F_power i x1 from by rw [C_F_power]) dF_power_32
def C_U_term (i : Nat) (x2 : Int64) (k3 : Int32) : Int64 :=
  if (C_F_isMinus i x2) = false then
    C_U_pressed (jShl (C_F_significand i x2) 9) ((k3 - (C_F_power i x2)) + 9)
  else
    -(C_U_pressed (jShl (C_F_significand i x2) 9) ((k3 - (C_F_power i x2)) + 9))
abbrev rmU_term : Room := { frames := 3, cells := 0, slots := 0, locals := 70 }
theorem cwU_term {R : Room} {s : State} {args : Array Value} {w0 : Cond} {idx : Nat} (hts : ∀ w ∈ (w0 :: bigW), w.before args s = true) (hl : Cond.methodLink "FloatUnit" idx yU_term ∈ bigW) (hR : rmU_term.frames + 1 ≤ R.frames ∧ 8 + (7 + 11) + rmU_term.locals ≤ R.locals) : CallB R s args "FloatUnit" idx yU_term cU_term 7 (some .long) (wsM yU_term cU_term 7 (some .long)) rmU_term 0 0 3 ∧ (Cond.static yU_term).before args s = true :=
  cwS 3 hts (big_S hl w_204 w_1 w_205) rfl rfl rfl ⟨rfl, by decide, by decide, by decide +kernel⟩ hR
set_option maxRecDepth 100000 in
set_option maxHeartbeats 4000000 in
theorem c_U_term (l : Launch) (ad : Nat → Nat) {i : Nat} (hi : i < 2) (x2 : Int64) (k3 : Int32) : PuM l ad yU_term (wsM yU_term cU_term 7 (some .long)) rmU_term [.ref (ad i), .long x2, .int k3] (.long (C_U_term i x2 k3)) := by
  refine pu_ofL (cc := cU_term) (maxL := 7) (by decide) rfl (Nat.le_of_ble_eq_true rfl) ?_
  intro p e s m args below meth c Q hx hb hml hown hts hF hS hret ls hl
  have hl : lv_has ls 7 [(0, .ref (ad i)), (1, .long x2), (3, .int k3)] := hl
  refine lv_iload_n (pc := 0) hx hb dU_term_0 rfl (lv_at hl 2 rfl) ?_
  refine lv_aload_n (pc := 1) hx hb dU_term_1 rfl (lv_at hl 0 rfl) ?_
  refine lv_lload_n (pc := 2) hx hb dU_term_2 rfl (lv_at hl 1 rfl) ?_
  refine pu_V (pc := 3) (i := i) (rest := [.int k3]) ⟨hx, hb, hml, hown, hts⟩ hi (c_F_power l ad hi x2) (cwF_power hts w_180 ⟨by decide, by decide⟩) hF hS rfl hl.1 rfl (Nat.le_of_ble_eq_true rfl) dU_term_3 ⟨Nat.zero_le _, Nat.zero_le _⟩ ?_
  refine lv_isub (pc := 6) hx hb dU_term_6 ?_
  refine lv_bipush (v := 9) (pc := 7) hx hb dU_term_7 (by decide) ?_
  refine lv_iadd (pc := 9) hx hb dU_term_9 ?_
  refine lv_istore (lv' := [(4, .int ((k3 - (C_F_power i x2)) + 9)), (0, .ref (ad i)), (1, .long x2), (3, .int k3)]) (pc := 10) hx hb dU_term_10 hl (by decide) rfl (fun ls hl => ?_)
  refine lv_aload_n (pc := 12) hx hb dU_term_12 rfl (lv_at hl 1 rfl) ?_
  refine lv_lload_n (pc := 13) hx hb dU_term_13 rfl (lv_at hl 2 rfl) ?_
  refine pu_V (pc := 14) (i := i) (rest := []) ⟨hx, hb, hml, hown, hts⟩ hi (c_F_significand l ad hi x2) (cwF_significand hts w_206 ⟨by decide, by decide⟩) hF hS rfl hl.1 rfl (Nat.le_of_ble_eq_true rfl) dU_term_14 ⟨Nat.zero_le _, Nat.zero_le _⟩ ?_
  refine lv_bipush (v := 9) (pc := 17) hx hb dU_term_17 (by decide) ?_
  refine lv_lshl (v := jShl (C_F_significand i x2) 9) (pc := 19) hx hb dU_term_19 rfl ?_
  refine lv_iload (pc := 20) hx hb dU_term_20 (lv_at hl 0 rfl) ?_
  refine pu_S (pc := 22) (rest := []) ⟨hx, hb, hml, hown, hts⟩ (c_U_pressed l ad (jShl (C_F_significand i x2) 9) ((k3 - (C_F_power i x2)) + 9)) (cwU_pressed hts w_210 ⟨by decide, by decide⟩) hF hS rfl hl.1 rfl (Nat.le_of_ble_eq_true rfl) dU_term_22 ⟨Nat.zero_le _, Nat.zero_le _⟩ ?_
  refine lv_lstore (lv' := [(5, .long (C_U_pressed (jShl (C_F_significand i x2) 9) ((k3 - (C_F_power i x2)) + 9))), (4, .int ((k3 - (C_F_power i x2)) + 9)), (0, .ref (ad i)), (1, .long x2), (3, .int k3)]) (pc := 25) hx hb dU_term_25 hl (by decide) rfl (fun ls hl => ?_)
  refine lv_aload_n (pc := 27) hx hb dU_term_27 rfl (lv_at hl 2 rfl) ?_
  refine lv_lload_n (pc := 28) hx hb dU_term_28 rfl (lv_at hl 3 rfl) ?_
  refine pu_V (pc := 29) (i := i) (rest := []) ⟨hx, hb, hml, hown, hts⟩ hi (c_F_isMinus l ad hi x2) (cwF_isMinus hts w_164 ⟨by decide, by decide⟩) hF hS rfl hl.1 rfl (Nat.le_of_ble_eq_true rfl) dU_term_29 ⟨Nat.zero_le _, Nat.zero_le _⟩ ?_
  refine lv_if_eq (tgt := 41) (pc := 32) hx hb dU_term_32 (by decide) (fun h1 => ?_) (fun h1 => ?_)
  · skip
    have h1 : (C_F_isMinus i x2) = false := (bI_0 _).1 h1
    refine lv_lload (pc := 41) hx hb dU_term_41 (lv_at hl 0 rfl) ?_
    exact hret _ _ _ (show C_U_pressed (jShl (C_F_significand i x2) 9) ((k3 - (C_F_power i x2)) + 9) = C_U_term i x2 k3 from by rw [C_U_term, if_pos h1]) dU_term_43
  · skip
    have h1 : ¬ ((C_F_isMinus i x2) = false) := fun q => h1 ((bI_0 _).2 q)
    refine lv_lload (pc := 35) hx hb dU_term_35 (lv_at hl 0 rfl) ?_
    refine lv_lneg (pc := 37) hx hb dU_term_37 ?_
    refine lv_goto (tgt := 43) (pc := 38) hx hb dU_term_38 (by decide) ?_
    exact hret _ _ _ (show -(C_U_pressed (jShl (C_F_significand i x2) 9) ((k3 - (C_F_power i x2)) + 9)) = C_U_term i x2 k3 from by rw [C_U_term, if_neg h1]) dU_term_43
def C_U_format (z1 : Bool) : Nat :=
  if z1 = false then
    0
  else
    1
abbrev rmU_format : Room := { frames := 0, cells := 0, slots := 0, locals := 0 }
theorem cwU_format {R : Room} {s : State} {args : Array Value} {w0 : Cond} {idx : Nat} (hts : ∀ w ∈ (w0 :: bigW), w.before args s = true) (hl : Cond.methodLink "FloatUnit" idx yU_format ∈ bigW) (hR : rmU_format.frames + 1 ≤ R.frames ∧ 8 + (1 + 11) + rmU_format.locals ≤ R.locals) : CallB R s args "FloatUnit" idx yU_format cU_format 1 (some (.object "FloatUnit$Format")) (wsM yU_format cU_format 1 (some (.object "FloatUnit$Format"))) rmU_format 0 0 1 ∧ (Cond.static yU_format).before args s = true :=
  cwS 1 hts (big_S hl w_134 w_1 w_135) rfl rfl rfl ⟨rfl, by decide, by decide, by decide +kernel⟩ hR
set_option maxRecDepth 100000 in
set_option maxHeartbeats 4000000 in
theorem c_U_format (l : Launch) (ad : Nat → Nat) (z1 : Bool) : PuM l ad yU_format (wsM yU_format cU_format 1 (some (.object "FloatUnit$Format"))) rmU_format [.int (bI z1)] (.ref (ad (C_U_format z1))) := by
  refine pu_ofA (cc := cU_format) (maxL := 1) (by decide) rfl (Nat.le_of_ble_eq_true rfl) ?_
  intro p e s m args below meth c Q hx hb hml hown hts hF hS hret ls hl
  have hl : lv_has ls 1 [(0, .int (bI z1))] := hl
  refine lv_iload_n (pc := 0) hx hb dU_format_0 rfl (lv_at hl 0 rfl) ?_
  refine lv_if_eq (tgt := 10) (pc := 1) hx hb dU_format_1 (by decide) (fun h1 => ?_) (fun h1 => ?_)
  · skip
    have h1 : z1 = false := (bI_0 _).1 h1
    refine fm_c0 (pc := 10) hx hb hF hS hown (hts _ (List.mem_cons_of_mem _ w_138)) dU_format_10 ?_
    exact hret _ _ _ (show ad 0 = ad (C_U_format z1) from by rw [C_U_format, if_pos h1]) dU_format_13
  · skip
    have h1 : ¬ (z1 = false) := fun q => h1 ((bI_0 _).2 q)
    refine fm_c1 (pc := 4) hx hb hF hS hown (hts _ (List.mem_cons_of_mem _ w_136)) dU_format_4 ?_
    refine lv_goto (tgt := 13) (pc := 7) hx hb dU_format_7 (by decide) ?_
    exact hret _ _ _ (show ad 1 = ad (C_U_format z1) from by rw [C_U_format, if_neg h1]) dU_format_13
