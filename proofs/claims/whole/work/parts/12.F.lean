/-! Methods of the format that call no other, or few (by program). -/
def C_F_own (i : Nat) (x1 : Int64) : Int64 :=
  x1 &&& ((fSg i) ||| ((fSg i) - 1))
abbrev rmF_own : Room := { frames := 0, cells := 0, slots := 0, locals := 0 }
theorem cwF_own {R : Room} {s : State} {args : Array Value} {w0 : Cond} {own : String} {idx : Nat} (hts : ∀ w ∈ (w0 :: bigW), w.before args s = true) (hl : Cond.methodLink own idx yF_own ∈ bigW) (hR : rmF_own.frames + 1 ≤ R.frames ∧ 8 + (3 + 11) + rmF_own.locals ≤ R.locals) : CallW R s args own "FloatUnit$Format" idx yF_own cF_own 3 (some .long) (wsM yF_own cF_own 3 (some .long)) rmF_own 0 0 1 :=
  cwV 1 hts (big_V hl w_141 w_142 w_8 w_143) rfl rfl rfl ⟨rfl, by decide, by decide, by decide +kernel⟩ hR
set_option maxRecDepth 100000 in
set_option maxHeartbeats 4000000 in
theorem c_F_own (l : Launch) (ad : Nat → Nat) {i : Nat} (hi : i < 2) (x1 : Int64) : PuM l ad yF_own (wsM yF_own cF_own 3 (some .long)) rmF_own [.ref (ad i), .long x1] (.long (C_F_own i x1)) := by
  refine pu_ofL (cc := cF_own) (maxL := 3) (by decide) rfl (Nat.le_of_ble_eq_true rfl) ?_
  intro p e s m args below meth c Q hx hb hml hown hts hF hS hret ls hl
  have hl : lv_has ls 3 [(0, .ref (ad i)), (1, .long x1)] := hl
  refine lv_lload_n (pc := 0) hx hb dF_own_0 rfl (lv_at hl 1 rfl) ?_
  refine lv_aload_n (pc := 1) hx hb dF_own_1 rfl (lv_at hl 0 rfl) ?_
  refine fm_sg (pc := 2) hx hb hF hi hS hown (hts _ (List.mem_cons_of_mem _ w_529)) dF_own_2 ?_
  refine lv_aload_n (pc := 5) hx hb dF_own_5 rfl (lv_at hl 0 rfl) ?_
  refine fm_sg (pc := 6) hx hb hF hi hS hown (hts _ (List.mem_cons_of_mem _ w_529)) dF_own_6 ?_
  refine lv_lconst (v := 1) (pc := 9) hx hb dF_own_9 (by decide) ?_
  refine lv_lsub (pc := 10) hx hb dF_own_10 ?_
  refine lv_lor (pc := 11) hx hb dF_own_11 ?_
  refine lv_land (pc := 12) hx hb dF_own_12 ?_
  exact hret _ _ _ (show x1 &&& ((fSg i) ||| ((fSg i) - 1)) = C_F_own i x1 from by rw [C_F_own]) dF_own_13
def C_F_size (i : Nat) (x1 : Int64) : Int64 :=
  x1 &&& ((fSg i) - 1)
abbrev rmF_size : Room := { frames := 0, cells := 0, slots := 0, locals := 0 }
theorem cwF_size {R : Room} {s : State} {args : Array Value} {w0 : Cond} {own : String} {idx : Nat} (hts : ∀ w ∈ (w0 :: bigW), w.before args s = true) (hl : Cond.methodLink own idx yF_size ∈ bigW) (hR : rmF_size.frames + 1 ≤ R.frames ∧ 8 + (3 + 11) + rmF_size.locals ≤ R.locals) : CallW R s args own "FloatUnit$Format" idx yF_size cF_size 3 (some .long) (wsM yF_size cF_size 3 (some .long)) rmF_size 0 0 1 :=
  cwV 1 hts (big_V hl w_153 w_154 w_8 w_155) rfl rfl rfl ⟨rfl, by decide, by decide, by decide +kernel⟩ hR
set_option maxRecDepth 100000 in
set_option maxHeartbeats 4000000 in
theorem c_F_size (l : Launch) (ad : Nat → Nat) {i : Nat} (hi : i < 2) (x1 : Int64) : PuM l ad yF_size (wsM yF_size cF_size 3 (some .long)) rmF_size [.ref (ad i), .long x1] (.long (C_F_size i x1)) := by
  refine pu_ofL (cc := cF_size) (maxL := 3) (by decide) rfl (Nat.le_of_ble_eq_true rfl) ?_
  intro p e s m args below meth c Q hx hb hml hown hts hF hS hret ls hl
  have hl : lv_has ls 3 [(0, .ref (ad i)), (1, .long x1)] := hl
  refine lv_lload_n (pc := 0) hx hb dF_size_0 rfl (lv_at hl 1 rfl) ?_
  refine lv_aload_n (pc := 1) hx hb dF_size_1 rfl (lv_at hl 0 rfl) ?_
  refine fm_sg (pc := 2) hx hb hF hi hS hown (hts _ (List.mem_cons_of_mem _ w_529)) dF_size_2 ?_
  refine lv_lconst (v := 1) (pc := 5) hx hb dF_size_5 (by decide) ?_
  refine lv_lsub (pc := 6) hx hb dF_size_6 ?_
  refine lv_land (pc := 7) hx hb dF_size_7 ?_
  exact hret _ _ _ (show x1 &&& ((fSg i) - 1) = C_F_size i x1 from by rw [C_F_size]) dF_size_8
def C_F_isMinus (i : Nat) (x1 : Int64) : Bool :=
  if (x1 &&& (fSg i)) = 0 then
    false
  else
    true
abbrev rmF_isMinus : Room := { frames := 0, cells := 0, slots := 0, locals := 0 }
theorem cwF_isMinus {R : Room} {s : State} {args : Array Value} {w0 : Cond} {own : String} {idx : Nat} (hts : ∀ w ∈ (w0 :: bigW), w.before args s = true) (hl : Cond.methodLink own idx yF_isMinus ∈ bigW) (hR : rmF_isMinus.frames + 1 ≤ R.frames ∧ 8 + (3 + 11) + rmF_isMinus.locals ≤ R.locals) : CallW R s args own "FloatUnit$Format" idx yF_isMinus cF_isMinus 3 (some .boolean) (wsM yF_isMinus cF_isMinus 3 (some .boolean)) rmF_isMinus 0 0 1 :=
  cwV 1 hts (big_V hl w_165 w_166 w_8 w_167) rfl rfl rfl ⟨rfl, by decide, by decide, by decide +kernel⟩ hR
set_option maxRecDepth 100000 in
set_option maxHeartbeats 4000000 in
theorem c_F_isMinus (l : Launch) (ad : Nat → Nat) {i : Nat} (hi : i < 2) (x1 : Int64) : PuM l ad yF_isMinus (wsM yF_isMinus cF_isMinus 3 (some .boolean)) rmF_isMinus [.ref (ad i), .long x1] (.int (bI (C_F_isMinus i x1))) := by
  refine pu_ofZ (cc := cF_isMinus) (maxL := 3) (by decide) rfl (Nat.le_of_ble_eq_true rfl) ?_
  intro p e s m args below meth c Q hx hb hml hown hts hF hS hret ls hl
  have hl : lv_has ls 3 [(0, .ref (ad i)), (1, .long x1)] := hl
  refine lv_lload_n (pc := 0) hx hb dF_isMinus_0 rfl (lv_at hl 1 rfl) ?_
  refine lv_aload_n (pc := 1) hx hb dF_isMinus_1 rfl (lv_at hl 0 rfl) ?_
  refine fm_sg (pc := 2) hx hb hF hi hS hown (hts _ (List.mem_cons_of_mem _ w_529)) dF_isMinus_2 ?_
  refine lv_land (pc := 5) hx hb dF_isMinus_5 ?_
  refine lv_lconst (v := 0) (pc := 6) hx hb dF_isMinus_6 (by decide) ?_
  refine W.lcmp (pc := 7) hx hb dF_isMinus_7 ?_
  refine lv_if_eq (tgt := 15) (pc := 8) hx hb dF_isMinus_8 (by decide) (fun h1 => ?_) (fun h1 => ?_)
  · skip
    have h1 : (x1 &&& (fSg i)) = 0 := (lg_cmp_eq _ _).1 h1
    refine lv_iconst (v := 0) (pc := 15) hx hb dF_isMinus_15 (by decide) ?_
    exact hret _ _ _ (show bI false = bI (C_F_isMinus i x1) from by rw [C_F_isMinus, if_pos h1]) dF_isMinus_16
  · skip
    have h1 : ¬ ((x1 &&& (fSg i)) = 0) := fun q => h1 ((lg_cmp_eq _ _).2 q)
    refine lv_iconst (v := 1) (pc := 11) hx hb dF_isMinus_11 (by decide) ?_
    refine lv_goto (tgt := 16) (pc := 12) hx hb dF_isMinus_12 (by decide) ?_
    exact hret _ _ _ (show bI true = bI (C_F_isMinus i x1) from by rw [C_F_isMinus, if_neg h1]) dF_isMinus_16
def C_F_isNone (i : Nat) (x1 : Int64) : Bool :=
  if (C_F_size i x1) ≤ (fEn i) then
    false
  else
    true
abbrev rmF_isNone : Room := { frames := 1, cells := 0, slots := 0, locals := 22 }
theorem cwF_isNone {R : Room} {s : State} {args : Array Value} {w0 : Cond} {own : String} {idx : Nat} (hts : ∀ w ∈ (w0 :: bigW), w.before args s = true) (hl : Cond.methodLink own idx yF_isNone ∈ bigW) (hR : rmF_isNone.frames + 1 ≤ R.frames ∧ 8 + (3 + 11) + rmF_isNone.locals ≤ R.locals) : CallW R s args own "FloatUnit$Format" idx yF_isNone cF_isNone 3 (some .boolean) (wsM yF_isNone cF_isNone 3 (some .boolean)) rmF_isNone 0 0 1 :=
  cwV 1 hts (big_V hl w_149 w_150 w_8 w_151) rfl rfl rfl ⟨rfl, by decide, by decide, by decide +kernel⟩ hR
set_option maxRecDepth 100000 in
set_option maxHeartbeats 4000000 in
theorem c_F_isNone (l : Launch) (ad : Nat → Nat) {i : Nat} (hi : i < 2) (x1 : Int64) : PuM l ad yF_isNone (wsM yF_isNone cF_isNone 3 (some .boolean)) rmF_isNone [.ref (ad i), .long x1] (.int (bI (C_F_isNone i x1))) := by
  refine pu_ofZ (cc := cF_isNone) (maxL := 3) (by decide) rfl (Nat.le_of_ble_eq_true rfl) ?_
  intro p e s m args below meth c Q hx hb hml hown hts hF hS hret ls hl
  have hl : lv_has ls 3 [(0, .ref (ad i)), (1, .long x1)] := hl
  refine lv_aload_n (pc := 0) hx hb dF_isNone_0 rfl (lv_at hl 0 rfl) ?_
  refine lv_lload_n (pc := 1) hx hb dF_isNone_1 rfl (lv_at hl 1 rfl) ?_
  refine pu_V (pc := 2) (i := i) (rest := []) ⟨hx, hb, hml, hown, hts⟩ hi (c_F_size l ad hi x1) (cwF_size hts w_152 ⟨by decide, by decide⟩) hF hS rfl hl.1 rfl (Nat.le_of_ble_eq_true rfl) dF_isNone_2 ⟨Nat.zero_le _, Nat.zero_le _⟩ ?_
  refine lv_aload_n (pc := 5) hx hb dF_isNone_5 rfl (lv_at hl 0 rfl) ?_
  refine fm_en (pc := 6) hx hb hF hi hS hown (hts _ (List.mem_cons_of_mem _ w_530)) dF_isNone_6 ?_
  refine W.lcmp (pc := 9) hx hb dF_isNone_9 ?_
  refine lv_if_le (tgt := 17) (pc := 10) hx hb dF_isNone_10 (by decide) (fun h1 => ?_) (fun h1 => ?_)
  · skip
    have h1 : (C_F_size i x1) ≤ (fEn i) := (lg_cmp_le _ _).1 h1
    refine lv_iconst (v := 0) (pc := 17) hx hb dF_isNone_17 (by decide) ?_
    exact hret _ _ _ (show bI false = bI (C_F_isNone i x1) from by rw [C_F_isNone, if_pos h1]) dF_isNone_18
  · skip
    have h1 : ¬ ((C_F_size i x1) ≤ (fEn i)) := fun q => h1 ((lg_cmp_le _ _).2 q)
    refine lv_iconst (v := 1) (pc := 13) hx hb dF_isNone_13 (by decide) ?_
    refine lv_goto (tgt := 18) (pc := 14) hx hb dF_isNone_14 (by decide) ?_
    exact hret _ _ _ (show bI true = bI (C_F_isNone i x1) from by rw [C_F_isNone, if_neg h1]) dF_isNone_18
def C_F_isEndless (i : Nat) (x1 : Int64) : Bool :=
  if (C_F_size i x1) = (fEn i) then
    true
  else
    false
abbrev rmF_isEndless : Room := { frames := 1, cells := 0, slots := 0, locals := 22 }
theorem cwF_isEndless {R : Room} {s : State} {args : Array Value} {w0 : Cond} {own : String} {idx : Nat} (hts : ∀ w ∈ (w0 :: bigW), w.before args s = true) (hl : Cond.methodLink own idx yF_isEndless ∈ bigW) (hR : rmF_isEndless.frames + 1 ≤ R.frames ∧ 8 + (3 + 11) + rmF_isEndless.locals ≤ R.locals) : CallW R s args own "FloatUnit$Format" idx yF_isEndless cF_isEndless 3 (some .boolean) (wsM yF_isEndless cF_isEndless 3 (some .boolean)) rmF_isEndless 0 0 1 :=
  cwV 1 hts (big_V hl w_169 w_170 w_8 w_171) rfl rfl rfl ⟨rfl, by decide, by decide, by decide +kernel⟩ hR
set_option maxRecDepth 100000 in
set_option maxHeartbeats 4000000 in
theorem c_F_isEndless (l : Launch) (ad : Nat → Nat) {i : Nat} (hi : i < 2) (x1 : Int64) : PuM l ad yF_isEndless (wsM yF_isEndless cF_isEndless 3 (some .boolean)) rmF_isEndless [.ref (ad i), .long x1] (.int (bI (C_F_isEndless i x1))) := by
  refine pu_ofZ (cc := cF_isEndless) (maxL := 3) (by decide) rfl (Nat.le_of_ble_eq_true rfl) ?_
  intro p e s m args below meth c Q hx hb hml hown hts hF hS hret ls hl
  have hl : lv_has ls 3 [(0, .ref (ad i)), (1, .long x1)] := hl
  refine lv_aload_n (pc := 0) hx hb dF_isEndless_0 rfl (lv_at hl 0 rfl) ?_
  refine lv_lload_n (pc := 1) hx hb dF_isEndless_1 rfl (lv_at hl 1 rfl) ?_
  refine pu_V (pc := 2) (i := i) (rest := []) ⟨hx, hb, hml, hown, hts⟩ hi (c_F_size l ad hi x1) (cwF_size hts w_152 ⟨by decide, by decide⟩) hF hS rfl hl.1 rfl (Nat.le_of_ble_eq_true rfl) dF_isEndless_2 ⟨Nat.zero_le _, Nat.zero_le _⟩ ?_
  refine lv_aload_n (pc := 5) hx hb dF_isEndless_5 rfl (lv_at hl 0 rfl) ?_
  refine fm_en (pc := 6) hx hb hF hi hS hown (hts _ (List.mem_cons_of_mem _ w_530)) dF_isEndless_6 ?_
  refine W.lcmp (pc := 9) hx hb dF_isEndless_9 ?_
  refine lv_if_ne (tgt := 17) (pc := 10) hx hb dF_isEndless_10 (by decide) (fun h1 => ?_) (fun h1 => ?_)
  · skip
    have h1 : ¬ ((C_F_size i x1) = (fEn i)) := fun q => h1 ((lg_cmp_eq _ _).2 q)
    refine lv_iconst (v := 0) (pc := 17) hx hb dF_isEndless_17 (by decide) ?_
    exact hret _ _ _ (show bI false = bI (C_F_isEndless i x1) from by rw [C_F_isEndless, if_neg h1]) dF_isEndless_18
  · skip
    have h1 : (C_F_size i x1) = (fEn i) := (lg_cmp_eq _ _).1 h1
    refine lv_iconst (v := 1) (pc := 13) hx hb dF_isEndless_13 (by decide) ?_
    refine lv_goto (tgt := 18) (pc := 14) hx hb dF_isEndless_14 (by decide) ?_
    exact hret _ _ _ (show bI true = bI (C_F_isEndless i x1) from by rw [C_F_isEndless, if_pos h1]) dF_isEndless_18
def C_F_isZero (i : Nat) (x1 : Int64) : Bool :=
  if (C_F_size i x1) = 0 then
    true
  else
    false
abbrev rmF_isZero : Room := { frames := 1, cells := 0, slots := 0, locals := 22 }
theorem cwF_isZero {R : Room} {s : State} {args : Array Value} {w0 : Cond} {own : String} {idx : Nat} (hts : ∀ w ∈ (w0 :: bigW), w.before args s = true) (hl : Cond.methodLink own idx yF_isZero ∈ bigW) (hR : rmF_isZero.frames + 1 ≤ R.frames ∧ 8 + (3 + 11) + rmF_isZero.locals ≤ R.locals) : CallW R s args own "FloatUnit$Format" idx yF_isZero cF_isZero 3 (some .boolean) (wsM yF_isZero cF_isZero 3 (some .boolean)) rmF_isZero 0 0 1 :=
  cwV 1 hts (big_V hl w_253 w_254 w_8 w_255) rfl rfl rfl ⟨rfl, by decide, by decide, by decide +kernel⟩ hR
set_option maxRecDepth 100000 in
set_option maxHeartbeats 4000000 in
theorem c_F_isZero (l : Launch) (ad : Nat → Nat) {i : Nat} (hi : i < 2) (x1 : Int64) : PuM l ad yF_isZero (wsM yF_isZero cF_isZero 3 (some .boolean)) rmF_isZero [.ref (ad i), .long x1] (.int (bI (C_F_isZero i x1))) := by
  refine pu_ofZ (cc := cF_isZero) (maxL := 3) (by decide) rfl (Nat.le_of_ble_eq_true rfl) ?_
  intro p e s m args below meth c Q hx hb hml hown hts hF hS hret ls hl
  have hl : lv_has ls 3 [(0, .ref (ad i)), (1, .long x1)] := hl
  refine lv_aload_n (pc := 0) hx hb dF_isZero_0 rfl (lv_at hl 0 rfl) ?_
  refine lv_lload_n (pc := 1) hx hb dF_isZero_1 rfl (lv_at hl 1 rfl) ?_
  refine pu_V (pc := 2) (i := i) (rest := []) ⟨hx, hb, hml, hown, hts⟩ hi (c_F_size l ad hi x1) (cwF_size hts w_152 ⟨by decide, by decide⟩) hF hS rfl hl.1 rfl (Nat.le_of_ble_eq_true rfl) dF_isZero_2 ⟨Nat.zero_le _, Nat.zero_le _⟩ ?_
  refine lv_lconst (v := 0) (pc := 5) hx hb dF_isZero_5 (by decide) ?_
  refine W.lcmp (pc := 6) hx hb dF_isZero_6 ?_
  refine lv_if_ne (tgt := 14) (pc := 7) hx hb dF_isZero_7 (by decide) (fun h1 => ?_) (fun h1 => ?_)
  · skip
    have h1 : ¬ ((C_F_size i x1) = 0) := fun q => h1 ((lg_cmp_eq _ _).2 q)
    refine lv_iconst (v := 0) (pc := 14) hx hb dF_isZero_14 (by decide) ?_
    exact hret _ _ _ (show bI false = bI (C_F_isZero i x1) from by rw [C_F_isZero, if_neg h1]) dF_isZero_15
  · skip
    have h1 : (C_F_size i x1) = 0 := (lg_cmp_eq _ _).1 h1
    refine lv_iconst (v := 1) (pc := 10) hx hb dF_isZero_10 (by decide) ?_
    refine lv_goto (tgt := 15) (pc := 11) hx hb dF_isZero_11 (by decide) ?_
    exact hret _ _ _ (show bI true = bI (C_F_isZero i x1) from by rw [C_F_isZero, if_pos h1]) dF_isZero_15
def C_F_sort (i : Nat) (x1 : Int64) : Int32 :=
  if (C_F_isNone i x1) = false then
    if (C_F_isEndless i x1) = false then
      if (C_F_isZero i x1) = false then
        if (fLe i) ≤ (C_F_size i x1) then
          2
        else
          3
      else
        4
    else
      1
  else
    0
abbrev rmF_sort : Room := { frames := 2, cells := 0, slots := 0, locals := 44 }
theorem cwF_sort {R : Room} {s : State} {args : Array Value} {w0 : Cond} {own : String} {idx : Nat} (hts : ∀ w ∈ (w0 :: bigW), w.before args s = true) (hl : Cond.methodLink own idx yF_sort ∈ bigW) (hR : rmF_sort.frames + 1 ≤ R.frames ∧ 8 + (3 + 11) + rmF_sort.locals ≤ R.locals) : CallW R s args own "FloatUnit$Format" idx yF_sort cF_sort 3 (some .int) (wsM yF_sort cF_sort 3 (some .int)) rmF_sort 0 0 1 :=
  cwV 1 hts (big_V hl w_337 w_338 w_8 w_339) rfl rfl rfl ⟨rfl, by decide, by decide, by decide +kernel⟩ hR
set_option maxRecDepth 100000 in
set_option maxHeartbeats 4000000 in
theorem c_F_sort (l : Launch) (ad : Nat → Nat) {i : Nat} (hi : i < 2) (x1 : Int64) : PuM l ad yF_sort (wsM yF_sort cF_sort 3 (some .int)) rmF_sort [.ref (ad i), .long x1] (.int (C_F_sort i x1)) := by
  refine pu_ofI (cc := cF_sort) (maxL := 3) (by decide) rfl (Nat.le_of_ble_eq_true rfl) ?_
  intro p e s m args below meth c Q hx hb hml hown hts hF hS hret ls hl
  have hl : lv_has ls 3 [(0, .ref (ad i)), (1, .long x1)] := hl
  refine lv_aload_n (pc := 0) hx hb dF_sort_0 rfl (lv_at hl 0 rfl) ?_
  refine lv_lload_n (pc := 1) hx hb dF_sort_1 rfl (lv_at hl 1 rfl) ?_
  refine pu_V (pc := 2) (i := i) (rest := []) ⟨hx, hb, hml, hown, hts⟩ hi (c_F_isNone l ad hi x1) (cwF_isNone hts w_340 ⟨by decide, by decide⟩) hF hS rfl hl.1 rfl (Nat.le_of_ble_eq_true rfl) dF_sort_2 ⟨Nat.zero_le _, Nat.zero_le _⟩ ?_
  refine lv_if_eq (tgt := 10) (pc := 5) hx hb dF_sort_5 (by decide) (fun h1 => ?_) (fun h1 => ?_)
  · skip
    have h1 : (C_F_isNone i x1) = false := (bI_0 _).1 h1
    refine lv_aload_n (pc := 10) hx hb dF_sort_10 rfl (lv_at hl 0 rfl) ?_
    refine lv_lload_n (pc := 11) hx hb dF_sort_11 rfl (lv_at hl 1 rfl) ?_
    refine pu_V (pc := 12) (i := i) (rest := []) ⟨hx, hb, hml, hown, hts⟩ hi (c_F_isEndless l ad hi x1) (cwF_isEndless hts w_341 ⟨by decide, by decide⟩) hF hS rfl hl.1 rfl (Nat.le_of_ble_eq_true rfl) dF_sort_12 ⟨Nat.zero_le _, Nat.zero_le _⟩ ?_
    refine lv_if_eq (tgt := 20) (pc := 15) hx hb dF_sort_15 (by decide) (fun h2 => ?_) (fun h2 => ?_)
    · skip
      have h2 : (C_F_isEndless i x1) = false := (bI_0 _).1 h2
      refine lv_aload_n (pc := 20) hx hb dF_sort_20 rfl (lv_at hl 0 rfl) ?_
      refine lv_lload_n (pc := 21) hx hb dF_sort_21 rfl (lv_at hl 1 rfl) ?_
      refine pu_V (pc := 22) (i := i) (rest := []) ⟨hx, hb, hml, hown, hts⟩ hi (c_F_isZero l ad hi x1) (cwF_isZero hts w_342 ⟨by decide, by decide⟩) hF hS rfl hl.1 rfl (Nat.le_of_ble_eq_true rfl) dF_sort_22 ⟨Nat.zero_le _, Nat.zero_le _⟩ ?_
      refine lv_if_eq (tgt := 30) (pc := 25) hx hb dF_sort_25 (by decide) (fun h3 => ?_) (fun h3 => ?_)
      · skip
        have h3 : (C_F_isZero i x1) = false := (bI_0 _).1 h3
        refine lv_aload_n (pc := 30) hx hb dF_sort_30 rfl (lv_at hl 0 rfl) ?_
        refine lv_lload_n (pc := 31) hx hb dF_sort_31 rfl (lv_at hl 1 rfl) ?_
        refine pu_V (pc := 32) (i := i) (rest := []) ⟨hx, hb, hml, hown, hts⟩ hi (c_F_size l ad hi x1) (cwF_size hts w_152 ⟨by decide, by decide⟩) hF hS rfl hl.1 rfl (Nat.le_of_ble_eq_true rfl) dF_sort_32 ⟨Nat.zero_le _, Nat.zero_le _⟩ ?_
        refine lv_aload_n (pc := 35) hx hb dF_sort_35 rfl (lv_at hl 0 rfl) ?_
        refine fm_le (pc := 36) hx hb hF hi hS hown (hts _ (List.mem_cons_of_mem _ w_531)) dF_sort_36 ?_
        refine W.lcmp (pc := 39) hx hb dF_sort_39 ?_
        refine lv_if_ge (tgt := 47) (pc := 40) hx hb dF_sort_40 (by decide) (fun h4 => ?_) (fun h4 => ?_)
        · skip
          have h4 : (fLe i) ≤ (C_F_size i x1) := (lg_cmp_ge _ _).1 h4
          refine lv_iconst (v := 2) (pc := 47) hx hb dF_sort_47 (by decide) ?_
          exact hret _ _ _ (show 2 = C_F_sort i x1 from by rw [C_F_sort, if_pos h1, if_pos h2, if_pos h3, if_pos h4]) dF_sort_48
        · skip
          have h4 : ¬ ((fLe i) ≤ (C_F_size i x1)) := fun q => h4 ((lg_cmp_ge _ _).2 q)
          refine lv_iconst (v := 3) (pc := 43) hx hb dF_sort_43 (by decide) ?_
          refine lv_goto (tgt := 48) (pc := 44) hx hb dF_sort_44 (by decide) ?_
          exact hret _ _ _ (show 3 = C_F_sort i x1 from by rw [C_F_sort, if_pos h1, if_pos h2, if_pos h3, if_neg h4]) dF_sort_48
      · skip
        have h3 : ¬ ((C_F_isZero i x1) = false) := fun q => h3 ((bI_0 _).2 q)
        refine lv_iconst (v := 4) (pc := 28) hx hb dF_sort_28 (by decide) ?_
        exact hret _ _ _ (show 4 = C_F_sort i x1 from by rw [C_F_sort, if_pos h1, if_pos h2, if_neg h3]) dF_sort_29
    · skip
      have h2 : ¬ ((C_F_isEndless i x1) = false) := fun q => h2 ((bI_0 _).2 q)
      refine lv_iconst (v := 1) (pc := 18) hx hb dF_sort_18 (by decide) ?_
      exact hret _ _ _ (show 1 = C_F_sort i x1 from by rw [C_F_sort, if_pos h1, if_neg h2]) dF_sort_19
  · skip
    have h1 : ¬ ((C_F_isNone i x1) = false) := fun q => h1 ((bI_0 _).2 q)
    refine lv_iconst (v := 0) (pc := 8) hx hb dF_sort_8 (by decide) ?_
    exact hret _ _ _ (show 0 = C_F_sort i x1 from by rw [C_F_sort, if_neg h1]) dF_sort_9
def C_F_rank (i : Nat) (x1 : Int64) : Int64 :=
  if (C_F_isMinus i x1) = false then
    C_F_size i x1
  else
    -(C_F_size i x1)
abbrev rmF_rank : Room := { frames := 1, cells := 0, slots := 0, locals := 22 }
theorem cwF_rank {R : Room} {s : State} {args : Array Value} {w0 : Cond} {own : String} {idx : Nat} (hts : ∀ w ∈ (w0 :: bigW), w.before args s = true) (hl : Cond.methodLink own idx yF_rank ∈ bigW) (hR : rmF_rank.frames + 1 ≤ R.frames ∧ 8 + (3 + 11) + rmF_rank.locals ≤ R.locals) : CallW R s args own "FloatUnit$Format" idx yF_rank cF_rank 3 (some .long) (wsM yF_rank cF_rank 3 (some .long)) rmF_rank 0 0 1 :=
  cwV 1 hts (big_V hl w_287 w_288 w_8 w_289) rfl rfl rfl ⟨rfl, by decide, by decide, by decide +kernel⟩ hR
set_option maxRecDepth 100000 in
set_option maxHeartbeats 4000000 in
theorem c_F_rank (l : Launch) (ad : Nat → Nat) {i : Nat} (hi : i < 2) (x1 : Int64) : PuM l ad yF_rank (wsM yF_rank cF_rank 3 (some .long)) rmF_rank [.ref (ad i), .long x1] (.long (C_F_rank i x1)) := by
  refine pu_ofL (cc := cF_rank) (maxL := 3) (by decide) rfl (Nat.le_of_ble_eq_true rfl) ?_
  intro p e s m args below meth c Q hx hb hml hown hts hF hS hret ls hl
  have hl : lv_has ls 3 [(0, .ref (ad i)), (1, .long x1)] := hl
  refine lv_aload_n (pc := 0) hx hb dF_rank_0 rfl (lv_at hl 0 rfl) ?_
  refine lv_lload_n (pc := 1) hx hb dF_rank_1 rfl (lv_at hl 1 rfl) ?_
  refine pu_V (pc := 2) (i := i) (rest := []) ⟨hx, hb, hml, hown, hts⟩ hi (c_F_isMinus l ad hi x1) (cwF_isMinus hts w_290 ⟨by decide, by decide⟩) hF hS rfl hl.1 rfl (Nat.le_of_ble_eq_true rfl) dF_rank_2 ⟨Nat.zero_le _, Nat.zero_le _⟩ ?_
  refine lv_if_eq (tgt := 17) (pc := 5) hx hb dF_rank_5 (by decide) (fun h1 => ?_) (fun h1 => ?_)
  · skip
    have h1 : (C_F_isMinus i x1) = false := (bI_0 _).1 h1
    refine lv_aload_n (pc := 17) hx hb dF_rank_17 rfl (lv_at hl 0 rfl) ?_
    refine lv_lload_n (pc := 18) hx hb dF_rank_18 rfl (lv_at hl 1 rfl) ?_
    refine pu_V (pc := 19) (i := i) (rest := []) ⟨hx, hb, hml, hown, hts⟩ hi (c_F_size l ad hi x1) (cwF_size hts w_152 ⟨by decide, by decide⟩) hF hS rfl hl.1 rfl (Nat.le_of_ble_eq_true rfl) dF_rank_19 ⟨Nat.zero_le _, Nat.zero_le _⟩ ?_
    exact hret _ _ _ (show C_F_size i x1 = C_F_rank i x1 from by rw [C_F_rank, if_pos h1]) dF_rank_22
  · skip
    have h1 : ¬ ((C_F_isMinus i x1) = false) := fun q => h1 ((bI_0 _).2 q)
    refine lv_aload_n (pc := 8) hx hb dF_rank_8 rfl (lv_at hl 0 rfl) ?_
    refine lv_lload_n (pc := 9) hx hb dF_rank_9 rfl (lv_at hl 1 rfl) ?_
    refine pu_V (pc := 10) (i := i) (rest := []) ⟨hx, hb, hml, hown, hts⟩ hi (c_F_size l ad hi x1) (cwF_size hts w_152 ⟨by decide, by decide⟩) hF hS rfl hl.1 rfl (Nat.le_of_ble_eq_true rfl) dF_rank_10 ⟨Nat.zero_le _, Nat.zero_le _⟩ ?_
    refine lv_lneg (pc := 13) hx hb dF_rank_13 ?_
    refine lv_goto (tgt := 22) (pc := 14) hx hb dF_rank_14 (by decide) ?_
    exact hret _ _ _ (show -(C_F_size i x1) = C_F_rank i x1 from by rw [C_F_rank, if_neg h1]) dF_rank_22
def C_F_unitPower (i : Nat) (k1 : Int32) : Int32 :=
  (k1 - (fBi i)) - ((fPr i) - 1)
abbrev rmF_unitPower : Room := { frames := 0, cells := 0, slots := 0, locals := 0 }
theorem cwF_unitPower {R : Room} {s : State} {args : Array Value} {w0 : Cond} {own : String} {idx : Nat} (hts : ∀ w ∈ (w0 :: bigW), w.before args s = true) (hl : Cond.methodLink own idx yF_unitPower ∈ bigW) (hR : rmF_unitPower.frames + 1 ≤ R.frames ∧ 8 + (2 + 11) + rmF_unitPower.locals ≤ R.locals) : CallW R s args own "FloatUnit$Format" idx yF_unitPower cF_unitPower 2 (some .int) (wsM yF_unitPower cF_unitPower 2 (some .int)) rmF_unitPower 0 0 1 :=
  cwV 1 hts (big_V hl w_188 w_189 w_8 w_190) rfl rfl rfl ⟨rfl, by decide, by decide, by decide +kernel⟩ hR
set_option maxRecDepth 100000 in
set_option maxHeartbeats 4000000 in
theorem c_F_unitPower (l : Launch) (ad : Nat → Nat) {i : Nat} (hi : i < 2) (k1 : Int32) : PuM l ad yF_unitPower (wsM yF_unitPower cF_unitPower 2 (some .int)) rmF_unitPower [.ref (ad i), .int k1] (.int (C_F_unitPower i k1)) := by
  refine pu_ofI (cc := cF_unitPower) (maxL := 2) (by decide) rfl (Nat.le_of_ble_eq_true rfl) ?_
  intro p e s m args below meth c Q hx hb hml hown hts hF hS hret ls hl
  have hl : lv_has ls 2 [(0, .ref (ad i)), (1, .int k1)] := hl
  refine lv_iload_n (pc := 0) hx hb dF_unitPower_0 rfl (lv_at hl 1 rfl) ?_
  refine lv_aload_n (pc := 1) hx hb dF_unitPower_1 rfl (lv_at hl 0 rfl) ?_
  refine fm_bi (pc := 2) hx hb hF hi hS hown (hts _ (List.mem_cons_of_mem _ w_533)) dF_unitPower_2 ?_
  refine lv_isub (pc := 5) hx hb dF_unitPower_5 ?_
  refine lv_aload_n (pc := 6) hx hb dF_unitPower_6 rfl (lv_at hl 0 rfl) ?_
  refine fm_pr (pc := 7) hx hb hF hi hS hown (hts _ (List.mem_cons_of_mem _ w_532)) dF_unitPower_7 ?_
  refine lv_iconst (v := 1) (pc := 10) hx hb dF_unitPower_10 (by decide) ?_
  refine lv_isub (pc := 11) hx hb dF_unitPower_11 ?_
  refine lv_isub (pc := 12) hx hb dF_unitPower_12 ?_
  exact hret _ _ _ (show (k1 - (fBi i)) - ((fPr i) - 1) = C_F_unitPower i k1 from by rw [C_F_unitPower]) dF_unitPower_13
def C_F_plain (i : Nat) (x1 : Int64) : Int64 :=
  if (fLe i) ≤ (C_F_size i x1) then
    ((C_F_size i x1) &&& ((fLe i) - 1)) ||| (fLe i)
  else
    C_F_size i x1
abbrev rmF_plain : Room := { frames := 1, cells := 0, slots := 0, locals := 22 }
theorem cwF_plain {R : Room} {s : State} {args : Array Value} {w0 : Cond} {own : String} {idx : Nat} (hts : ∀ w ∈ (w0 :: bigW), w.before args s = true) (hl : Cond.methodLink own idx yF_plain ∈ bigW) (hR : rmF_plain.frames + 1 ≤ R.frames ∧ 8 + (5 + 11) + rmF_plain.locals ≤ R.locals) : CallW R s args own "FloatUnit$Format" idx yF_plain cF_plain 5 (some .long) (wsM yF_plain cF_plain 5 (some .long)) rmF_plain 0 0 1 :=
  cwV 1 hts (big_V hl w_193 sel_F_plain w_8 w_195) rfl rfl rfl ⟨rfl, by decide, by decide, by decide +kernel⟩ hR
set_option maxRecDepth 100000 in
set_option maxHeartbeats 4000000 in
theorem c_F_plain (l : Launch) (ad : Nat → Nat) {i : Nat} (hi : i < 2) (x1 : Int64) : PuM l ad yF_plain (wsM yF_plain cF_plain 5 (some .long)) rmF_plain [.ref (ad i), .long x1] (.long (C_F_plain i x1)) := by
  refine pu_ofL (cc := cF_plain) (maxL := 5) (by decide) rfl (Nat.le_of_ble_eq_true rfl) ?_
  intro p e s m args below meth c Q hx hb hml hown hts hF hS hret ls hl
  have hl : lv_has ls 5 [(0, .ref (ad i)), (1, .long x1)] := hl
  refine lv_aload_n (pc := 0) hx hb dF_plain_0 rfl (lv_at hl 0 rfl) ?_
  refine lv_lload_n (pc := 1) hx hb dF_plain_1 rfl (lv_at hl 1 rfl) ?_
  refine pu_V (pc := 2) (i := i) (rest := []) ⟨hx, hb, hml, hown, hts⟩ hi (c_F_size l ad hi x1) (cwF_size hts w_152 ⟨by decide, by decide⟩) hF hS rfl hl.1 rfl (Nat.le_of_ble_eq_true rfl) dF_plain_2 ⟨Nat.zero_le _, Nat.zero_le _⟩ ?_
  refine lv_lstore_n (lv' := [(3, .long (C_F_size i x1)), (0, .ref (ad i)), (1, .long x1)]) (pc := 5) hx hb dF_plain_5 rfl hl (by decide) rfl (fun ls hl => ?_)
  refine lv_lload_n (pc := 6) hx hb dF_plain_6 rfl (lv_at hl 0 rfl) ?_
  refine lv_aload_n (pc := 7) hx hb dF_plain_7 rfl (lv_at hl 1 rfl) ?_
  refine fm_le (pc := 8) hx hb hF hi hS hown (hts _ (List.mem_cons_of_mem _ w_531)) dF_plain_8 ?_
  refine W.lcmp (pc := 11) hx hb dF_plain_11 ?_
  refine lv_if_ge (tgt := 19) (pc := 12) hx hb dF_plain_12 (by decide) (fun h1 => ?_) (fun h1 => ?_)
  · skip
    have h1 : (fLe i) ≤ (C_F_size i x1) := (lg_cmp_ge _ _).1 h1
    refine lv_lload_n (pc := 19) hx hb dF_plain_19 rfl (lv_at hl 0 rfl) ?_
    refine lv_aload_n (pc := 20) hx hb dF_plain_20 rfl (lv_at hl 1 rfl) ?_
    refine fm_le (pc := 21) hx hb hF hi hS hown (hts _ (List.mem_cons_of_mem _ w_531)) dF_plain_21 ?_
    refine lv_lconst (v := 1) (pc := 24) hx hb dF_plain_24 (by decide) ?_
    refine lv_lsub (pc := 25) hx hb dF_plain_25 ?_
    refine lv_land (pc := 26) hx hb dF_plain_26 ?_
    refine lv_aload_n (pc := 27) hx hb dF_plain_27 rfl (lv_at hl 1 rfl) ?_
    refine fm_le (pc := 28) hx hb hF hi hS hown (hts _ (List.mem_cons_of_mem _ w_531)) dF_plain_28 ?_
    refine lv_lor (pc := 31) hx hb dF_plain_31 ?_
    exact hret _ _ _ (show ((C_F_size i x1) &&& ((fLe i) - 1)) ||| (fLe i) = C_F_plain i x1 from by rw [C_F_plain, if_pos h1]) dF_plain_32
  · skip
    have h1 : ¬ ((fLe i) ≤ (C_F_size i x1)) := fun q => h1 ((lg_cmp_ge _ _).2 q)
    refine lv_lload_n (pc := 15) hx hb dF_plain_15 rfl (lv_at hl 0 rfl) ?_
    refine lv_goto (tgt := 32) (pc := 16) hx hb dF_plain_16 (by decide) ?_
    exact hret _ _ _ (show C_F_size i x1 = C_F_plain i x1 from by rw [C_F_plain, if_neg h1]) dF_plain_32
def C_F_signed (i : Nat) (z1 : Bool) (x2 : Int64) : Int64 :=
  if z1 = false then
    x2
  else
    x2 ||| (fSg i)
abbrev rmF_signed : Room := { frames := 0, cells := 0, slots := 0, locals := 0 }
theorem cwF_signed {R : Room} {s : State} {args : Array Value} {w0 : Cond} {own : String} {idx : Nat} (hts : ∀ w ∈ (w0 :: bigW), w.before args s = true) (hl : Cond.methodLink own idx yF_signed ∈ bigW) (hR : rmF_signed.frames + 1 ≤ R.frames ∧ 8 + (4 + 11) + rmF_signed.locals ≤ R.locals) : CallW R s args own "FloatUnit$Format" idx yF_signed cF_signed 4 (some .long) (wsM yF_signed cF_signed 4 (some .long)) rmF_signed 0 0 2 :=
  cwV 2 hts (big_V hl w_218 w_219 w_8 w_220) rfl rfl rfl ⟨rfl, by decide, by decide, by decide +kernel⟩ hR
set_option maxRecDepth 100000 in
set_option maxHeartbeats 4000000 in
theorem c_F_signed (l : Launch) (ad : Nat → Nat) {i : Nat} (hi : i < 2) (z1 : Bool) (x2 : Int64) : PuM l ad yF_signed (wsM yF_signed cF_signed 4 (some .long)) rmF_signed [.ref (ad i), .int (bI z1), .long x2] (.long (C_F_signed i z1 x2)) := by
  refine pu_ofL (cc := cF_signed) (maxL := 4) (by decide) rfl (Nat.le_of_ble_eq_true rfl) ?_
  intro p e s m args below meth c Q hx hb hml hown hts hF hS hret ls hl
  have hl : lv_has ls 4 [(0, .ref (ad i)), (1, .int (bI z1)), (2, .long x2)] := hl
  refine lv_iload_n (pc := 0) hx hb dF_signed_0 rfl (lv_at hl 1 rfl) ?_
  refine lv_if_eq (tgt := 13) (pc := 1) hx hb dF_signed_1 (by decide) (fun h1 => ?_) (fun h1 => ?_)
  · skip
    have h1 : z1 = false := (bI_0 _).1 h1
    refine lv_lload_n (pc := 13) hx hb dF_signed_13 rfl (lv_at hl 2 rfl) ?_
    exact hret _ _ _ (show x2 = C_F_signed i z1 x2 from by rw [C_F_signed, if_pos h1]) dF_signed_14
  · skip
    have h1 : ¬ (z1 = false) := fun q => h1 ((bI_0 _).2 q)
    refine lv_lload_n (pc := 4) hx hb dF_signed_4 rfl (lv_at hl 2 rfl) ?_
    refine lv_aload_n (pc := 5) hx hb dF_signed_5 rfl (lv_at hl 0 rfl) ?_
    refine fm_sg (pc := 6) hx hb hF hi hS hown (hts _ (List.mem_cons_of_mem _ w_529)) dF_signed_6 ?_
    refine lv_lor (pc := 9) hx hb dF_signed_9 ?_
    refine lv_goto (tgt := 14) (pc := 10) hx hb dF_signed_10 (by decide) ?_
    exact hret _ _ _ (show x2 ||| (fSg i) = C_F_signed i z1 x2 from by rw [C_F_signed, if_neg h1]) dF_signed_14
def C_F_opposite (i : Nat) (x1 : Int64) : Int64 :=
  x1 ^^^ (fSg i)
abbrev rmF_opposite : Room := { frames := 0, cells := 0, slots := 0, locals := 0 }
theorem cwF_opposite {R : Room} {s : State} {args : Array Value} {w0 : Cond} {own : String} {idx : Nat} (hts : ∀ w ∈ (w0 :: bigW), w.before args s = true) (hl : Cond.methodLink own idx yF_opposite ∈ bigW) (hR : rmF_opposite.frames + 1 ≤ R.frames ∧ 8 + (3 + 11) + rmF_opposite.locals ≤ R.locals) : CallW R s args own "FloatUnit$Format" idx yF_opposite cF_opposite 3 (some .long) (wsM yF_opposite cF_opposite 3 (some .long)) rmF_opposite 0 0 1 :=
  cwV 1 hts (big_V hl w_245 w_246 w_8 w_247) rfl rfl rfl ⟨rfl, by decide, by decide, by decide +kernel⟩ hR
set_option maxRecDepth 100000 in
set_option maxHeartbeats 4000000 in
theorem c_F_opposite (l : Launch) (ad : Nat → Nat) {i : Nat} (hi : i < 2) (x1 : Int64) : PuM l ad yF_opposite (wsM yF_opposite cF_opposite 3 (some .long)) rmF_opposite [.ref (ad i), .long x1] (.long (C_F_opposite i x1)) := by
  refine pu_ofL (cc := cF_opposite) (maxL := 3) (by decide) rfl (Nat.le_of_ble_eq_true rfl) ?_
  intro p e s m args below meth c Q hx hb hml hown hts hF hS hret ls hl
  have hl : lv_has ls 3 [(0, .ref (ad i)), (1, .long x1)] := hl
  refine lv_lload_n (pc := 0) hx hb dF_opposite_0 rfl (lv_at hl 1 rfl) ?_
  refine lv_aload_n (pc := 1) hx hb dF_opposite_1 rfl (lv_at hl 0 rfl) ?_
  refine fm_sg (pc := 2) hx hb hF hi hS hown (hts _ (List.mem_cons_of_mem _ w_529)) dF_opposite_2 ?_
  refine lv_lxor (pc := 5) hx hb dF_opposite_5 ?_
  exact hret _ _ _ (show x1 ^^^ (fSg i) = C_F_opposite i x1 from by rw [C_F_opposite]) dF_opposite_6
def C_F_zero (i : Nat) (z1 : Bool) : Int64 :=
  C_F_signed i z1 0
abbrev rmF_zero : Room := { frames := 1, cells := 0, slots := 0, locals := 23 }
theorem cwF_zero {R : Room} {s : State} {args : Array Value} {w0 : Cond} {own : String} {idx : Nat} (hts : ∀ w ∈ (w0 :: bigW), w.before args s = true) (hl : Cond.methodLink own idx yF_zero ∈ bigW) (hR : rmF_zero.frames + 1 ≤ R.frames ∧ 8 + (2 + 11) + rmF_zero.locals ≤ R.locals) : CallW R s args own "FloatUnit$Format" idx yF_zero cF_zero 2 (some .long) (wsM yF_zero cF_zero 2 (some .long)) rmF_zero 0 0 1 :=
  cwV 1 hts (big_V hl w_214 w_215 w_8 w_216) rfl rfl rfl ⟨rfl, by decide, by decide, by decide +kernel⟩ hR
set_option maxRecDepth 100000 in
set_option maxHeartbeats 4000000 in
theorem c_F_zero (l : Launch) (ad : Nat → Nat) {i : Nat} (hi : i < 2) (z1 : Bool) : PuM l ad yF_zero (wsM yF_zero cF_zero 2 (some .long)) rmF_zero [.ref (ad i), .int (bI z1)] (.long (C_F_zero i z1)) := by
  refine pu_ofL (cc := cF_zero) (maxL := 2) (by decide) rfl (Nat.le_of_ble_eq_true rfl) ?_
  intro p e s m args below meth c Q hx hb hml hown hts hF hS hret ls hl
  have hl : lv_has ls 2 [(0, .ref (ad i)), (1, .int (bI z1))] := hl
  refine lv_aload_n (pc := 0) hx hb dF_zero_0 rfl (lv_at hl 0 rfl) ?_
  refine lv_iload_n (pc := 1) hx hb dF_zero_1 rfl (lv_at hl 1 rfl) ?_
  refine lv_lconst (v := 0) (pc := 2) hx hb dF_zero_2 (by decide) ?_
  refine pu_V (pc := 3) (i := i) (rest := []) ⟨hx, hb, hml, hown, hts⟩ hi (c_F_signed l ad hi z1 0) (cwF_signed hts w_217 ⟨by decide, by decide⟩) hF hS rfl hl.1 rfl (Nat.le_of_ble_eq_true rfl) dF_zero_3 ⟨Nat.zero_le _, Nat.zero_le _⟩ ?_
  exact hret _ _ _ (show C_F_signed i z1 0 = C_F_zero i z1 from by rw [C_F_zero]) dF_zero_6
def C_F_endless (i : Nat) (z1 : Bool) : Int64 :=
  C_F_signed i z1 (fEn i)
abbrev rmF_endless : Room := { frames := 1, cells := 0, slots := 0, locals := 23 }
theorem cwF_endless {R : Room} {s : State} {args : Array Value} {w0 : Cond} {own : String} {idx : Nat} (hts : ∀ w ∈ (w0 :: bigW), w.before args s = true) (hl : Cond.methodLink own idx yF_endless ∈ bigW) (hR : rmF_endless.frames + 1 ≤ R.frames ∧ 8 + (2 + 11) + rmF_endless.locals ≤ R.locals) : CallW R s args own "FloatUnit$Format" idx yF_endless cF_endless 2 (some .long) (wsM yF_endless cF_endless 2 (some .long)) rmF_endless 0 0 1 :=
  cwV 1 hts (big_V hl w_235 w_236 w_8 w_237) rfl rfl rfl ⟨rfl, by decide, by decide, by decide +kernel⟩ hR
set_option maxRecDepth 100000 in
set_option maxHeartbeats 4000000 in
theorem c_F_endless (l : Launch) (ad : Nat → Nat) {i : Nat} (hi : i < 2) (z1 : Bool) : PuM l ad yF_endless (wsM yF_endless cF_endless 2 (some .long)) rmF_endless [.ref (ad i), .int (bI z1)] (.long (C_F_endless i z1)) := by
  refine pu_ofL (cc := cF_endless) (maxL := 2) (by decide) rfl (Nat.le_of_ble_eq_true rfl) ?_
  intro p e s m args below meth c Q hx hb hml hown hts hF hS hret ls hl
  have hl : lv_has ls 2 [(0, .ref (ad i)), (1, .int (bI z1))] := hl
  refine lv_aload_n (pc := 0) hx hb dF_endless_0 rfl (lv_at hl 0 rfl) ?_
  refine lv_iload_n (pc := 1) hx hb dF_endless_1 rfl (lv_at hl 1 rfl) ?_
  refine lv_aload_n (pc := 2) hx hb dF_endless_2 rfl (lv_at hl 0 rfl) ?_
  refine fm_en (pc := 3) hx hb hF hi hS hown (hts _ (List.mem_cons_of_mem _ w_530)) dF_endless_3 ?_
  refine pu_V (pc := 6) (i := i) (rest := []) ⟨hx, hb, hml, hown, hts⟩ hi (c_F_signed l ad hi z1 (fEn i)) (cwF_signed hts w_217 ⟨by decide, by decide⟩) hF hS rfl hl.1 rfl (Nat.le_of_ble_eq_true rfl) dF_endless_6 ⟨Nat.zero_le _, Nat.zero_le _⟩ ?_
  exact hret _ _ _ (show C_F_signed i z1 (fEn i) = C_F_endless i z1 from by rw [C_F_endless]) dF_endless_9
def C_F_greatest (i : Nat) (z1 : Bool) : Int64 :=
  C_F_signed i z1 ((fEn i) - 1)
abbrev rmF_greatest : Room := { frames := 1, cells := 0, slots := 0, locals := 23 }
theorem cwF_greatest {R : Room} {s : State} {args : Array Value} {w0 : Cond} {own : String} {idx : Nat} (hts : ∀ w ∈ (w0 :: bigW), w.before args s = true) (hl : Cond.methodLink own idx yF_greatest ∈ bigW) (hR : rmF_greatest.frames + 1 ≤ R.frames ∧ 8 + (2 + 11) + rmF_greatest.locals ≤ R.locals) : CallW R s args own "FloatUnit$Format" idx yF_greatest cF_greatest 2 (some .long) (wsM yF_greatest cF_greatest 2 (some .long)) rmF_greatest 0 0 1 :=
  cwV 1 hts (big_V hl w_231 w_232 w_8 w_233) rfl rfl rfl ⟨rfl, by decide, by decide, by decide +kernel⟩ hR
set_option maxRecDepth 100000 in
set_option maxHeartbeats 4000000 in
theorem c_F_greatest (l : Launch) (ad : Nat → Nat) {i : Nat} (hi : i < 2) (z1 : Bool) : PuM l ad yF_greatest (wsM yF_greatest cF_greatest 2 (some .long)) rmF_greatest [.ref (ad i), .int (bI z1)] (.long (C_F_greatest i z1)) := by
  refine pu_ofL (cc := cF_greatest) (maxL := 2) (by decide) rfl (Nat.le_of_ble_eq_true rfl) ?_
  intro p e s m args below meth c Q hx hb hml hown hts hF hS hret ls hl
  have hl : lv_has ls 2 [(0, .ref (ad i)), (1, .int (bI z1))] := hl
  refine lv_aload_n (pc := 0) hx hb dF_greatest_0 rfl (lv_at hl 0 rfl) ?_
  refine lv_iload_n (pc := 1) hx hb dF_greatest_1 rfl (lv_at hl 1 rfl) ?_
  refine lv_aload_n (pc := 2) hx hb dF_greatest_2 rfl (lv_at hl 0 rfl) ?_
  refine fm_en (pc := 3) hx hb hF hi hS hown (hts _ (List.mem_cons_of_mem _ w_530)) dF_greatest_3 ?_
  refine lv_lconst (v := 1) (pc := 6) hx hb dF_greatest_6 (by decide) ?_
  refine lv_lsub (pc := 7) hx hb dF_greatest_7 ?_
  refine pu_V (pc := 8) (i := i) (rest := []) ⟨hx, hb, hml, hown, hts⟩ hi (c_F_signed l ad hi z1 ((fEn i) - 1)) (cwF_signed hts w_217 ⟨by decide, by decide⟩) hF hS rfl hl.1 rfl (Nat.le_of_ble_eq_true rfl) dF_greatest_8 ⟨Nat.zero_le _, Nat.zero_le _⟩ ?_
  exact hret _ _ _ (show C_F_signed i z1 ((fEn i) - 1) = C_F_greatest i z1 from by rw [C_F_greatest]) dF_greatest_11
def C_F_none (i : Nat) : Int64 :=
  (fEn i) ||| (jUshr (fLe i) 1)
abbrev rmF_none : Room := { frames := 0, cells := 0, slots := 0, locals := 0 }
theorem cwF_none {R : Room} {s : State} {args : Array Value} {w0 : Cond} {own : String} {idx : Nat} (hts : ∀ w ∈ (w0 :: bigW), w.before args s = true) (hl : Cond.methodLink own idx yF_none ∈ bigW) (hR : rmF_none.frames + 1 ≤ R.frames ∧ 8 + (1 + 11) + rmF_none.locals ≤ R.locals) : CallW R s args own "FloatUnit$Format" idx yF_none cF_none 1 (some .long) (wsM yF_none cF_none 1 (some .long)) rmF_none 0 0 0 :=
  cwV 0 hts (big_V hl w_157 w_158 w_8 w_159) rfl rfl rfl ⟨rfl, by decide, by decide, by decide +kernel⟩ hR
set_option maxRecDepth 100000 in
set_option maxHeartbeats 4000000 in
theorem c_F_none (l : Launch) (ad : Nat → Nat) {i : Nat} (hi : i < 2) : PuM l ad yF_none (wsM yF_none cF_none 1 (some .long)) rmF_none [.ref (ad i)] (.long (C_F_none i)) := by
  refine pu_ofL (cc := cF_none) (maxL := 1) (by decide) rfl (Nat.le_of_ble_eq_true rfl) ?_
  intro p e s m args below meth c Q hx hb hml hown hts hF hS hret ls hl
  have hl : lv_has ls 1 [(0, .ref (ad i))] := hl
  refine lv_aload_n (pc := 0) hx hb dF_none_0 rfl (lv_at hl 0 rfl) ?_
  refine fm_en (pc := 1) hx hb hF hi hS hown (hts _ (List.mem_cons_of_mem _ w_530)) dF_none_1 ?_
  refine lv_aload_n (pc := 4) hx hb dF_none_4 rfl (lv_at hl 0 rfl) ?_
  refine fm_le (pc := 5) hx hb hF hi hS hown (hts _ (List.mem_cons_of_mem _ w_531)) dF_none_5 ?_
  refine lv_iconst (v := 1) (pc := 8) hx hb dF_none_8 (by decide) ?_
  refine lv_lushr (v := jUshr (fLe i) 1) (pc := 9) hx hb dF_none_9 rfl ?_
  refine lv_lor (pc := 10) hx hb dF_none_10 ?_
  exact hret _ _ _ (show (fEn i) ||| (jUshr (fLe i) 1) = C_F_none i from by rw [C_F_none]) dF_none_11
