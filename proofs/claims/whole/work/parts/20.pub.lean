/-! The unit's public methods where they return (by program, but the first ones). -/
theorem fmt_lt (z : Bool) : C_U_format z < 2 := by
  unfold C_U_format
  split <;> decide
def PuV (l : Launch) (ad : Nat → Nat) (y : MethodName) (ws : List Cond) (rm : Room) (av : List Value) : Prop :=
  ∀ Hc : Heap, Met l y ws rm (va_Pc av (fun U => U.heap = Hc ∧ FM ad nA U Hc)) (fun _ _ oc t => oc = .returned none ∧ t.heap = Hc) 0 0 nA
section PUV
variable {p : Program} {l : Launch} {e : Env} {R : Room} {s : State} {m : MethodId} {args : Array Value} {below : List Frame} {meth : Method} {c : Code} {H : Heap} {locs : List Loc} {cells slots : Nat} {Q : State → Prop}
variable {Ts ws ws' : List Cond} {cc bytes : ByteArray} {nL maxL index n i : Nat} {own C host ref : String} {y : MethodName} {ret : Option FieldType} {rm : Room} {As av rest st : List Value} {pc : Nat} {ls : Array Slot} {A : Nat → Prop} {ad : Nat → Nat}
theorem pu_gov (hr : va_Run p l e R s m args below meth c H locs cells slots 0 0 (F0 m pc ls st) rest (fun _ oc t => oc = .returned none ∧ t.heap = H) nA)
    (kk : W p l e R s m args below meth c H locs cells slots Q (F0 m (pc + 3) ls rest)) : W p l e R s m args below meth c H locs cells slots Q (F0 m pc ls st) := by
  intro T hT X
  obtain ⟨v', st₀, t, T', L, h0, X', hL, e1, e2, ⟨hv, hh⟩, st⟩ := hr T hT X
  cases hv
  have hL0 : L = [] := by
    cases L with
    | nil => rfl
    | cons a L => exact (hL a List.mem_cons_self).elim
  subst hL0
  rw [List.append_nil] at X'
  obtain ⟨t2, a1, b1⟩ := kk T' (by rw [e1, hh]) X'
  exact ⟨t2, st t2 a1, b1⟩
theorem pu_Sv (S : CallFix p m c cc nL s args Ts own) (hM : PuV l ad y ws rm As) (cw : CallB R s args own index y bytes maxL ret ws rm 0 0 n ∧ (Cond.static y).before args s = true) (hF : FM ad A s s.heap) (hS : va_S A s.heap H locs)
    (hn : As.length = n) (hsize : ls.size = nL) (hstack : st = As.reverse ++ rest) (hW : (rest.map fun v => v.category).sum ≤ 8) (hdg : decode cc pc = .ok (.invokestatic index, 3)) (hf : cells ≤ R.cells ∧ slots ≤ R.slots)
    (kk : W p l e R s m args below meth c H locs cells slots Q (F0 m (pc + 3) ls rest)) : W p l e R s m args below meth c H locs cells slots Q (F0 m pc ls st) :=
  pu_gov (va_runS (g := F0 m pc ls st) (mc := 0) (ms := 0) S (hM H) cw
    ⟨fun a U g mk q => ⟨q.1, q.2.1, fm_same (u := U) (U := U.calling g mk a) rfl q.2.2⟩, fun U hU hWm => ⟨rfl, hU, fm_warm hWm (fm_narrow (fm_kept hF hS.2.1) (fun _ h => h.elim))⟩⟩ rfl hn hsize hstack (lv_room hW) hdg hf) kk
end PUV
theorem in16 {k : Int32} (h : vp_in k 16) : ¬ k < 0 ∧ k < 16 := by
  have h1 := vp_in_iff.1 h
  obtain ⟨z, hz, rfl⟩ := iI_of k
  rw [iI_toInt hz] at h1
  have e0 : (0 : Int32) = iI 0 := rfl
  have e16 : (16 : Int32) = iI 16 := rfl
  rw [e0, e16, iI_lt hz ⟨by decide, by decide⟩, iI_lt hz ⟨by decide, by decide⟩]
  omega
theorem out16 {k : Int32} (h : ¬ vp_in k 16) : k < 0 ∨ 16 ≤ k := by
  have h1 : ¬ (0 ≤ k.toInt ∧ k.toInt < (16 : Nat)) := fun q => h (vp_in_iff.2 q)
  obtain ⟨z, hz, rfl⟩ := iI_of k
  rw [iI_toInt hz] at h1
  have e0 : (0 : Int32) = iI 0 := rfl
  have e16 : (16 : Int32) = iI 16 := rfl
  rw [e0, e16, iI_lt hz ⟨by decide, by decide⟩, iI_le ⟨by decide, by decide⟩ hz]
  omega
abbrev rmU_requireRegister : Room := { frames := 0, cells := 0, slots := 0, locals := 0 }
theorem cwU_requireRegister {R : Room} {s : State} {args : Array Value} {w0 : Cond} {idx : Nat} (hts : ∀ w ∈ (w0 :: bigW), w.before args s = true) (hl : Cond.methodLink "FloatUnit" idx yU_requireRegister ∈ bigW) (hR : rmU_requireRegister.frames + 1 ≤ R.frames ∧ 8 + (1 + 11) + rmU_requireRegister.locals ≤ R.locals) : CallB R s args "FloatUnit" idx yU_requireRegister cU_requireRegister 1 none (wsM yU_requireRegister cU_requireRegister 1 none) rmU_requireRegister 0 0 1 ∧ (Cond.static yU_requireRegister).before args s = true :=
  cwS 1 hts (big_S hl w_42 w_1 w_43) rfl rfl rfl ⟨rfl, by decide, by decide, by decide +kernel⟩ hR
set_option maxRecDepth 100000 in
theorem c_U_requireRegister (l : Launch) (ad : Nat → Nat) {k : Int32} (hk : vp_in k 16) : PuV l ad yU_requireRegister (wsM yU_requireRegister cU_requireRegister 1 none) rmU_requireRegister [.int k] := by
  intro Hc
  refine Met.ofW (cc := cU_requireRegister) (maxL := 1) (ret := none) (by decide) rfl ?_
  intro p e s m args below meth c s₁ B hml hv
  obtain ⟨rfl, hh, hF⟩ := hv
  subst hh
  have hx := B.exec
  have hb := B.bytes
  have hl := lv_entry ([.int k]) (n := 1) (Nat.le_of_ble_eq_true rfl)
  rw [lg_entry_eq]
  generalize (lg_sl ([.int k]) ++ List.replicate (1 - (lg_sl ([.int k])).length) Slot.unset).toArray = ls at hl ⊢
  have hl : lv_has ls 1 [(0, .int k)] := hl
  refine lv_iload_n (pc := 0) hx hb dU_requireRegister_0 rfl (lv_at hl 0 rfl) ?_
  refine lv_if_lt (tgt := 10) (pc := 1) hx hb dU_requireRegister_1 (by decide) (fun h => absurd h (in16 hk).1) (fun _ => ?_)
  refine lv_iload_n (pc := 4) hx hb dU_requireRegister_4 rfl (lv_at hl 0 rfl) ?_
  refine lv_bipush (v := 16) (pc := 5) hx hb dU_requireRegister_5 (by decide) ?_
  refine lv_icmp_lt (tgt := 20) (pc := 7) hx hb dU_requireRegister_7 (by decide) (fun _ => ?_) (fun h => absurd (in16 hk).2 h)
  exact W.vret hx hb B.returns (fun t ht hW => ⟨rfl, ht⟩) (fun q hq => nomatch hq) dU_requireRegister_20 B.notSynchronized
abbrev rmU_keep : Room := { frames := 0, cells := 0, slots := 0, locals := 0 }
theorem cwU_keep {R : Room} {s : State} {args : Array Value} {w0 : Cond} {own : String} {idx : Nat} (hts : ∀ w ∈ (w0 :: bigW), w.before args s = true) (hl : Cond.methodLink own idx yU_keep ∈ bigW) (hR : rmU_keep.frames + 1 ≤ R.frames ∧ 8 + (4 + 11) + rmU_keep.locals ≤ R.locals) : CallW R s args own "FloatUnit" idx yU_keep cU_keep 4 (some .long) (wsM yU_keep cU_keep 4 (some .long)) rmU_keep 0 0 2 :=
  cwV 2 hts (big_V hl w_277 sel_U_keep w_1 w_278) rfl rfl rfl ⟨rfl, by decide, by decide, by decide +kernel⟩ hR
set_option maxRecDepth 100000 in
theorem c_U_keep (l : Launch) (ad : Nat → Nat) (D : va_G) (cA : ClassId) (h0 r0 : Nat) (md fl : Int32) (rg : Nat → Int64) (k : Int32) (x : Int64) (hk : vp_in k 16) : FuM l ad D cA h0 r0 yU_keep (wsM yU_keep cU_keep 4 (some .long)) rmU_keep [.int k, .long x] md fl rg (some (.long x)) md fl (vp_updL rg k.toNatClampNeg x) := by
  refine fu_ofL (cc := cU_keep) (maxL := 4) (by decide) rfl (Nat.le_of_ble_eq_true rfl) ?_
  intro p e s m args below meth c Q hx hb hml hown hts hF H locs hS hw hret ls hl
  have hl : lv_has ls 4 [(0, .ref h0), (1, .int k), (2, .long x)] := hl
  refine lv_aload_n (pc := 0) hx hb dU_keep_0 rfl (lv_at hl 0 rfl) ?_
  refine fu_rg (pc := 1) hx hb hts hown hw w_18 dU_keep_1 ?_
  refine lv_iload_n (pc := 4) hx hb dU_keep_4 rfl (lv_at hl 1 rfl) ?_
  refine lv_lload_n (pc := 5) hx hb dU_keep_5 rfl (lv_at hl 2 rfl) ?_
  refine fu_st (pc := 6) hx hb hw hS hk dU_keep_6 (fun H locs hw hS => ?_)
  refine lv_lload_n (pc := 7) hx hb dU_keep_7 rfl (lv_at hl 2 rfl) ?_
  exact hret _ _ _ _ _ _ _ _ rfl rfl rfl rfl hw hS dU_keep_8
def C_U_put (md : Int32) (fl : Int32) (rg : Nat → Int64) (k1 : Int32) (x2 : Int64) : Int64 :=
  rg k1.toNatClampNeg
abbrev rmU_put : Room := { frames := 1, cells := 0, slots := 0, locals := 20 }
theorem cwU_put {R : Room} {s : State} {args : Array Value} {w0 : Cond} {own : String} {idx : Nat} (hts : ∀ w ∈ (w0 :: bigW), w.before args s = true) (hl : Cond.methodLink own idx yU_put ∈ bigW) (hR : rmU_put.frames + 1 ≤ R.frames ∧ 8 + (6 + 11) + rmU_put.locals ≤ R.locals) : CallW R s args own "FloatUnit" idx yU_put cU_put 6 (some .long) (wsM yU_put cU_put 6 (some .long)) rmU_put 0 0 2 :=
  cwV 2 hts (big_V hl w_38 w_39 w_1 w_40) rfl rfl rfl ⟨rfl, by decide, by decide, by decide +kernel⟩ hR
set_option maxRecDepth 100000 in
set_option maxHeartbeats 8000000 in
theorem c_U_put (l : Launch) (ad : Nat → Nat) (D : va_G) (cA : ClassId) (h0 r0 : Nat) (md fl : Int32) (rg : Nat → Int64) (k1 : Int32) (x2 : Int64) (h_k1 : vp_in k1 16) : FuM l ad D cA h0 r0 yU_put (wsM yU_put cU_put 6 (some .long)) rmU_put [.int k1, .long x2] md fl rg (some (.long (C_U_put md fl rg k1 x2))) md fl (vp_updL rg k1.toNatClampNeg x2) := by
  refine fu_ofL (cc := cU_put) (maxL := 6) (by decide) rfl (Nat.le_of_ble_eq_true rfl) ?_
  intro p e s m args below meth c Q hx hb hml hown hts hF H locs hS hw hret ls hl
  have hl : lv_has ls 6 [(0, .ref h0), (1, .int k1), (2, .long x2)] := hl
  refine lv_iload_n (pc := 0) hx hb dU_put_0 rfl (lv_at hl 1 rfl) ?_
  refine pu_Sv (pc := 1) (rest := []) ⟨hx, hb, hml, hown, hts⟩ (c_U_requireRegister l ad h_k1) (cwU_requireRegister hts w_41 ⟨by decide, by decide⟩) hF hS rfl hl.1 rfl (Nat.le_of_ble_eq_true rfl) dU_put_1 ⟨Nat.zero_le _, Nat.zero_le _⟩ ?_
  refine lv_aload_n (pc := 4) hx hb dU_put_4 rfl (lv_at hl 0 rfl) ?_
  refine fu_rg (pc := 5) hx hb hts hown hw w_18 dU_put_5 ?_
  refine lv_iload_n (pc := 8) hx hb dU_put_8 rfl (lv_at hl 1 rfl) ?_
  refine fu_ld (pc := 9) hx hb hw h_k1 dU_put_9 ?_
  refine lv_lstore (lv' := [(4, .long (rg k1.toNatClampNeg)), (0, .ref h0), (1, .int k1), (2, .long x2)]) (pc := 10) hx hb dU_put_10 hl (by decide) rfl (fun ls hl => ?_)
  refine lv_aload_n (pc := 12) hx hb dU_put_12 rfl (lv_at hl 1 rfl) ?_
  refine fu_rg (pc := 13) hx hb hts hown hw w_18 dU_put_13 ?_
  refine lv_iload_n (pc := 16) hx hb dU_put_16 rfl (lv_at hl 2 rfl) ?_
  refine lv_lload_n (pc := 17) hx hb dU_put_17 rfl (lv_at hl 3 rfl) ?_
  refine fu_st (pc := 18) hx hb hw hS h_k1 dU_put_18 (fun H locs hw hS => ?_)
  refine lv_lload (pc := 19) hx hb dU_put_19 (lv_at hl 0 rfl) ?_
  exact hret _ _ _ _ _ _ _ _ (show rg k1.toNatClampNeg = C_U_put md fl rg k1 x2 from by rw [C_U_put]) rfl rfl rfl hw hS dU_put_21
def C_U_bits (md : Int32) (fl : Int32) (rg : Nat → Int64) (k1 : Int32) : Int64 :=
  rg k1.toNatClampNeg
abbrev rmU_bits : Room := { frames := 1, cells := 0, slots := 0, locals := 20 }
theorem cwU_bits {R : Room} {s : State} {args : Array Value} {w0 : Cond} {own : String} {idx : Nat} (hts : ∀ w ∈ (w0 :: bigW), w.before args s = true) (hl : Cond.methodLink own idx yU_bits ∈ bigW) (hR : rmU_bits.frames + 1 ≤ R.frames ∧ 8 + (2 + 11) + rmU_bits.locals ≤ R.locals) : CallW R s args own "FloatUnit" idx yU_bits cU_bits 2 (some .long) (wsM yU_bits cU_bits 2 (some .long)) rmU_bits 0 0 1 :=
  cwV 1 hts (big_V hl w_114 w_115 w_1 w_116) rfl rfl rfl ⟨rfl, by decide, by decide, by decide +kernel⟩ hR
set_option maxRecDepth 100000 in
set_option maxHeartbeats 8000000 in
theorem c_U_bits (l : Launch) (ad : Nat → Nat) (D : va_G) (cA : ClassId) (h0 r0 : Nat) (md fl : Int32) (rg : Nat → Int64) (k1 : Int32) (h_k1 : vp_in k1 16) : FuM l ad D cA h0 r0 yU_bits (wsM yU_bits cU_bits 2 (some .long)) rmU_bits [.int k1] md fl rg (some (.long (C_U_bits md fl rg k1))) md fl rg := by
  refine fu_ofL (cc := cU_bits) (maxL := 2) (by decide) rfl (Nat.le_of_ble_eq_true rfl) ?_
  intro p e s m args below meth c Q hx hb hml hown hts hF H locs hS hw hret ls hl
  have hl : lv_has ls 2 [(0, .ref h0), (1, .int k1)] := hl
  refine lv_iload_n (pc := 0) hx hb dU_bits_0 rfl (lv_at hl 1 rfl) ?_
  refine pu_Sv (pc := 1) (rest := []) ⟨hx, hb, hml, hown, hts⟩ (c_U_requireRegister l ad h_k1) (cwU_requireRegister hts w_41 ⟨by decide, by decide⟩) hF hS rfl hl.1 rfl (Nat.le_of_ble_eq_true rfl) dU_bits_1 ⟨Nat.zero_le _, Nat.zero_le _⟩ ?_
  refine lv_aload_n (pc := 4) hx hb dU_bits_4 rfl (lv_at hl 0 rfl) ?_
  refine fu_rg (pc := 5) hx hb hts hown hw w_18 dU_bits_5 ?_
  refine lv_iload_n (pc := 8) hx hb dU_bits_8 rfl (lv_at hl 1 rfl) ?_
  refine fu_ld (pc := 9) hx hb hw h_k1 dU_bits_9 ?_
  exact hret _ _ _ _ _ _ _ _ (show rg k1.toNatClampNeg = C_U_bits md fl rg k1 from by rw [C_U_bits]) rfl rfl rfl hw hS dU_bits_10
def C_U_mode (md : Int32) (fl : Int32) (rg : Nat → Int64) (k1 : Int32) : Int32 :=
  md
abbrev rmU_mode : Room := { frames := 0, cells := 0, slots := 0, locals := 0 }
theorem cwU_mode {R : Room} {s : State} {args : Array Value} {w0 : Cond} {own : String} {idx : Nat} (hts : ∀ w ∈ (w0 :: bigW), w.before args s = true) (hl : Cond.methodLink own idx yU_mode ∈ bigW) (hR : rmU_mode.frames + 1 ≤ R.frames ∧ 8 + (3 + 11) + rmU_mode.locals ≤ R.locals) : CallW R s args own "FloatUnit" idx yU_mode cU_mode 3 (some .int) (wsM yU_mode cU_mode 3 (some .int)) rmU_mode 0 0 1 :=
  cwV 1 hts (big_V hl w_121 w_122 w_1 w_123) rfl rfl rfl ⟨rfl, by decide, by decide, by decide +kernel⟩ hR
set_option maxRecDepth 100000 in
set_option maxHeartbeats 8000000 in
theorem c_U_mode (l : Launch) (ad : Nat → Nat) (D : va_G) (cA : ClassId) (h0 r0 : Nat) (md fl : Int32) (rg : Nat → Int64) (k1 : Int32) (g0 : ¬ k1 < 0) (g1 : k1 ≤ 3) : FuM l ad D cA h0 r0 yU_mode (wsM yU_mode cU_mode 3 (some .int)) rmU_mode [.int k1] md fl rg (some (.int (C_U_mode md fl rg k1))) k1 fl rg := by
  refine fu_ofI (cc := cU_mode) (maxL := 3) (by decide) rfl (Nat.le_of_ble_eq_true rfl) ?_
  intro p e s m args below meth c Q hx hb hml hown hts hF H locs hS hw hret ls hl
  have hl : lv_has ls 3 [(0, .ref h0), (1, .int k1)] := hl
  refine lv_iload_n (pc := 0) hx hb dU_mode_0 rfl (lv_at hl 1 rfl) ?_
  refine lv_if_lt (tgt := 9) (pc := 1) hx hb dU_mode_1 (by decide) (fun h1 => ?_) (fun h1 => ?_)
  · exact absurd h1 g0
  · skip
    refine lv_iload_n (pc := 4) hx hb dU_mode_4 rfl (lv_at hl 1 rfl) ?_
    refine lv_iconst (v := 3) (pc := 5) hx hb dU_mode_5 (by decide) ?_
    refine lv_icmp_le (tgt := 19) (pc := 6) hx hb dU_mode_6 (by decide) (fun h2 => ?_) (fun h2 => ?_)
    · skip
      refine lv_aload_n (pc := 19) hx hb dU_mode_19 rfl (lv_at hl 0 rfl) ?_
      refine fu_md (pc := 20) hx hb hts hown hw w_19 dU_mode_20 ?_
      refine lv_istore_n (lv' := [(2, .int md), (0, .ref h0), (1, .int k1)]) (pc := 23) hx hb dU_mode_23 rfl hl (by decide) rfl (fun ls hl => ?_)
      refine lv_aload_n (pc := 24) hx hb dU_mode_24 rfl (lv_at hl 1 rfl) ?_
      refine lv_iload_n (pc := 25) hx hb dU_mode_25 rfl (lv_at hl 2 rfl) ?_
      refine fu_pmd (pc := 26) hx hb hts hown hw hS w_19 dU_mode_26 (fun H locs hw hS => ?_)
      refine lv_iload_n (pc := 29) hx hb dU_mode_29 rfl (lv_at hl 0 rfl) ?_
      exact hret _ _ _ _ _ _ _ _ (show md = C_U_mode md fl rg k1 from by rw [C_U_mode]) rfl rfl rfl hw hS dU_mode_30
    · exact absurd g1 h2
def C_U_flags (md : Int32) (fl : Int32) (rg : Nat → Int64) (k1 : Int32) : Int32 × Int32 :=
  (fl, fl &&& (k1 ^^^ (-1)))
abbrev rmU_flags : Room := { frames := 0, cells := 0, slots := 0, locals := 0 }
theorem cwU_flags {R : Room} {s : State} {args : Array Value} {w0 : Cond} {own : String} {idx : Nat} (hts : ∀ w ∈ (w0 :: bigW), w.before args s = true) (hl : Cond.methodLink own idx yU_flags ∈ bigW) (hR : rmU_flags.frames + 1 ≤ R.frames ∧ 8 + (3 + 11) + rmU_flags.locals ≤ R.locals) : CallW R s args own "FloatUnit" idx yU_flags cU_flags 3 (some .int) (wsM yU_flags cU_flags 3 (some .int)) rmU_flags 0 0 1 :=
  cwV 1 hts (big_V hl w_30 w_31 w_1 w_32) rfl rfl rfl ⟨rfl, by decide, by decide, by decide +kernel⟩ hR
set_option maxRecDepth 100000 in
set_option maxHeartbeats 8000000 in
theorem c_U_flags (l : Launch) (ad : Nat → Nat) (D : va_G) (cA : ClassId) (h0 r0 : Nat) (md fl : Int32) (rg : Nat → Int64) (k1 : Int32) : FuM l ad D cA h0 r0 yU_flags (wsM yU_flags cU_flags 3 (some .int)) rmU_flags [.int k1] md fl rg (some (.int ((C_U_flags md fl rg k1).1))) md (C_U_flags md fl rg k1).2 rg := by
  refine fu_ofI (cc := cU_flags) (maxL := 3) (by decide) rfl (Nat.le_of_ble_eq_true rfl) ?_
  intro p e s m args below meth c Q hx hb hml hown hts hF H locs hS hw hret ls hl
  have hl : lv_has ls 3 [(0, .ref h0), (1, .int k1)] := hl
  refine lv_aload_n (pc := 0) hx hb dU_flags_0 rfl (lv_at hl 0 rfl) ?_
  refine fu_fl (pc := 1) hx hb hts hown hw w_20 dU_flags_1 ?_
  refine lv_istore_n (lv' := [(2, .int fl), (0, .ref h0), (1, .int k1)]) (pc := 4) hx hb dU_flags_4 rfl hl (by decide) rfl (fun ls hl => ?_)
  refine lv_aload_n (pc := 5) hx hb dU_flags_5 rfl (lv_at hl 1 rfl) ?_
  refine lv_dup (pc := 6) hx hb dU_flags_6 rfl ?_
  refine fu_fl (pc := 7) hx hb hts hown hw w_20 dU_flags_7 ?_
  refine lv_iload_n (pc := 10) hx hb dU_flags_10 rfl (lv_at hl 2 rfl) ?_
  refine lv_iconst (v := (-1)) (pc := 11) hx hb dU_flags_11 (by decide) ?_
  refine lv_ixor (pc := 12) hx hb dU_flags_12 ?_
  refine lv_iand (pc := 13) hx hb dU_flags_13 ?_
  refine fu_pfl (pc := 14) hx hb hts hown hw hS w_20 dU_flags_14 (fun H locs hw hS => ?_)
  refine lv_iload_n (pc := 17) hx hb dU_flags_17 rfl (lv_at hl 0 rfl) ?_
  have he9 := (show (fl, fl &&& (k1 ^^^ (-1))) = C_U_flags md fl rg k1 from by rw [C_U_flags])
  exact hret _ _ _ _ _ _ _ _ (congrArg Prod.fst he9) rfl (congrArg Prod.snd he9) rfl hw hS dU_flags_18
def C_U_work (md : Int32) (fl : Int32) (rg : Nat → Int64) (k1 : Int32) (z2 : Bool) (k3 : Int32) (k4 : Int32) (k5 : Int32) : Int64 × Int32 :=
  ((C_U_result md fl k1 (C_U_format z2) (C_F_own (C_U_format z2) (rg k4.toNatClampNeg)) (C_F_own (C_U_format z2) (rg k5.toNatClampNeg))).1, (C_U_result md fl k1 (C_U_format z2) (C_F_own (C_U_format z2) (rg k4.toNatClampNeg)) (C_F_own (C_U_format z2) (rg k5.toNatClampNeg))).2)
abbrev rmU_work : Room := { frames := 6, cells := 0, slots := 0, locals := 164 }
theorem cwU_work {R : Room} {s : State} {args : Array Value} {w0 : Cond} {own : String} {idx : Nat} (hts : ∀ w ∈ (w0 :: bigW), w.before args s = true) (hl : Cond.methodLink own idx yU_work ∈ bigW) (hR : rmU_work.frames + 1 ≤ R.frames ∧ 8 + (7 + 11) + rmU_work.locals ≤ R.locals) : CallW R s args own "FloatUnit" idx yU_work cU_work 7 (some .long) (wsM yU_work cU_work 7 (some .long)) rmU_work 0 0 5 :=
  cwV 5 hts (big_V hl w_129 w_130 w_1 w_131) rfl rfl rfl ⟨rfl, by decide, by decide, by decide +kernel⟩ hR
set_option maxRecDepth 100000 in
set_option maxHeartbeats 8000000 in
theorem c_U_work (l : Launch) (ad : Nat → Nat) (D : va_G) (cA : ClassId) (h0 r0 : Nat) (md fl : Int32) (rg : Nat → Int64) (k1 : Int32) (z2 : Bool) (k3 : Int32) (k4 : Int32) (k5 : Int32) (h_k3 : vp_in k3 16) (h_k4 : vp_in k4 16) (h_k5 : vp_in k5 16) (g0 : ¬ k1 < 0) (g1 : k1 ≤ 4) : FuM l ad D cA h0 r0 yU_work (wsM yU_work cU_work 7 (some .long)) rmU_work [.int k1, .int (bI z2), .int k3, .int k4, .int k5] md fl rg (some (.long ((C_U_work md fl rg k1 z2 k3 k4 k5).1))) md (C_U_work md fl rg k1 z2 k3 k4 k5).2 (vp_updL rg k3.toNatClampNeg (C_U_work md fl rg k1 z2 k3 k4 k5).1) := by
  refine fu_ofL (cc := cU_work) (maxL := 7) (by decide) rfl (Nat.le_of_ble_eq_true rfl) ?_
  intro p e s m args below meth c Q hx hb hml hown hts hF H locs hS hw hret ls hl
  have hl : lv_has ls 7 [(0, .ref h0), (1, .int k1), (2, .int (bI z2)), (3, .int k3), (4, .int k4), (5, .int k5)] := hl
  refine lv_iload_n (pc := 0) hx hb dU_work_0 rfl (lv_at hl 3 rfl) ?_
  refine pu_Sv (pc := 1) (rest := []) ⟨hx, hb, hml, hown, hts⟩ (c_U_requireRegister l ad h_k3) (cwU_requireRegister hts w_41 ⟨by decide, by decide⟩) hF hS rfl hl.1 rfl (Nat.le_of_ble_eq_true rfl) dU_work_1 ⟨Nat.zero_le _, Nat.zero_le _⟩ ?_
  refine lv_iload (pc := 4) hx hb dU_work_4 (lv_at hl 4 rfl) ?_
  refine pu_Sv (pc := 6) (rest := []) ⟨hx, hb, hml, hown, hts⟩ (c_U_requireRegister l ad h_k4) (cwU_requireRegister hts w_41 ⟨by decide, by decide⟩) hF hS rfl hl.1 rfl (Nat.le_of_ble_eq_true rfl) dU_work_6 ⟨Nat.zero_le _, Nat.zero_le _⟩ ?_
  refine lv_iload (pc := 9) hx hb dU_work_9 (lv_at hl 5 rfl) ?_
  refine pu_Sv (pc := 11) (rest := []) ⟨hx, hb, hml, hown, hts⟩ (c_U_requireRegister l ad h_k5) (cwU_requireRegister hts w_41 ⟨by decide, by decide⟩) hF hS rfl hl.1 rfl (Nat.le_of_ble_eq_true rfl) dU_work_11 ⟨Nat.zero_le _, Nat.zero_le _⟩ ?_
  refine lv_iload_n (pc := 14) hx hb dU_work_14 rfl (lv_at hl 1 rfl) ?_
  refine lv_if_lt (tgt := 23) (pc := 15) hx hb dU_work_15 (by decide) (fun h1 => ?_) (fun h1 => ?_)
  · exact absurd h1 g0
  · skip
    refine lv_iload_n (pc := 18) hx hb dU_work_18 rfl (lv_at hl 1 rfl) ?_
    refine lv_iconst (v := 4) (pc := 19) hx hb dU_work_19 (by decide) ?_
    refine lv_icmp_le (tgt := 33) (pc := 20) hx hb dU_work_20 (by decide) (fun h2 => ?_) (fun h2 => ?_)
    · skip
      refine lv_iload_n (pc := 33) hx hb dU_work_33 rfl (lv_at hl 2 rfl) ?_
      refine pu_S (pc := 34) (rest := []) ⟨hx, hb, hml, hown, hts⟩ (c_U_format l ad z2) (cwU_format hts w_133 ⟨by decide, by decide⟩) hF hS rfl hl.1 rfl (Nat.le_of_ble_eq_true rfl) dU_work_34 ⟨Nat.zero_le _, Nat.zero_le _⟩ ?_
      refine lv_astore (lv' := [(6, .ref (ad (C_U_format z2))), (0, .ref h0), (1, .int k1), (2, .int (bI z2)), (3, .int k3), (4, .int k4), (5, .int k5)]) (pc := 37) hx hb dU_work_37 hl (by decide) rfl (fun ls hl => ?_)
      refine lv_aload_n (pc := 39) hx hb dU_work_39 rfl (lv_at hl 1 rfl) ?_
      refine lv_iload_n (pc := 40) hx hb dU_work_40 rfl (lv_at hl 4 rfl) ?_
      refine lv_aload_n (pc := 41) hx hb dU_work_41 rfl (lv_at hl 1 rfl) ?_
      refine lv_iload_n (pc := 42) hx hb dU_work_42 rfl (lv_at hl 2 rfl) ?_
      refine lv_aload (pc := 43) hx hb dU_work_43 (lv_at hl 0 rfl) ?_
      refine lv_aload (pc := 45) hx hb dU_work_45 (lv_at hl 0 rfl) ?_
      refine lv_aload_n (pc := 47) hx hb dU_work_47 rfl (lv_at hl 1 rfl) ?_
      refine fu_rg (pc := 48) hx hb hts hown hw w_18 dU_work_48 ?_
      refine lv_iload (pc := 51) hx hb dU_work_51 (lv_at hl 5 rfl) ?_
      refine fu_ld (pc := 53) hx hb hw h_k4 dU_work_53 ?_
      refine pu_V (pc := 54) (i := C_U_format z2) (rest := [.ref (ad (C_U_format z2)), .int k1, .ref h0, .int k3, .ref h0]) ⟨hx, hb, hml, hown, hts⟩ (fmt_lt _) (c_F_own l ad (fmt_lt _) (rg k4.toNatClampNeg)) (cwF_own hts w_140 ⟨by decide, by decide⟩) hF hS rfl hl.1 rfl (Nat.le_of_ble_eq_true rfl) dU_work_54 ⟨Nat.zero_le _, Nat.zero_le _⟩ ?_
      refine lv_aload (pc := 57) hx hb dU_work_57 (lv_at hl 0 rfl) ?_
      refine lv_aload_n (pc := 59) hx hb dU_work_59 rfl (lv_at hl 1 rfl) ?_
      refine fu_rg (pc := 60) hx hb hts hown hw w_18 dU_work_60 ?_
      refine lv_iload (pc := 63) hx hb dU_work_63 (lv_at hl 6 rfl) ?_
      refine fu_ld (pc := 65) hx hb hw h_k5 dU_work_65 ?_
      refine pu_V (pc := 66) (i := C_U_format z2) (rest := [.long (C_F_own (C_U_format z2) (rg k4.toNatClampNeg)), .ref (ad (C_U_format z2)), .int k1, .ref h0, .int k3, .ref h0]) ⟨hx, hb, hml, hown, hts⟩ (fmt_lt _) (c_F_own l ad (fmt_lt _) (rg k5.toNatClampNeg)) (cwF_own hts w_140 ⟨by decide, by decide⟩) hF hS rfl hl.1 rfl (Nat.le_of_ble_eq_true rfl) dU_work_66 ⟨Nat.zero_le _, Nat.zero_le _⟩ ?_
      refine fu_V (pc := 69) (rest := [.int k3, .ref h0]) ⟨hx, hb, hml, hown, hts⟩ (c_U_result l ad D cA h0 r0 (fmt_lt _) md fl rg k1 (C_F_own (C_U_format z2) (rg k4.toNatClampNeg)) (C_F_own (C_U_format z2) (rg k5.toNatClampNeg))) (cwU_result hts w_144 ⟨by decide, by decide⟩) hF hw hS rfl hl.1 rfl (Nat.le_of_ble_eq_true rfl) dU_work_69 ⟨Nat.zero_le _, Nat.zero_le _⟩ (fun H locs hw hS => ?_)
      refine W.eq (g2 := F0 m 72 ls [.long ((C_U_result md fl k1 (C_U_format z2) (C_F_own (C_U_format z2) (rg k4.toNatClampNeg)) (C_F_own (C_U_format z2) (rg k5.toNatClampNeg))).1), .int k3, .ref h0]) rfl ?_
      refine fu_V (pc := 72) (rest := []) ⟨hx, hb, hml, hown, hts⟩ (c_U_keep l ad D cA h0 r0 md ((C_U_result md fl k1 (C_U_format z2) (C_F_own (C_U_format z2) (rg k4.toNatClampNeg)) (C_F_own (C_U_format z2) (rg k5.toNatClampNeg))).2) rg k3 ((C_U_result md fl k1 (C_U_format z2) (C_F_own (C_U_format z2) (rg k4.toNatClampNeg)) (C_F_own (C_U_format z2) (rg k5.toNatClampNeg))).1) h_k3) (cwU_keep hts w_275 ⟨by decide, by decide⟩) hF hw hS rfl hl.1 rfl (Nat.le_of_ble_eq_true rfl) dU_work_72 ⟨Nat.zero_le _, Nat.zero_le _⟩ (fun H locs hw hS => ?_)
      refine W.eq (g2 := F0 m 75 ls [.long ((C_U_result md fl k1 (C_U_format z2) (C_F_own (C_U_format z2) (rg k4.toNatClampNeg)) (C_F_own (C_U_format z2) (rg k5.toNatClampNeg))).1)]) rfl ?_
      have he9 := (show ((C_U_result md fl k1 (C_U_format z2) (C_F_own (C_U_format z2) (rg k4.toNatClampNeg)) (C_F_own (C_U_format z2) (rg k5.toNatClampNeg))).1, (C_U_result md fl k1 (C_U_format z2) (C_F_own (C_U_format z2) (rg k4.toNatClampNeg)) (C_F_own (C_U_format z2) (rg k5.toNatClampNeg))).2) = C_U_work md fl rg k1 z2 k3 k4 k5 from by rw [C_U_work])
      exact hret _ _ _ _ _ _ _ _ (congrArg Prod.fst he9) rfl (congrArg Prod.snd he9) (congrArg (vp_updL rg k3.toNatClampNeg) (congrArg Prod.fst he9)) hw hS dU_work_75
    · exact absurd g1 h2
def C_U_compare (md : Int32) (fl : Int32) (rg : Nat → Int64) (z1 : Bool) (k2 : Int32) (k3 : Int32) (k4 : Int32) : Int32 :=
  if (C_F_isNone (C_U_format z1) (rg k2.toNatClampNeg)) = false then
    if (C_F_isNone (C_U_format z1) (rg k3.toNatClampNeg)) = false then
      if (C_F_rank (C_U_format z1) (rg k2.toNatClampNeg)) = (C_F_rank (C_U_format z1) (rg k3.toNatClampNeg)) then
        0
      else
        if (C_F_rank (C_U_format z1) (rg k3.toNatClampNeg)) ≤ (C_F_rank (C_U_format z1) (rg k2.toNatClampNeg)) then
          1
        else
          (-1)
    else
      k4
  else
    k4
abbrev rmU_compare : Room := { frames := 2, cells := 0, slots := 0, locals := 44 }
theorem cwU_compare {R : Room} {s : State} {args : Array Value} {w0 : Cond} {own : String} {idx : Nat} (hts : ∀ w ∈ (w0 :: bigW), w.before args s = true) (hl : Cond.methodLink own idx yU_compare ∈ bigW) (hR : rmU_compare.frames + 1 ≤ R.frames ∧ 8 + (10 + 11) + rmU_compare.locals ≤ R.locals) : CallW R s args own "FloatUnit" idx yU_compare cU_compare 10 (some .int) (wsM yU_compare cU_compare 10 (some .int)) rmU_compare 0 0 4 :=
  cwV 4 hts (big_V hl w_283 w_284 w_1 w_285) rfl rfl rfl ⟨rfl, by decide, by decide, by decide +kernel⟩ hR
set_option maxRecDepth 100000 in
set_option maxHeartbeats 8000000 in
theorem c_U_compare (l : Launch) (ad : Nat → Nat) (D : va_G) (cA : ClassId) (h0 r0 : Nat) (md fl : Int32) (rg : Nat → Int64) (z1 : Bool) (k2 : Int32) (k3 : Int32) (k4 : Int32) (h_k2 : vp_in k2 16) (h_k3 : vp_in k3 16) : FuM l ad D cA h0 r0 yU_compare (wsM yU_compare cU_compare 10 (some .int)) rmU_compare [.int (bI z1), .int k2, .int k3, .int k4] md fl rg (some (.int (C_U_compare md fl rg z1 k2 k3 k4))) md fl rg := by
  refine fu_ofI (cc := cU_compare) (maxL := 10) (by decide) rfl (Nat.le_of_ble_eq_true rfl) ?_
  intro p e s m args below meth c Q hx hb hml hown hts hF H locs hS hw hret ls hl
  have hl : lv_has ls 10 [(0, .ref h0), (1, .int (bI z1)), (2, .int k2), (3, .int k3), (4, .int k4)] := hl
  refine lv_iload_n (pc := 0) hx hb dU_compare_0 rfl (lv_at hl 2 rfl) ?_
  refine pu_Sv (pc := 1) (rest := []) ⟨hx, hb, hml, hown, hts⟩ (c_U_requireRegister l ad h_k2) (cwU_requireRegister hts w_41 ⟨by decide, by decide⟩) hF hS rfl hl.1 rfl (Nat.le_of_ble_eq_true rfl) dU_compare_1 ⟨Nat.zero_le _, Nat.zero_le _⟩ ?_
  refine lv_iload_n (pc := 4) hx hb dU_compare_4 rfl (lv_at hl 3 rfl) ?_
  refine pu_Sv (pc := 5) (rest := []) ⟨hx, hb, hml, hown, hts⟩ (c_U_requireRegister l ad h_k3) (cwU_requireRegister hts w_41 ⟨by decide, by decide⟩) hF hS rfl hl.1 rfl (Nat.le_of_ble_eq_true rfl) dU_compare_5 ⟨Nat.zero_le _, Nat.zero_le _⟩ ?_
  refine lv_iload_n (pc := 8) hx hb dU_compare_8 rfl (lv_at hl 1 rfl) ?_
  refine pu_S (pc := 9) (rest := []) ⟨hx, hb, hml, hown, hts⟩ (c_U_format l ad z1) (cwU_format hts w_133 ⟨by decide, by decide⟩) hF hS rfl hl.1 rfl (Nat.le_of_ble_eq_true rfl) dU_compare_9 ⟨Nat.zero_le _, Nat.zero_le _⟩ ?_
  refine lv_astore (lv' := [(5, .ref (ad (C_U_format z1))), (0, .ref h0), (1, .int (bI z1)), (2, .int k2), (3, .int k3), (4, .int k4)]) (pc := 12) hx hb dU_compare_12 hl (by decide) rfl (fun ls hl => ?_)
  refine lv_aload (pc := 14) hx hb dU_compare_14 (lv_at hl 0 rfl) ?_
  refine lv_aload_n (pc := 16) hx hb dU_compare_16 rfl (lv_at hl 1 rfl) ?_
  refine fu_rg (pc := 17) hx hb hts hown hw w_18 dU_compare_17 ?_
  refine lv_iload_n (pc := 20) hx hb dU_compare_20 rfl (lv_at hl 3 rfl) ?_
  refine fu_ld (pc := 21) hx hb hw h_k2 dU_compare_21 ?_
  refine pu_V (pc := 22) (i := C_U_format z1) (rest := []) ⟨hx, hb, hml, hown, hts⟩ (fmt_lt _) (c_F_isNone l ad (fmt_lt _) (rg k2.toNatClampNeg)) (cwF_isNone hts w_148 ⟨by decide, by decide⟩) hF hS rfl hl.1 rfl (Nat.le_of_ble_eq_true rfl) dU_compare_22 ⟨Nat.zero_le _, Nat.zero_le _⟩ ?_
  refine lv_if_ne (tgt := 42) (pc := 25) hx hb dU_compare_25 (by decide) (fun h1 => ?_) (fun h1 => ?_)
  · skip
    have h1 : ¬ ((C_F_isNone (C_U_format z1) (rg k2.toNatClampNeg)) = false) := fun q => h1 ((bI_0 _).2 q)
    refine lv_iload (pc := 42) hx hb dU_compare_42 (lv_at hl 5 rfl) ?_
    exact hret _ _ _ _ _ _ _ _ (show k4 = C_U_compare md fl rg z1 k2 k3 k4 from by rw [C_U_compare, if_neg h1]) rfl rfl rfl hw hS dU_compare_44
  · skip
    have h1 : (C_F_isNone (C_U_format z1) (rg k2.toNatClampNeg)) = false := (bI_0 _).1 h1
    refine lv_aload (pc := 28) hx hb dU_compare_28 (lv_at hl 0 rfl) ?_
    refine lv_aload_n (pc := 30) hx hb dU_compare_30 rfl (lv_at hl 1 rfl) ?_
    refine fu_rg (pc := 31) hx hb hts hown hw w_18 dU_compare_31 ?_
    refine lv_iload_n (pc := 34) hx hb dU_compare_34 rfl (lv_at hl 4 rfl) ?_
    refine fu_ld (pc := 35) hx hb hw h_k3 dU_compare_35 ?_
    refine pu_V (pc := 36) (i := C_U_format z1) (rest := []) ⟨hx, hb, hml, hown, hts⟩ (fmt_lt _) (c_F_isNone l ad (fmt_lt _) (rg k3.toNatClampNeg)) (cwF_isNone hts w_148 ⟨by decide, by decide⟩) hF hS rfl hl.1 rfl (Nat.le_of_ble_eq_true rfl) dU_compare_36 ⟨Nat.zero_le _, Nat.zero_le _⟩ ?_
    refine lv_if_eq (tgt := 45) (pc := 39) hx hb dU_compare_39 (by decide) (fun h2 => ?_) (fun h2 => ?_)
    · skip
      have h2 : (C_F_isNone (C_U_format z1) (rg k3.toNatClampNeg)) = false := (bI_0 _).1 h2
      refine lv_aload (pc := 45) hx hb dU_compare_45 (lv_at hl 0 rfl) ?_
      refine lv_aload_n (pc := 47) hx hb dU_compare_47 rfl (lv_at hl 1 rfl) ?_
      refine fu_rg (pc := 48) hx hb hts hown hw w_18 dU_compare_48 ?_
      refine lv_iload_n (pc := 51) hx hb dU_compare_51 rfl (lv_at hl 3 rfl) ?_
      refine fu_ld (pc := 52) hx hb hw h_k2 dU_compare_52 ?_
      refine pu_V (pc := 53) (i := C_U_format z1) (rest := []) ⟨hx, hb, hml, hown, hts⟩ (fmt_lt _) (c_F_rank l ad (fmt_lt _) (rg k2.toNatClampNeg)) (cwF_rank hts w_286 ⟨by decide, by decide⟩) hF hS rfl hl.1 rfl (Nat.le_of_ble_eq_true rfl) dU_compare_53 ⟨Nat.zero_le _, Nat.zero_le _⟩ ?_
      refine lv_lstore (lv' := [(6, .long (C_F_rank (C_U_format z1) (rg k2.toNatClampNeg))), (5, .ref (ad (C_U_format z1))), (0, .ref h0), (1, .int (bI z1)), (2, .int k2), (3, .int k3), (4, .int k4)]) (pc := 56) hx hb dU_compare_56 hl (by decide) rfl (fun ls hl => ?_)
      refine lv_aload (pc := 58) hx hb dU_compare_58 (lv_at hl 1 rfl) ?_
      refine lv_aload_n (pc := 60) hx hb dU_compare_60 rfl (lv_at hl 2 rfl) ?_
      refine fu_rg (pc := 61) hx hb hts hown hw w_18 dU_compare_61 ?_
      refine lv_iload_n (pc := 64) hx hb dU_compare_64 rfl (lv_at hl 5 rfl) ?_
      refine fu_ld (pc := 65) hx hb hw h_k3 dU_compare_65 ?_
      refine pu_V (pc := 66) (i := C_U_format z1) (rest := []) ⟨hx, hb, hml, hown, hts⟩ (fmt_lt _) (c_F_rank l ad (fmt_lt _) (rg k3.toNatClampNeg)) (cwF_rank hts w_286 ⟨by decide, by decide⟩) hF hS rfl hl.1 rfl (Nat.le_of_ble_eq_true rfl) dU_compare_66 ⟨Nat.zero_le _, Nat.zero_le _⟩ ?_
      refine lv_lstore (lv' := [(8, .long (C_F_rank (C_U_format z1) (rg k3.toNatClampNeg))), (6, .long (C_F_rank (C_U_format z1) (rg k2.toNatClampNeg))), (5, .ref (ad (C_U_format z1))), (0, .ref h0), (1, .int (bI z1)), (2, .int k2), (3, .int k3), (4, .int k4)]) (pc := 69) hx hb dU_compare_69 hl (by decide) rfl (fun ls hl => ?_)
      refine lv_lload (pc := 71) hx hb dU_compare_71 (lv_at hl 1 rfl) ?_
      refine lv_lload (pc := 73) hx hb dU_compare_73 (lv_at hl 0 rfl) ?_
      refine W.lcmp (pc := 75) hx hb dU_compare_75 ?_
      refine lv_if_ne (tgt := 81) (pc := 76) hx hb dU_compare_76 (by decide) (fun h3 => ?_) (fun h3 => ?_)
      · skip
        have h3 : ¬ ((C_F_rank (C_U_format z1) (rg k2.toNatClampNeg)) = (C_F_rank (C_U_format z1) (rg k3.toNatClampNeg))) := fun q => h3 ((lg_cmp_eq _ _).2 q)
        refine lv_lload (pc := 81) hx hb dU_compare_81 (lv_at hl 1 rfl) ?_
        refine lv_lload (pc := 83) hx hb dU_compare_83 (lv_at hl 0 rfl) ?_
        refine W.lcmp (pc := 85) hx hb dU_compare_85 ?_
        refine lv_if_ge (tgt := 93) (pc := 86) hx hb dU_compare_86 (by decide) (fun h4 => ?_) (fun h4 => ?_)
        · skip
          have h4 : (C_F_rank (C_U_format z1) (rg k3.toNatClampNeg)) ≤ (C_F_rank (C_U_format z1) (rg k2.toNatClampNeg)) := (lg_cmp_ge _ _).1 h4
          refine lv_iconst (v := 1) (pc := 93) hx hb dU_compare_93 (by decide) ?_
          exact hret _ _ _ _ _ _ _ _ (show 1 = C_U_compare md fl rg z1 k2 k3 k4 from by rw [C_U_compare, if_pos h1, if_pos h2, if_neg h3, if_pos h4]) rfl rfl rfl hw hS dU_compare_94
        · skip
          have h4 : ¬ ((C_F_rank (C_U_format z1) (rg k3.toNatClampNeg)) ≤ (C_F_rank (C_U_format z1) (rg k2.toNatClampNeg))) := fun q => h4 ((lg_cmp_ge _ _).2 q)
          refine lv_iconst (v := (-1)) (pc := 89) hx hb dU_compare_89 (by decide) ?_
          refine lv_goto (tgt := 94) (pc := 90) hx hb dU_compare_90 (by decide) ?_
          exact hret _ _ _ _ _ _ _ _ (show (-1) = C_U_compare md fl rg z1 k2 k3 k4 from by rw [C_U_compare, if_pos h1, if_pos h2, if_neg h3, if_neg h4]) rfl rfl rfl hw hS dU_compare_94
      · skip
        have h3 : (C_F_rank (C_U_format z1) (rg k2.toNatClampNeg)) = (C_F_rank (C_U_format z1) (rg k3.toNatClampNeg)) := (lg_cmp_eq _ _).1 h3
        refine lv_iconst (v := 0) (pc := 79) hx hb dU_compare_79 (by decide) ?_
        exact hret _ _ _ _ _ _ _ _ (show 0 = C_U_compare md fl rg z1 k2 k3 k4 from by rw [C_U_compare, if_pos h1, if_pos h2, if_pos h3]) rfl rfl rfl hw hS dU_compare_80
    · skip
      have h2 : ¬ ((C_F_isNone (C_U_format z1) (rg k3.toNatClampNeg)) = false) := fun q => h2 ((bI_0 _).2 q)
      refine lv_iload (pc := 42) hx hb dU_compare_42 (lv_at hl 5 rfl) ?_
      exact hret _ _ _ _ _ _ _ _ (show k4 = C_U_compare md fl rg z1 k2 k3 k4 from by rw [C_U_compare, if_pos h1, if_neg h2]) rfl rfl rfl hw hS dU_compare_44
def C_U_of (md : Int32) (fl : Int32) (rg : Nat → Int64) (z1 : Bool) (k2 : Int32) (x3 : Int64) : Int64 × Int32 :=
  if x3 = 0 then
    (C_F_zero (C_U_format z1) false, fl)
  else
    if 0 ≤ x3 then
      ((C_U_rounded md fl (C_U_format z1) false x3 0).1, (C_U_rounded md fl (C_U_format z1) false x3 0).2)
    else
      ((C_U_rounded md fl (C_U_format z1) true (-x3) 0).1, (C_U_rounded md fl (C_U_format z1) true (-x3) 0).2)
abbrev rmU_of : Room := { frames := 4, cells := 0, slots := 0, locals := 104 }
theorem cwU_of {R : Room} {s : State} {args : Array Value} {w0 : Cond} {own : String} {idx : Nat} (hts : ∀ w ∈ (w0 :: bigW), w.before args s = true) (hl : Cond.methodLink own idx yU_of ∈ bigW) (hR : rmU_of.frames + 1 ≤ R.frames ∧ 8 + (6 + 11) + rmU_of.locals ≤ R.locals) : CallW R s args own "FloatUnit" idx yU_of cU_of 6 (some .long) (wsM yU_of cU_of 6 (some .long)) rmU_of 0 0 3 :=
  cwV 3 hts (big_V hl w_295 w_296 w_1 w_297) rfl rfl rfl ⟨rfl, by decide, by decide, by decide +kernel⟩ hR
set_option maxRecDepth 100000 in
set_option maxHeartbeats 8000000 in
theorem c_U_of (l : Launch) (ad : Nat → Nat) (D : va_G) (cA : ClassId) (h0 r0 : Nat) (md fl : Int32) (rg : Nat → Int64) (z1 : Bool) (k2 : Int32) (x3 : Int64) (h_k2 : vp_in k2 16) : FuM l ad D cA h0 r0 yU_of (wsM yU_of cU_of 6 (some .long)) rmU_of [.int (bI z1), .int k2, .long x3] md fl rg (some (.long ((C_U_of md fl rg z1 k2 x3).1))) md (C_U_of md fl rg z1 k2 x3).2 (vp_updL rg k2.toNatClampNeg (C_U_of md fl rg z1 k2 x3).1) := by
  refine fu_ofL (cc := cU_of) (maxL := 6) (by decide) rfl (Nat.le_of_ble_eq_true rfl) ?_
  intro p e s m args below meth c Q hx hb hml hown hts hF H locs hS hw hret ls hl
  have hl : lv_has ls 6 [(0, .ref h0), (1, .int (bI z1)), (2, .int k2), (3, .long x3)] := hl
  refine lv_iload_n (pc := 0) hx hb dU_of_0 rfl (lv_at hl 2 rfl) ?_
  refine pu_Sv (pc := 1) (rest := []) ⟨hx, hb, hml, hown, hts⟩ (c_U_requireRegister l ad h_k2) (cwU_requireRegister hts w_41 ⟨by decide, by decide⟩) hF hS rfl hl.1 rfl (Nat.le_of_ble_eq_true rfl) dU_of_1 ⟨Nat.zero_le _, Nat.zero_le _⟩ ?_
  refine lv_iload_n (pc := 4) hx hb dU_of_4 rfl (lv_at hl 1 rfl) ?_
  refine pu_S (pc := 5) (rest := []) ⟨hx, hb, hml, hown, hts⟩ (c_U_format l ad z1) (cwU_format hts w_133 ⟨by decide, by decide⟩) hF hS rfl hl.1 rfl (Nat.le_of_ble_eq_true rfl) dU_of_5 ⟨Nat.zero_le _, Nat.zero_le _⟩ ?_
  refine lv_astore (lv' := [(5, .ref (ad (C_U_format z1))), (0, .ref h0), (1, .int (bI z1)), (2, .int k2), (3, .long x3)]) (pc := 8) hx hb dU_of_8 hl (by decide) rfl (fun ls hl => ?_)
  refine lv_lload_n (pc := 10) hx hb dU_of_10 rfl (lv_at hl 4 rfl) ?_
  refine lv_lconst (v := 0) (pc := 11) hx hb dU_of_11 (by decide) ?_
  refine W.lcmp (pc := 12) hx hb dU_of_12 ?_
  refine lv_if_ne (tgt := 28) (pc := 13) hx hb dU_of_13 (by decide) (fun h1 => ?_) (fun h1 => ?_)
  · skip
    have h1 : ¬ (x3 = 0) := fun q => h1 ((lg_cmp_eq _ _).2 q)
    refine lv_aload_n (pc := 28) hx hb dU_of_28 rfl (lv_at hl 1 rfl) ?_
    refine lv_iload_n (pc := 29) hx hb dU_of_29 rfl (lv_at hl 3 rfl) ?_
    refine lv_aload_n (pc := 30) hx hb dU_of_30 rfl (lv_at hl 1 rfl) ?_
    refine lv_aload (pc := 31) hx hb dU_of_31 (lv_at hl 0 rfl) ?_
    refine lv_lload_n (pc := 33) hx hb dU_of_33 rfl (lv_at hl 4 rfl) ?_
    refine lv_lconst (v := 0) (pc := 34) hx hb dU_of_34 (by decide) ?_
    refine W.lcmp (pc := 35) hx hb dU_of_35 ?_
    refine lv_if_ge (tgt := 43) (pc := 36) hx hb dU_of_36 (by decide) (fun h2 => ?_) (fun h2 => ?_)
    · skip
      have h2 : 0 ≤ x3 := (lg_cmp_ge _ _).1 h2
      refine lv_iconst (v := 0) (pc := 43) hx hb dU_of_43 (by decide) ?_
      refine lv_lload_n (pc := 44) hx hb dU_of_44 rfl (lv_at hl 4 rfl) ?_
      refine lv_lconst (v := 0) (pc := 45) hx hb dU_of_45 (by decide) ?_
      refine W.lcmp (pc := 46) hx hb dU_of_46 ?_
      refine lv_if_ge (tgt := 55) (pc := 47) hx hb dU_of_47 (by decide) (fun h3 => ?_) (fun h3 => ?_)
      · skip
        refine lv_lload_n (pc := 55) hx hb dU_of_55 rfl (lv_at hl 4 rfl) ?_
        refine lv_iconst (v := 0) (pc := 56) hx hb dU_of_56 (by decide) ?_
        refine fu_V (pc := 57) (rest := [.int k2, .ref h0]) ⟨hx, hb, hml, hown, hts⟩ (c_U_rounded l ad D cA h0 r0 (fmt_lt _) md fl rg false x3 0) (cwU_rounded hts w_221 ⟨by decide, by decide⟩) hF hw hS rfl hl.1 rfl (Nat.le_of_ble_eq_true rfl) dU_of_57 ⟨Nat.zero_le _, Nat.zero_le _⟩ (fun H locs hw hS => ?_)
        refine W.eq (g2 := F0 m 60 ls [.long ((C_U_rounded md fl (C_U_format z1) false x3 0).1), .int k2, .ref h0]) rfl ?_
        refine fu_V (pc := 60) (rest := []) ⟨hx, hb, hml, hown, hts⟩ (c_U_keep l ad D cA h0 r0 md ((C_U_rounded md fl (C_U_format z1) false x3 0).2) rg k2 ((C_U_rounded md fl (C_U_format z1) false x3 0).1) h_k2) (cwU_keep hts w_275 ⟨by decide, by decide⟩) hF hw hS rfl hl.1 rfl (Nat.le_of_ble_eq_true rfl) dU_of_60 ⟨Nat.zero_le _, Nat.zero_le _⟩ (fun H locs hw hS => ?_)
        refine W.eq (g2 := F0 m 63 ls [.long ((C_U_rounded md fl (C_U_format z1) false x3 0).1)]) rfl ?_
        have he9 := (show ((C_U_rounded md fl (C_U_format z1) false x3 0).1, (C_U_rounded md fl (C_U_format z1) false x3 0).2) = C_U_of md fl rg z1 k2 x3 from by rw [C_U_of, if_neg h1, if_pos h2])
        exact hret _ _ _ _ _ _ _ _ (congrArg Prod.fst he9) rfl (congrArg Prod.snd he9) (congrArg (vp_updL rg k2.toNatClampNeg) (congrArg Prod.fst he9)) hw hS dU_of_63
      · exact absurd h2 (fun q => h3 ((lg_cmp_ge _ _).2 q))
    · skip
      have h2 : ¬ (0 ≤ x3) := fun q => h2 ((lg_cmp_ge _ _).2 q)
      refine lv_iconst (v := 1) (pc := 39) hx hb dU_of_39 (by decide) ?_
      refine lv_goto (tgt := 44) (pc := 40) hx hb dU_of_40 (by decide) ?_
      refine lv_lload_n (pc := 44) hx hb dU_of_44 rfl (lv_at hl 4 rfl) ?_
      refine lv_lconst (v := 0) (pc := 45) hx hb dU_of_45 (by decide) ?_
      refine W.lcmp (pc := 46) hx hb dU_of_46 ?_
      refine lv_if_ge (tgt := 55) (pc := 47) hx hb dU_of_47 (by decide) (fun h4 => ?_) (fun h4 => ?_)
      · exact absurd ((lg_cmp_ge _ _).1 h4) h2
      · skip
        refine lv_lload_n (pc := 50) hx hb dU_of_50 rfl (lv_at hl 4 rfl) ?_
        refine lv_lneg (pc := 51) hx hb dU_of_51 ?_
        refine lv_goto (tgt := 56) (pc := 52) hx hb dU_of_52 (by decide) ?_
        refine lv_iconst (v := 0) (pc := 56) hx hb dU_of_56 (by decide) ?_
        refine fu_V (pc := 57) (rest := [.int k2, .ref h0]) ⟨hx, hb, hml, hown, hts⟩ (c_U_rounded l ad D cA h0 r0 (fmt_lt _) md fl rg true (-x3) 0) (cwU_rounded hts w_221 ⟨by decide, by decide⟩) hF hw hS rfl hl.1 rfl (Nat.le_of_ble_eq_true rfl) dU_of_57 ⟨Nat.zero_le _, Nat.zero_le _⟩ (fun H locs hw hS => ?_)
        refine W.eq (g2 := F0 m 60 ls [.long ((C_U_rounded md fl (C_U_format z1) true (-x3) 0).1), .int k2, .ref h0]) rfl ?_
        refine fu_V (pc := 60) (rest := []) ⟨hx, hb, hml, hown, hts⟩ (c_U_keep l ad D cA h0 r0 md ((C_U_rounded md fl (C_U_format z1) true (-x3) 0).2) rg k2 ((C_U_rounded md fl (C_U_format z1) true (-x3) 0).1) h_k2) (cwU_keep hts w_275 ⟨by decide, by decide⟩) hF hw hS rfl hl.1 rfl (Nat.le_of_ble_eq_true rfl) dU_of_60 ⟨Nat.zero_le _, Nat.zero_le _⟩ (fun H locs hw hS => ?_)
        refine W.eq (g2 := F0 m 63 ls [.long ((C_U_rounded md fl (C_U_format z1) true (-x3) 0).1)]) rfl ?_
        have he9 := (show ((C_U_rounded md fl (C_U_format z1) true (-x3) 0).1, (C_U_rounded md fl (C_U_format z1) true (-x3) 0).2) = C_U_of md fl rg z1 k2 x3 from by rw [C_U_of, if_neg h1, if_neg h2])
        exact hret _ _ _ _ _ _ _ _ (congrArg Prod.fst he9) rfl (congrArg Prod.snd he9) (congrArg (vp_updL rg k2.toNatClampNeg) (congrArg Prod.fst he9)) hw hS dU_of_63
  · skip
    have h1 : x3 = 0 := (lg_cmp_eq _ _).1 h1
    refine lv_aload_n (pc := 16) hx hb dU_of_16 rfl (lv_at hl 1 rfl) ?_
    refine lv_iload_n (pc := 17) hx hb dU_of_17 rfl (lv_at hl 3 rfl) ?_
    refine lv_aload (pc := 18) hx hb dU_of_18 (lv_at hl 0 rfl) ?_
    refine lv_iconst (v := 0) (pc := 20) hx hb dU_of_20 (by decide) ?_
    refine pu_V (pc := 21) (i := C_U_format z1) (rest := [.int k2, .ref h0]) ⟨hx, hb, hml, hown, hts⟩ (fmt_lt _) (c_F_zero l ad (fmt_lt _) false) (cwF_zero hts w_213 ⟨by decide, by decide⟩) hF hS rfl hl.1 rfl (Nat.le_of_ble_eq_true rfl) dU_of_21 ⟨Nat.zero_le _, Nat.zero_le _⟩ ?_
    refine fu_V (pc := 24) (rest := []) ⟨hx, hb, hml, hown, hts⟩ (c_U_keep l ad D cA h0 r0 md fl rg k2 (C_F_zero (C_U_format z1) false) h_k2) (cwU_keep hts w_275 ⟨by decide, by decide⟩) hF hw hS rfl hl.1 rfl (Nat.le_of_ble_eq_true rfl) dU_of_24 ⟨Nat.zero_le _, Nat.zero_le _⟩ (fun H locs hw hS => ?_)
    refine W.eq (g2 := F0 m 27 ls [.long (C_F_zero (C_U_format z1) false)]) rfl ?_
    have he9 := (show (C_F_zero (C_U_format z1) false, fl) = C_U_of md fl rg z1 k2 x3 from by rw [C_U_of, if_pos h1])
    exact hret _ _ _ _ _ _ _ _ (congrArg Prod.fst he9) rfl (congrArg Prod.snd he9) (congrArg (vp_updL rg k2.toNatClampNeg) (congrArg Prod.fst he9)) hw hS dU_of_27
def C_U_whole (md : Int32) (fl : Int32) (rg : Nat → Int64) (z1 : Bool) (k2 : Int32) (z3 : Bool) : Int64 × Int32 :=
  if (C_F_isNone (C_U_format z1) (rg k2.toNatClampNeg)) = false then
    if z3 = false then
      if (C_F_isMinus (C_U_format z1) (rg k2.toNatClampNeg)) = false then
        ((C_U_cut md fl (C_U_format z1) (rg k2.toNatClampNeg) 9223372036854775807).1, (C_U_cut md fl (C_U_format z1) (rg k2.toNatClampNeg) 9223372036854775807).2)
      else
        (-((C_U_cut md fl (C_U_format z1) (rg k2.toNatClampNeg) (9223372036854775807 + 1)).1), (C_U_cut md fl (C_U_format z1) (rg k2.toNatClampNeg) (9223372036854775807 + 1)).2)
    else
      if (C_F_isMinus (C_U_format z1) (rg k2.toNatClampNeg)) = false then
        ((C_U_cut md fl (C_U_format z1) (rg k2.toNatClampNeg) 2147483647).1, (C_U_cut md fl (C_U_format z1) (rg k2.toNatClampNeg) 2147483647).2)
      else
        (-((C_U_cut md fl (C_U_format z1) (rg k2.toNatClampNeg) (2147483647 + 1)).1), (C_U_cut md fl (C_U_format z1) (rg k2.toNatClampNeg) (2147483647 + 1)).2)
  else
    (0, C_U_raise md fl 16)
abbrev rmU_whole : Room := { frames := 4, cells := 0, slots := 0, locals := 100 }
theorem cwU_whole {R : Room} {s : State} {args : Array Value} {w0 : Cond} {own : String} {idx : Nat} (hts : ∀ w ∈ (w0 :: bigW), w.before args s = true) (hl : Cond.methodLink own idx yU_whole ∈ bigW) (hR : rmU_whole.frames + 1 ≤ R.frames ∧ 8 + (14 + 11) + rmU_whole.locals ≤ R.locals) : CallW R s args own "FloatUnit" idx yU_whole cU_whole 14 (some .long) (wsM yU_whole cU_whole 14 (some .long)) rmU_whole 0 0 3 :=
  cwV 3 hts (big_V hl w_302 w_303 w_1 w_304) rfl rfl rfl ⟨rfl, by decide, by decide, by decide +kernel⟩ hR
set_option maxRecDepth 100000 in
set_option maxHeartbeats 8000000 in
theorem c_U_whole (l : Launch) (ad : Nat → Nat) (D : va_G) (cA : ClassId) (h0 r0 : Nat) (md fl : Int32) (rg : Nat → Int64) (z1 : Bool) (k2 : Int32) (z3 : Bool) (h_k2 : vp_in k2 16) : FuM l ad D cA h0 r0 yU_whole (wsM yU_whole cU_whole 14 (some .long)) rmU_whole [.int (bI z1), .int k2, .int (bI z3)] md fl rg (some (.long ((C_U_whole md fl rg z1 k2 z3).1))) md (C_U_whole md fl rg z1 k2 z3).2 rg := by
  refine fu_ofL (cc := cU_whole) (maxL := 14) (by decide) rfl (Nat.le_of_ble_eq_true rfl) ?_
  intro p e s m args below meth c Q hx hb hml hown hts hF H locs hS hw hret ls hl
  have hl : lv_has ls 14 [(0, .ref h0), (1, .int (bI z1)), (2, .int k2), (3, .int (bI z3))] := hl
  refine lv_iload_n (pc := 0) hx hb dU_whole_0 rfl (lv_at hl 2 rfl) ?_
  refine pu_Sv (pc := 1) (rest := []) ⟨hx, hb, hml, hown, hts⟩ (c_U_requireRegister l ad h_k2) (cwU_requireRegister hts w_41 ⟨by decide, by decide⟩) hF hS rfl hl.1 rfl (Nat.le_of_ble_eq_true rfl) dU_whole_1 ⟨Nat.zero_le _, Nat.zero_le _⟩ ?_
  refine lv_iload_n (pc := 4) hx hb dU_whole_4 rfl (lv_at hl 1 rfl) ?_
  refine pu_S (pc := 5) (rest := []) ⟨hx, hb, hml, hown, hts⟩ (c_U_format l ad z1) (cwU_format hts w_133 ⟨by decide, by decide⟩) hF hS rfl hl.1 rfl (Nat.le_of_ble_eq_true rfl) dU_whole_5 ⟨Nat.zero_le _, Nat.zero_le _⟩ ?_
  refine lv_astore (lv' := [(4, .ref (ad (C_U_format z1))), (0, .ref h0), (1, .int (bI z1)), (2, .int k2), (3, .int (bI z3))]) (pc := 8) hx hb dU_whole_8 hl (by decide) rfl (fun ls hl => ?_)
  refine lv_aload_n (pc := 10) hx hb dU_whole_10 rfl (lv_at hl 1 rfl) ?_
  refine fu_rg (pc := 11) hx hb hts hown hw w_18 dU_whole_11 ?_
  refine lv_iload_n (pc := 14) hx hb dU_whole_14 rfl (lv_at hl 3 rfl) ?_
  refine fu_ld (pc := 15) hx hb hw h_k2 dU_whole_15 ?_
  refine lv_lstore (lv' := [(5, .long (rg k2.toNatClampNeg)), (4, .ref (ad (C_U_format z1))), (0, .ref h0), (1, .int (bI z1)), (2, .int k2), (3, .int (bI z3))]) (pc := 16) hx hb dU_whole_16 hl (by decide) rfl (fun ls hl => ?_)
  refine lv_aload (pc := 18) hx hb dU_whole_18 (lv_at hl 1 rfl) ?_
  refine lv_lload (pc := 20) hx hb dU_whole_20 (lv_at hl 0 rfl) ?_
  refine pu_V (pc := 22) (i := C_U_format z1) (rest := []) ⟨hx, hb, hml, hown, hts⟩ (fmt_lt _) (c_F_isNone l ad (fmt_lt _) (rg k2.toNatClampNeg)) (cwF_isNone hts w_148 ⟨by decide, by decide⟩) hF hS rfl hl.1 rfl (Nat.le_of_ble_eq_true rfl) dU_whole_22 ⟨Nat.zero_le _, Nat.zero_le _⟩ ?_
  refine lv_if_eq (tgt := 36) (pc := 25) hx hb dU_whole_25 (by decide) (fun h1 => ?_) (fun h1 => ?_)
  · skip
    have h1 : (C_F_isNone (C_U_format z1) (rg k2.toNatClampNeg)) = false := (bI_0 _).1 h1
    refine lv_aload (pc := 36) hx hb dU_whole_36 (lv_at hl 1 rfl) ?_
    refine lv_lload (pc := 38) hx hb dU_whole_38 (lv_at hl 0 rfl) ?_
    refine pu_V (pc := 40) (i := C_U_format z1) (rest := []) ⟨hx, hb, hml, hown, hts⟩ (fmt_lt _) (c_F_isMinus l ad (fmt_lt _) (rg k2.toNatClampNeg)) (cwF_isMinus hts w_164 ⟨by decide, by decide⟩) hF hS rfl hl.1 rfl (Nat.le_of_ble_eq_true rfl) dU_whole_40 ⟨Nat.zero_le _, Nat.zero_le _⟩ ?_
    refine lv_istore (lv' := [(7, .int (bI (C_F_isMinus (C_U_format z1) (rg k2.toNatClampNeg)))), (5, .long (rg k2.toNatClampNeg)), (4, .ref (ad (C_U_format z1))), (0, .ref h0), (1, .int (bI z1)), (2, .int k2), (3, .int (bI z3))]) (pc := 43) hx hb dU_whole_43 hl (by decide) rfl (fun ls hl => ?_)
    refine lv_iload_n (pc := 45) hx hb dU_whole_45 rfl (lv_at hl 6 rfl) ?_
    refine lv_if_eq (tgt := 55) (pc := 46) hx hb dU_whole_46 (by decide) (fun h2 => ?_) (fun h2 => ?_)
    · skip
      have h2 : z3 = false := (bI_0 _).1 h2
      refine lv_ldc2 (v := 9223372036854775807) (pc := 55) hx hb hown (hts _ (List.mem_cons_of_mem _ w_306)) dU_whole_55 ?_
      refine lv_lstore (lv' := [(8, .long 9223372036854775807), (7, .int (bI (C_F_isMinus (C_U_format z1) (rg k2.toNatClampNeg)))), (5, .long (rg k2.toNatClampNeg)), (4, .ref (ad (C_U_format z1))), (0, .ref h0), (1, .int (bI z1)), (2, .int k2), (3, .int (bI z3))]) (pc := 58) hx hb dU_whole_58 hl (by decide) rfl (fun ls hl => ?_)
      refine lv_iload (pc := 60) hx hb dU_whole_60 (lv_at hl 1 rfl) ?_
      refine lv_if_eq (tgt := 72) (pc := 62) hx hb dU_whole_62 (by decide) (fun h3 => ?_) (fun h3 => ?_)
      · skip
        have h3 : (C_F_isMinus (C_U_format z1) (rg k2.toNatClampNeg)) = false := (bI_0 _).1 h3
        refine lv_lload (pc := 72) hx hb dU_whole_72 (lv_at hl 0 rfl) ?_
        refine lv_lstore (lv' := [(10, .long 9223372036854775807), (8, .long 9223372036854775807), (7, .int (bI (C_F_isMinus (C_U_format z1) (rg k2.toNatClampNeg)))), (5, .long (rg k2.toNatClampNeg)), (4, .ref (ad (C_U_format z1))), (0, .ref h0), (1, .int (bI z1)), (2, .int k2), (3, .int (bI z3))]) (pc := 74) hx hb dU_whole_74 hl (by decide) rfl (fun ls hl => ?_)
        refine lv_aload_n (pc := 76) hx hb dU_whole_76 rfl (lv_at hl 5 rfl) ?_
        refine lv_aload (pc := 77) hx hb dU_whole_77 (lv_at hl 4 rfl) ?_
        refine lv_lload (pc := 79) hx hb dU_whole_79 (lv_at hl 3 rfl) ?_
        refine lv_lload (pc := 81) hx hb dU_whole_81 (lv_at hl 0 rfl) ?_
        refine fu_V (pc := 83) (rest := []) ⟨hx, hb, hml, hown, hts⟩ (c_U_cut l ad D cA h0 r0 (fmt_lt _) md fl rg (rg k2.toNatClampNeg) 9223372036854775807) (cwU_cut hts w_307 ⟨by decide, by decide⟩) hF hw hS rfl hl.1 rfl (Nat.le_of_ble_eq_true rfl) dU_whole_83 ⟨Nat.zero_le _, Nat.zero_le _⟩ (fun H locs hw hS => ?_)
        refine W.eq (g2 := F0 m 86 ls [.long ((C_U_cut md fl (C_U_format z1) (rg k2.toNatClampNeg) 9223372036854775807).1)]) rfl ?_
        refine lv_lstore (lv' := [(12, .long ((C_U_cut md fl (C_U_format z1) (rg k2.toNatClampNeg) 9223372036854775807).1)), (10, .long 9223372036854775807), (8, .long 9223372036854775807), (7, .int (bI (C_F_isMinus (C_U_format z1) (rg k2.toNatClampNeg)))), (5, .long (rg k2.toNatClampNeg)), (4, .ref (ad (C_U_format z1))), (0, .ref h0), (1, .int (bI z1)), (2, .int k2), (3, .int (bI z3))]) (pc := 86) hx hb dU_whole_86 hl (by decide) rfl (fun ls hl => ?_)
        refine lv_iload (pc := 88) hx hb dU_whole_88 (lv_at hl 3 rfl) ?_
        refine lv_if_eq (tgt := 99) (pc := 90) hx hb dU_whole_90 (by decide) (fun h4 => ?_) (fun h4 => ?_)
        · skip
          refine lv_lload (pc := 99) hx hb dU_whole_99 (lv_at hl 0 rfl) ?_
          have he9 := (show ((C_U_cut md fl (C_U_format z1) (rg k2.toNatClampNeg) 9223372036854775807).1, (C_U_cut md fl (C_U_format z1) (rg k2.toNatClampNeg) 9223372036854775807).2) = C_U_whole md fl rg z1 k2 z3 from by rw [C_U_whole, if_pos h1, if_pos h2, if_pos h3])
          exact hret _ _ _ _ _ _ _ _ (congrArg Prod.fst he9) rfl (congrArg Prod.snd he9) rfl hw hS dU_whole_101
        · exact absurd h3 (fun q => h4 ((bI_0 _).2 q))
      · skip
        have h3 : ¬ ((C_F_isMinus (C_U_format z1) (rg k2.toNatClampNeg)) = false) := fun q => h3 ((bI_0 _).2 q)
        refine lv_lload (pc := 65) hx hb dU_whole_65 (lv_at hl 0 rfl) ?_
        refine lv_lconst (v := 1) (pc := 67) hx hb dU_whole_67 (by decide) ?_
        refine lv_ladd (pc := 68) hx hb dU_whole_68 ?_
        refine lv_goto (tgt := 74) (pc := 69) hx hb dU_whole_69 (by decide) ?_
        refine lv_lstore (lv' := [(10, .long (9223372036854775807 + 1)), (8, .long 9223372036854775807), (7, .int (bI (C_F_isMinus (C_U_format z1) (rg k2.toNatClampNeg)))), (5, .long (rg k2.toNatClampNeg)), (4, .ref (ad (C_U_format z1))), (0, .ref h0), (1, .int (bI z1)), (2, .int k2), (3, .int (bI z3))]) (pc := 74) hx hb dU_whole_74 hl (by decide) rfl (fun ls hl => ?_)
        refine lv_aload_n (pc := 76) hx hb dU_whole_76 rfl (lv_at hl 5 rfl) ?_
        refine lv_aload (pc := 77) hx hb dU_whole_77 (lv_at hl 4 rfl) ?_
        refine lv_lload (pc := 79) hx hb dU_whole_79 (lv_at hl 3 rfl) ?_
        refine lv_lload (pc := 81) hx hb dU_whole_81 (lv_at hl 0 rfl) ?_
        refine fu_V (pc := 83) (rest := []) ⟨hx, hb, hml, hown, hts⟩ (c_U_cut l ad D cA h0 r0 (fmt_lt _) md fl rg (rg k2.toNatClampNeg) (9223372036854775807 + 1)) (cwU_cut hts w_307 ⟨by decide, by decide⟩) hF hw hS rfl hl.1 rfl (Nat.le_of_ble_eq_true rfl) dU_whole_83 ⟨Nat.zero_le _, Nat.zero_le _⟩ (fun H locs hw hS => ?_)
        refine W.eq (g2 := F0 m 86 ls [.long ((C_U_cut md fl (C_U_format z1) (rg k2.toNatClampNeg) (9223372036854775807 + 1)).1)]) rfl ?_
        refine lv_lstore (lv' := [(12, .long ((C_U_cut md fl (C_U_format z1) (rg k2.toNatClampNeg) (9223372036854775807 + 1)).1)), (10, .long (9223372036854775807 + 1)), (8, .long 9223372036854775807), (7, .int (bI (C_F_isMinus (C_U_format z1) (rg k2.toNatClampNeg)))), (5, .long (rg k2.toNatClampNeg)), (4, .ref (ad (C_U_format z1))), (0, .ref h0), (1, .int (bI z1)), (2, .int k2), (3, .int (bI z3))]) (pc := 86) hx hb dU_whole_86 hl (by decide) rfl (fun ls hl => ?_)
        refine lv_iload (pc := 88) hx hb dU_whole_88 (lv_at hl 3 rfl) ?_
        refine lv_if_eq (tgt := 99) (pc := 90) hx hb dU_whole_90 (by decide) (fun h5 => ?_) (fun h5 => ?_)
        · exact absurd ((bI_0 _).1 h5) h3
        · skip
          refine lv_lload (pc := 93) hx hb dU_whole_93 (lv_at hl 0 rfl) ?_
          refine lv_lneg (pc := 95) hx hb dU_whole_95 ?_
          refine lv_goto (tgt := 101) (pc := 96) hx hb dU_whole_96 (by decide) ?_
          have he9 := (show (-((C_U_cut md fl (C_U_format z1) (rg k2.toNatClampNeg) (9223372036854775807 + 1)).1), (C_U_cut md fl (C_U_format z1) (rg k2.toNatClampNeg) (9223372036854775807 + 1)).2) = C_U_whole md fl rg z1 k2 z3 from by rw [C_U_whole, if_pos h1, if_pos h2, if_neg h3])
          exact hret _ _ _ _ _ _ _ _ (congrArg Prod.fst he9) rfl (congrArg Prod.snd he9) rfl hw hS dU_whole_101
    · skip
      have h2 : ¬ (z3 = false) := fun q => h2 ((bI_0 _).2 q)
      refine lv_ldc2 (v := 2147483647) (pc := 49) hx hb hown (hts _ (List.mem_cons_of_mem _ w_305)) dU_whole_49 ?_
      refine lv_goto (tgt := 58) (pc := 52) hx hb dU_whole_52 (by decide) ?_
      refine lv_lstore (lv' := [(8, .long 2147483647), (7, .int (bI (C_F_isMinus (C_U_format z1) (rg k2.toNatClampNeg)))), (5, .long (rg k2.toNatClampNeg)), (4, .ref (ad (C_U_format z1))), (0, .ref h0), (1, .int (bI z1)), (2, .int k2), (3, .int (bI z3))]) (pc := 58) hx hb dU_whole_58 hl (by decide) rfl (fun ls hl => ?_)
      refine lv_iload (pc := 60) hx hb dU_whole_60 (lv_at hl 1 rfl) ?_
      refine lv_if_eq (tgt := 72) (pc := 62) hx hb dU_whole_62 (by decide) (fun h6 => ?_) (fun h6 => ?_)
      · skip
        have h6 : (C_F_isMinus (C_U_format z1) (rg k2.toNatClampNeg)) = false := (bI_0 _).1 h6
        refine lv_lload (pc := 72) hx hb dU_whole_72 (lv_at hl 0 rfl) ?_
        refine lv_lstore (lv' := [(10, .long 2147483647), (8, .long 2147483647), (7, .int (bI (C_F_isMinus (C_U_format z1) (rg k2.toNatClampNeg)))), (5, .long (rg k2.toNatClampNeg)), (4, .ref (ad (C_U_format z1))), (0, .ref h0), (1, .int (bI z1)), (2, .int k2), (3, .int (bI z3))]) (pc := 74) hx hb dU_whole_74 hl (by decide) rfl (fun ls hl => ?_)
        refine lv_aload_n (pc := 76) hx hb dU_whole_76 rfl (lv_at hl 5 rfl) ?_
        refine lv_aload (pc := 77) hx hb dU_whole_77 (lv_at hl 4 rfl) ?_
        refine lv_lload (pc := 79) hx hb dU_whole_79 (lv_at hl 3 rfl) ?_
        refine lv_lload (pc := 81) hx hb dU_whole_81 (lv_at hl 0 rfl) ?_
        refine fu_V (pc := 83) (rest := []) ⟨hx, hb, hml, hown, hts⟩ (c_U_cut l ad D cA h0 r0 (fmt_lt _) md fl rg (rg k2.toNatClampNeg) 2147483647) (cwU_cut hts w_307 ⟨by decide, by decide⟩) hF hw hS rfl hl.1 rfl (Nat.le_of_ble_eq_true rfl) dU_whole_83 ⟨Nat.zero_le _, Nat.zero_le _⟩ (fun H locs hw hS => ?_)
        refine W.eq (g2 := F0 m 86 ls [.long ((C_U_cut md fl (C_U_format z1) (rg k2.toNatClampNeg) 2147483647).1)]) rfl ?_
        refine lv_lstore (lv' := [(12, .long ((C_U_cut md fl (C_U_format z1) (rg k2.toNatClampNeg) 2147483647).1)), (10, .long 2147483647), (8, .long 2147483647), (7, .int (bI (C_F_isMinus (C_U_format z1) (rg k2.toNatClampNeg)))), (5, .long (rg k2.toNatClampNeg)), (4, .ref (ad (C_U_format z1))), (0, .ref h0), (1, .int (bI z1)), (2, .int k2), (3, .int (bI z3))]) (pc := 86) hx hb dU_whole_86 hl (by decide) rfl (fun ls hl => ?_)
        refine lv_iload (pc := 88) hx hb dU_whole_88 (lv_at hl 3 rfl) ?_
        refine lv_if_eq (tgt := 99) (pc := 90) hx hb dU_whole_90 (by decide) (fun h7 => ?_) (fun h7 => ?_)
        · skip
          refine lv_lload (pc := 99) hx hb dU_whole_99 (lv_at hl 0 rfl) ?_
          have he9 := (show ((C_U_cut md fl (C_U_format z1) (rg k2.toNatClampNeg) 2147483647).1, (C_U_cut md fl (C_U_format z1) (rg k2.toNatClampNeg) 2147483647).2) = C_U_whole md fl rg z1 k2 z3 from by rw [C_U_whole, if_pos h1, if_neg h2, if_pos h6])
          exact hret _ _ _ _ _ _ _ _ (congrArg Prod.fst he9) rfl (congrArg Prod.snd he9) rfl hw hS dU_whole_101
        · exact absurd h6 (fun q => h7 ((bI_0 _).2 q))
      · skip
        have h6 : ¬ ((C_F_isMinus (C_U_format z1) (rg k2.toNatClampNeg)) = false) := fun q => h6 ((bI_0 _).2 q)
        refine lv_lload (pc := 65) hx hb dU_whole_65 (lv_at hl 0 rfl) ?_
        refine lv_lconst (v := 1) (pc := 67) hx hb dU_whole_67 (by decide) ?_
        refine lv_ladd (pc := 68) hx hb dU_whole_68 ?_
        refine lv_goto (tgt := 74) (pc := 69) hx hb dU_whole_69 (by decide) ?_
        refine lv_lstore (lv' := [(10, .long (2147483647 + 1)), (8, .long 2147483647), (7, .int (bI (C_F_isMinus (C_U_format z1) (rg k2.toNatClampNeg)))), (5, .long (rg k2.toNatClampNeg)), (4, .ref (ad (C_U_format z1))), (0, .ref h0), (1, .int (bI z1)), (2, .int k2), (3, .int (bI z3))]) (pc := 74) hx hb dU_whole_74 hl (by decide) rfl (fun ls hl => ?_)
        refine lv_aload_n (pc := 76) hx hb dU_whole_76 rfl (lv_at hl 5 rfl) ?_
        refine lv_aload (pc := 77) hx hb dU_whole_77 (lv_at hl 4 rfl) ?_
        refine lv_lload (pc := 79) hx hb dU_whole_79 (lv_at hl 3 rfl) ?_
        refine lv_lload (pc := 81) hx hb dU_whole_81 (lv_at hl 0 rfl) ?_
        refine fu_V (pc := 83) (rest := []) ⟨hx, hb, hml, hown, hts⟩ (c_U_cut l ad D cA h0 r0 (fmt_lt _) md fl rg (rg k2.toNatClampNeg) (2147483647 + 1)) (cwU_cut hts w_307 ⟨by decide, by decide⟩) hF hw hS rfl hl.1 rfl (Nat.le_of_ble_eq_true rfl) dU_whole_83 ⟨Nat.zero_le _, Nat.zero_le _⟩ (fun H locs hw hS => ?_)
        refine W.eq (g2 := F0 m 86 ls [.long ((C_U_cut md fl (C_U_format z1) (rg k2.toNatClampNeg) (2147483647 + 1)).1)]) rfl ?_
        refine lv_lstore (lv' := [(12, .long ((C_U_cut md fl (C_U_format z1) (rg k2.toNatClampNeg) (2147483647 + 1)).1)), (10, .long (2147483647 + 1)), (8, .long 2147483647), (7, .int (bI (C_F_isMinus (C_U_format z1) (rg k2.toNatClampNeg)))), (5, .long (rg k2.toNatClampNeg)), (4, .ref (ad (C_U_format z1))), (0, .ref h0), (1, .int (bI z1)), (2, .int k2), (3, .int (bI z3))]) (pc := 86) hx hb dU_whole_86 hl (by decide) rfl (fun ls hl => ?_)
        refine lv_iload (pc := 88) hx hb dU_whole_88 (lv_at hl 3 rfl) ?_
        refine lv_if_eq (tgt := 99) (pc := 90) hx hb dU_whole_90 (by decide) (fun h8 => ?_) (fun h8 => ?_)
        · exact absurd ((bI_0 _).1 h8) h6
        · skip
          refine lv_lload (pc := 93) hx hb dU_whole_93 (lv_at hl 0 rfl) ?_
          refine lv_lneg (pc := 95) hx hb dU_whole_95 ?_
          refine lv_goto (tgt := 101) (pc := 96) hx hb dU_whole_96 (by decide) ?_
          have he9 := (show (-((C_U_cut md fl (C_U_format z1) (rg k2.toNatClampNeg) (2147483647 + 1)).1), (C_U_cut md fl (C_U_format z1) (rg k2.toNatClampNeg) (2147483647 + 1)).2) = C_U_whole md fl rg z1 k2 z3 from by rw [C_U_whole, if_pos h1, if_neg h2, if_neg h6])
          exact hret _ _ _ _ _ _ _ _ (congrArg Prod.fst he9) rfl (congrArg Prod.snd he9) rfl hw hS dU_whole_101
  · skip
    have h1 : ¬ ((C_F_isNone (C_U_format z1) (rg k2.toNatClampNeg)) = false) := fun q => h1 ((bI_0 _).2 q)
    refine lv_aload_n (pc := 28) hx hb dU_whole_28 rfl (lv_at hl 2 rfl) ?_
    refine lv_bipush (v := 16) (pc := 29) hx hb dU_whole_29 (by decide) ?_
    refine fu_V (pc := 31) (rest := []) ⟨hx, hb, hml, hown, hts⟩ (c_U_raise l ad D cA h0 r0  md fl rg 16) (cwU_raise hts w_176 ⟨by decide, by decide⟩) hF hw hS rfl hl.1 rfl (Nat.le_of_ble_eq_true rfl) dU_whole_31 ⟨Nat.zero_le _, Nat.zero_le _⟩ (fun H locs hw hS => ?_)
    refine W.eq (g2 := F0 m 34 ls []) rfl ?_
    refine lv_lconst (v := 0) (pc := 34) hx hb dU_whole_34 (by decide) ?_
    have he9 := (show (0, C_U_raise md fl 16) = C_U_whole md fl rg z1 k2 z3 from by rw [C_U_whole, if_neg h1])
    exact hret _ _ _ _ _ _ _ _ (congrArg Prod.fst he9) rfl (congrArg Prod.snd he9) rfl hw hS dU_whole_35
def C_U_turn (md : Int32) (fl : Int32) (rg : Nat → Int64) (z1 : Bool) (k2 : Int32) (k3 : Int32) : Int64 × Int32 :=
  if z1 = false then
    ((C_U_turned md fl (C_U_format z1) (C_U_format true) (rg k3.toNatClampNeg)).1, (C_U_turned md fl (C_U_format z1) (C_U_format true) (rg k3.toNatClampNeg)).2)
  else
    ((C_U_turned md fl (C_U_format z1) (C_U_format false) (rg k3.toNatClampNeg)).1, (C_U_turned md fl (C_U_format z1) (C_U_format false) (rg k3.toNatClampNeg)).2)
abbrev rmU_turn : Room := { frames := 5, cells := 0, slots := 0, locals := 129 }
theorem cwU_turn {R : Room} {s : State} {args : Array Value} {w0 : Cond} {own : String} {idx : Nat} (hts : ∀ w ∈ (w0 :: bigW), w.before args s = true) (hl : Cond.methodLink own idx yU_turn ∈ bigW) (hR : rmU_turn.frames + 1 ≤ R.frames ∧ 8 + (4 + 11) + rmU_turn.locals ≤ R.locals) : CallW R s args own "FloatUnit" idx yU_turn cU_turn 4 (some .long) (wsM yU_turn cU_turn 4 (some .long)) rmU_turn 0 0 3 :=
  cwV 3 hts (big_V hl w_322 w_323 w_1 w_324) rfl rfl rfl ⟨rfl, by decide, by decide, by decide +kernel⟩ hR
set_option maxRecDepth 100000 in
set_option maxHeartbeats 8000000 in
theorem c_U_turn (l : Launch) (ad : Nat → Nat) (D : va_G) (cA : ClassId) (h0 r0 : Nat) (md fl : Int32) (rg : Nat → Int64) (z1 : Bool) (k2 : Int32) (k3 : Int32) (h_k2 : vp_in k2 16) (h_k3 : vp_in k3 16) : FuM l ad D cA h0 r0 yU_turn (wsM yU_turn cU_turn 4 (some .long)) rmU_turn [.int (bI z1), .int k2, .int k3] md fl rg (some (.long ((C_U_turn md fl rg z1 k2 k3).1))) md (C_U_turn md fl rg z1 k2 k3).2 (vp_updL rg k2.toNatClampNeg (C_U_turn md fl rg z1 k2 k3).1) := by
  refine fu_ofL (cc := cU_turn) (maxL := 4) (by decide) rfl (Nat.le_of_ble_eq_true rfl) ?_
  intro p e s m args below meth c Q hx hb hml hown hts hF H locs hS hw hret ls hl
  have hl : lv_has ls 4 [(0, .ref h0), (1, .int (bI z1)), (2, .int k2), (3, .int k3)] := hl
  refine lv_iload_n (pc := 0) hx hb dU_turn_0 rfl (lv_at hl 2 rfl) ?_
  refine pu_Sv (pc := 1) (rest := []) ⟨hx, hb, hml, hown, hts⟩ (c_U_requireRegister l ad h_k2) (cwU_requireRegister hts w_41 ⟨by decide, by decide⟩) hF hS rfl hl.1 rfl (Nat.le_of_ble_eq_true rfl) dU_turn_1 ⟨Nat.zero_le _, Nat.zero_le _⟩ ?_
  refine lv_iload_n (pc := 4) hx hb dU_turn_4 rfl (lv_at hl 3 rfl) ?_
  refine pu_Sv (pc := 5) (rest := []) ⟨hx, hb, hml, hown, hts⟩ (c_U_requireRegister l ad h_k3) (cwU_requireRegister hts w_41 ⟨by decide, by decide⟩) hF hS rfl hl.1 rfl (Nat.le_of_ble_eq_true rfl) dU_turn_5 ⟨Nat.zero_le _, Nat.zero_le _⟩ ?_
  refine lv_aload_n (pc := 8) hx hb dU_turn_8 rfl (lv_at hl 0 rfl) ?_
  refine lv_iload_n (pc := 9) hx hb dU_turn_9 rfl (lv_at hl 2 rfl) ?_
  refine lv_aload_n (pc := 10) hx hb dU_turn_10 rfl (lv_at hl 0 rfl) ?_
  refine lv_iload_n (pc := 11) hx hb dU_turn_11 rfl (lv_at hl 1 rfl) ?_
  refine pu_S (pc := 12) (rest := [.ref h0, .int k2, .ref h0]) ⟨hx, hb, hml, hown, hts⟩ (c_U_format l ad z1) (cwU_format hts w_133 ⟨by decide, by decide⟩) hF hS rfl hl.1 rfl (Nat.le_of_ble_eq_true rfl) dU_turn_12 ⟨Nat.zero_le _, Nat.zero_le _⟩ ?_
  refine lv_iload_n (pc := 15) hx hb dU_turn_15 rfl (lv_at hl 1 rfl) ?_
  refine lv_if_ne (tgt := 23) (pc := 16) hx hb dU_turn_16 (by decide) (fun h1 => ?_) (fun h1 => ?_)
  · skip
    have h1 : ¬ (z1 = false) := fun q => h1 ((bI_0 _).2 q)
    refine lv_iconst (v := 0) (pc := 23) hx hb dU_turn_23 (by decide) ?_
    refine pu_S (pc := 24) (rest := [.ref (ad (C_U_format z1)), .ref h0, .int k2, .ref h0]) ⟨hx, hb, hml, hown, hts⟩ (c_U_format l ad false) (cwU_format hts w_133 ⟨by decide, by decide⟩) hF hS rfl hl.1 rfl (Nat.le_of_ble_eq_true rfl) dU_turn_24 ⟨Nat.zero_le _, Nat.zero_le _⟩ ?_
    refine lv_aload_n (pc := 27) hx hb dU_turn_27 rfl (lv_at hl 0 rfl) ?_
    refine fu_rg (pc := 28) hx hb hts hown hw w_18 dU_turn_28 ?_
    refine lv_iload_n (pc := 31) hx hb dU_turn_31 rfl (lv_at hl 3 rfl) ?_
    refine fu_ld (pc := 32) hx hb hw h_k3 dU_turn_32 ?_
    refine fu_V (pc := 33) (rest := [.int k2, .ref h0]) ⟨hx, hb, hml, hown, hts⟩ (c_U_turned l ad D cA h0 r0 (fmt_lt _) (fmt_lt _) md fl rg (rg k3.toNatClampNeg)) (cwU_turned hts w_325 ⟨by decide, by decide⟩) hF hw hS rfl hl.1 rfl (Nat.le_of_ble_eq_true rfl) dU_turn_33 ⟨Nat.zero_le _, Nat.zero_le _⟩ (fun H locs hw hS => ?_)
    refine W.eq (g2 := F0 m 36 ls [.long ((C_U_turned md fl (C_U_format z1) (C_U_format false) (rg k3.toNatClampNeg)).1), .int k2, .ref h0]) rfl ?_
    refine fu_V (pc := 36) (rest := []) ⟨hx, hb, hml, hown, hts⟩ (c_U_keep l ad D cA h0 r0 md ((C_U_turned md fl (C_U_format z1) (C_U_format false) (rg k3.toNatClampNeg)).2) rg k2 ((C_U_turned md fl (C_U_format z1) (C_U_format false) (rg k3.toNatClampNeg)).1) h_k2) (cwU_keep hts w_275 ⟨by decide, by decide⟩) hF hw hS rfl hl.1 rfl (Nat.le_of_ble_eq_true rfl) dU_turn_36 ⟨Nat.zero_le _, Nat.zero_le _⟩ (fun H locs hw hS => ?_)
    refine W.eq (g2 := F0 m 39 ls [.long ((C_U_turned md fl (C_U_format z1) (C_U_format false) (rg k3.toNatClampNeg)).1)]) rfl ?_
    have he9 := (show ((C_U_turned md fl (C_U_format z1) (C_U_format false) (rg k3.toNatClampNeg)).1, (C_U_turned md fl (C_U_format z1) (C_U_format false) (rg k3.toNatClampNeg)).2) = C_U_turn md fl rg z1 k2 k3 from by rw [C_U_turn, if_neg h1])
    exact hret _ _ _ _ _ _ _ _ (congrArg Prod.fst he9) rfl (congrArg Prod.snd he9) (congrArg (vp_updL rg k2.toNatClampNeg) (congrArg Prod.fst he9)) hw hS dU_turn_39
  · skip
    have h1 : z1 = false := (bI_0 _).1 h1
    refine lv_iconst (v := 1) (pc := 19) hx hb dU_turn_19 (by decide) ?_
    refine lv_goto (tgt := 24) (pc := 20) hx hb dU_turn_20 (by decide) ?_
    refine pu_S (pc := 24) (rest := [.ref (ad (C_U_format z1)), .ref h0, .int k2, .ref h0]) ⟨hx, hb, hml, hown, hts⟩ (c_U_format l ad true) (cwU_format hts w_133 ⟨by decide, by decide⟩) hF hS rfl hl.1 rfl (Nat.le_of_ble_eq_true rfl) dU_turn_24 ⟨Nat.zero_le _, Nat.zero_le _⟩ ?_
    refine lv_aload_n (pc := 27) hx hb dU_turn_27 rfl (lv_at hl 0 rfl) ?_
    refine fu_rg (pc := 28) hx hb hts hown hw w_18 dU_turn_28 ?_
    refine lv_iload_n (pc := 31) hx hb dU_turn_31 rfl (lv_at hl 3 rfl) ?_
    refine fu_ld (pc := 32) hx hb hw h_k3 dU_turn_32 ?_
    refine fu_V (pc := 33) (rest := [.int k2, .ref h0]) ⟨hx, hb, hml, hown, hts⟩ (c_U_turned l ad D cA h0 r0 (fmt_lt _) (fmt_lt _) md fl rg (rg k3.toNatClampNeg)) (cwU_turned hts w_325 ⟨by decide, by decide⟩) hF hw hS rfl hl.1 rfl (Nat.le_of_ble_eq_true rfl) dU_turn_33 ⟨Nat.zero_le _, Nat.zero_le _⟩ (fun H locs hw hS => ?_)
    refine W.eq (g2 := F0 m 36 ls [.long ((C_U_turned md fl (C_U_format z1) (C_U_format true) (rg k3.toNatClampNeg)).1), .int k2, .ref h0]) rfl ?_
    refine fu_V (pc := 36) (rest := []) ⟨hx, hb, hml, hown, hts⟩ (c_U_keep l ad D cA h0 r0 md ((C_U_turned md fl (C_U_format z1) (C_U_format true) (rg k3.toNatClampNeg)).2) rg k2 ((C_U_turned md fl (C_U_format z1) (C_U_format true) (rg k3.toNatClampNeg)).1) h_k2) (cwU_keep hts w_275 ⟨by decide, by decide⟩) hF hw hS rfl hl.1 rfl (Nat.le_of_ble_eq_true rfl) dU_turn_36 ⟨Nat.zero_le _, Nat.zero_le _⟩ (fun H locs hw hS => ?_)
    refine W.eq (g2 := F0 m 39 ls [.long ((C_U_turned md fl (C_U_format z1) (C_U_format true) (rg k3.toNatClampNeg)).1)]) rfl ?_
    have he9 := (show ((C_U_turned md fl (C_U_format z1) (C_U_format true) (rg k3.toNatClampNeg)).1, (C_U_turned md fl (C_U_format z1) (C_U_format true) (rg k3.toNatClampNeg)).2) = C_U_turn md fl rg z1 k2 k3 from by rw [C_U_turn, if_pos h1])
    exact hret _ _ _ _ _ _ _ _ (congrArg Prod.fst he9) rfl (congrArg Prod.snd he9) (congrArg (vp_updL rg k2.toNatClampNeg) (congrArg Prod.fst he9)) hw hS dU_turn_39
def C_U_kind (md : Int32) (fl : Int32) (rg : Nat → Int64) (z1 : Bool) (k2 : Int32) : Int32 :=
  if (C_F_isMinus (C_U_format z1) (rg k2.toNatClampNeg)) = false then
    C_F_sort (C_U_format z1) (rg k2.toNatClampNeg)
  else
    (C_F_sort (C_U_format z1) (rg k2.toNatClampNeg)) + 8
abbrev rmU_kind : Room := { frames := 3, cells := 0, slots := 0, locals := 66 }
theorem cwU_kind {R : Room} {s : State} {args : Array Value} {w0 : Cond} {own : String} {idx : Nat} (hts : ∀ w ∈ (w0 :: bigW), w.before args s = true) (hl : Cond.methodLink own idx yU_kind ∈ bigW) (hR : rmU_kind.frames + 1 ≤ R.frames ∧ 8 + (5 + 11) + rmU_kind.locals ≤ R.locals) : CallW R s args own "FloatUnit" idx yU_kind cU_kind 5 (some .int) (wsM yU_kind cU_kind 5 (some .int)) rmU_kind 0 0 2 :=
  cwV 2 hts (big_V hl w_333 w_334 w_1 w_335) rfl rfl rfl ⟨rfl, by decide, by decide, by decide +kernel⟩ hR
set_option maxRecDepth 100000 in
set_option maxHeartbeats 8000000 in
theorem c_U_kind (l : Launch) (ad : Nat → Nat) (D : va_G) (cA : ClassId) (h0 r0 : Nat) (md fl : Int32) (rg : Nat → Int64) (z1 : Bool) (k2 : Int32) (h_k2 : vp_in k2 16) : FuM l ad D cA h0 r0 yU_kind (wsM yU_kind cU_kind 5 (some .int)) rmU_kind [.int (bI z1), .int k2] md fl rg (some (.int (C_U_kind md fl rg z1 k2))) md fl rg := by
  refine fu_ofI (cc := cU_kind) (maxL := 5) (by decide) rfl (Nat.le_of_ble_eq_true rfl) ?_
  intro p e s m args below meth c Q hx hb hml hown hts hF H locs hS hw hret ls hl
  have hl : lv_has ls 5 [(0, .ref h0), (1, .int (bI z1)), (2, .int k2)] := hl
  refine lv_iload_n (pc := 0) hx hb dU_kind_0 rfl (lv_at hl 2 rfl) ?_
  refine pu_Sv (pc := 1) (rest := []) ⟨hx, hb, hml, hown, hts⟩ (c_U_requireRegister l ad h_k2) (cwU_requireRegister hts w_41 ⟨by decide, by decide⟩) hF hS rfl hl.1 rfl (Nat.le_of_ble_eq_true rfl) dU_kind_1 ⟨Nat.zero_le _, Nat.zero_le _⟩ ?_
  refine lv_iload_n (pc := 4) hx hb dU_kind_4 rfl (lv_at hl 1 rfl) ?_
  refine pu_S (pc := 5) (rest := []) ⟨hx, hb, hml, hown, hts⟩ (c_U_format l ad z1) (cwU_format hts w_133 ⟨by decide, by decide⟩) hF hS rfl hl.1 rfl (Nat.le_of_ble_eq_true rfl) dU_kind_5 ⟨Nat.zero_le _, Nat.zero_le _⟩ ?_
  refine lv_astore_n (lv' := [(3, .ref (ad (C_U_format z1))), (0, .ref h0), (1, .int (bI z1)), (2, .int k2)]) (pc := 8) hx hb dU_kind_8 rfl hl (by decide) rfl (fun ls hl => ?_)
  refine lv_aload_n (pc := 9) hx hb dU_kind_9 rfl (lv_at hl 0 rfl) ?_
  refine lv_aload_n (pc := 10) hx hb dU_kind_10 rfl (lv_at hl 1 rfl) ?_
  refine fu_rg (pc := 11) hx hb hts hown hw w_18 dU_kind_11 ?_
  refine lv_iload_n (pc := 14) hx hb dU_kind_14 rfl (lv_at hl 3 rfl) ?_
  refine fu_ld (pc := 15) hx hb hw h_k2 dU_kind_15 ?_
  refine pu_V (pc := 16) (i := C_U_format z1) (rest := []) ⟨hx, hb, hml, hown, hts⟩ (fmt_lt _) (c_F_sort l ad (fmt_lt _) (rg k2.toNatClampNeg)) (cwF_sort hts w_336 ⟨by decide, by decide⟩) hF hS rfl hl.1 rfl (Nat.le_of_ble_eq_true rfl) dU_kind_16 ⟨Nat.zero_le _, Nat.zero_le _⟩ ?_
  refine lv_istore (lv' := [(4, .int (C_F_sort (C_U_format z1) (rg k2.toNatClampNeg))), (3, .ref (ad (C_U_format z1))), (0, .ref h0), (1, .int (bI z1)), (2, .int k2)]) (pc := 19) hx hb dU_kind_19 hl (by decide) rfl (fun ls hl => ?_)
  refine lv_aload_n (pc := 21) hx hb dU_kind_21 rfl (lv_at hl 1 rfl) ?_
  refine lv_aload_n (pc := 22) hx hb dU_kind_22 rfl (lv_at hl 2 rfl) ?_
  refine fu_rg (pc := 23) hx hb hts hown hw w_18 dU_kind_23 ?_
  refine lv_iload_n (pc := 26) hx hb dU_kind_26 rfl (lv_at hl 4 rfl) ?_
  refine fu_ld (pc := 27) hx hb hw h_k2 dU_kind_27 ?_
  refine pu_V (pc := 28) (i := C_U_format z1) (rest := []) ⟨hx, hb, hml, hown, hts⟩ (fmt_lt _) (c_F_isMinus l ad (fmt_lt _) (rg k2.toNatClampNeg)) (cwF_isMinus hts w_164 ⟨by decide, by decide⟩) hF hS rfl hl.1 rfl (Nat.le_of_ble_eq_true rfl) dU_kind_28 ⟨Nat.zero_le _, Nat.zero_le _⟩ ?_
  refine lv_if_eq (tgt := 42) (pc := 31) hx hb dU_kind_31 (by decide) (fun h1 => ?_) (fun h1 => ?_)
  · skip
    have h1 : (C_F_isMinus (C_U_format z1) (rg k2.toNatClampNeg)) = false := (bI_0 _).1 h1
    refine lv_iload (pc := 42) hx hb dU_kind_42 (lv_at hl 0 rfl) ?_
    exact hret _ _ _ _ _ _ _ _ (show C_F_sort (C_U_format z1) (rg k2.toNatClampNeg) = C_U_kind md fl rg z1 k2 from by rw [C_U_kind, if_pos h1]) rfl rfl rfl hw hS dU_kind_44
  · skip
    have h1 : ¬ ((C_F_isMinus (C_U_format z1) (rg k2.toNatClampNeg)) = false) := fun q => h1 ((bI_0 _).2 q)
    refine lv_iload (pc := 34) hx hb dU_kind_34 (lv_at hl 0 rfl) ?_
    refine lv_bipush (v := 8) (pc := 36) hx hb dU_kind_36 (by decide) ?_
    refine lv_iadd (pc := 38) hx hb dU_kind_38 ?_
    refine lv_goto (tgt := 44) (pc := 39) hx hb dU_kind_39 (by decide) ?_
    exact hret _ _ _ _ _ _ _ _ (show (C_F_sort (C_U_format z1) (rg k2.toNatClampNeg)) + 8 = C_U_kind md fl rg z1 k2 from by rw [C_U_kind, if_neg h1]) rfl rfl rfl hw hS dU_kind_44
def C_U_negate (md : Int32) (fl : Int32) (rg : Nat → Int64) (z1 : Bool) (k2 : Int32) (k3 : Int32) : Int64 × Int32 :=
  if (C_F_isNone (C_U_format z1) (C_F_own (C_U_format z1) (rg k3.toNatClampNeg))) = false then
    (C_F_opposite (C_U_format z1) (C_F_own (C_U_format z1) (rg k3.toNatClampNeg)), fl)
  else
    (C_F_none (C_U_format z1), fl)
abbrev rmU_negate : Room := { frames := 2, cells := 0, slots := 0, locals := 44 }
theorem cwU_negate {R : Room} {s : State} {args : Array Value} {w0 : Cond} {own : String} {idx : Nat} (hts : ∀ w ∈ (w0 :: bigW), w.before args s = true) (hl : Cond.methodLink own idx yU_negate ∈ bigW) (hR : rmU_negate.frames + 1 ≤ R.frames ∧ 8 + (7 + 11) + rmU_negate.locals ≤ R.locals) : CallW R s args own "FloatUnit" idx yU_negate cU_negate 7 (some .long) (wsM yU_negate cU_negate 7 (some .long)) rmU_negate 0 0 3 :=
  cwV 3 hts (big_V hl w_347 w_348 w_1 w_349) rfl rfl rfl ⟨rfl, by decide, by decide, by decide +kernel⟩ hR
set_option maxRecDepth 100000 in
set_option maxHeartbeats 8000000 in
theorem c_U_negate (l : Launch) (ad : Nat → Nat) (D : va_G) (cA : ClassId) (h0 r0 : Nat) (md fl : Int32) (rg : Nat → Int64) (z1 : Bool) (k2 : Int32) (k3 : Int32) (h_k2 : vp_in k2 16) (h_k3 : vp_in k3 16) : FuM l ad D cA h0 r0 yU_negate (wsM yU_negate cU_negate 7 (some .long)) rmU_negate [.int (bI z1), .int k2, .int k3] md fl rg (some (.long ((C_U_negate md fl rg z1 k2 k3).1))) md (C_U_negate md fl rg z1 k2 k3).2 (vp_updL rg k2.toNatClampNeg (C_U_negate md fl rg z1 k2 k3).1) := by
  refine fu_ofL (cc := cU_negate) (maxL := 7) (by decide) rfl (Nat.le_of_ble_eq_true rfl) ?_
  intro p e s m args below meth c Q hx hb hml hown hts hF H locs hS hw hret ls hl
  have hl : lv_has ls 7 [(0, .ref h0), (1, .int (bI z1)), (2, .int k2), (3, .int k3)] := hl
  refine lv_iload_n (pc := 0) hx hb dU_negate_0 rfl (lv_at hl 2 rfl) ?_
  refine pu_Sv (pc := 1) (rest := []) ⟨hx, hb, hml, hown, hts⟩ (c_U_requireRegister l ad h_k2) (cwU_requireRegister hts w_41 ⟨by decide, by decide⟩) hF hS rfl hl.1 rfl (Nat.le_of_ble_eq_true rfl) dU_negate_1 ⟨Nat.zero_le _, Nat.zero_le _⟩ ?_
  refine lv_iload_n (pc := 4) hx hb dU_negate_4 rfl (lv_at hl 3 rfl) ?_
  refine pu_Sv (pc := 5) (rest := []) ⟨hx, hb, hml, hown, hts⟩ (c_U_requireRegister l ad h_k3) (cwU_requireRegister hts w_41 ⟨by decide, by decide⟩) hF hS rfl hl.1 rfl (Nat.le_of_ble_eq_true rfl) dU_negate_5 ⟨Nat.zero_le _, Nat.zero_le _⟩ ?_
  refine lv_iload_n (pc := 8) hx hb dU_negate_8 rfl (lv_at hl 1 rfl) ?_
  refine pu_S (pc := 9) (rest := []) ⟨hx, hb, hml, hown, hts⟩ (c_U_format l ad z1) (cwU_format hts w_133 ⟨by decide, by decide⟩) hF hS rfl hl.1 rfl (Nat.le_of_ble_eq_true rfl) dU_negate_9 ⟨Nat.zero_le _, Nat.zero_le _⟩ ?_
  refine lv_astore (lv' := [(4, .ref (ad (C_U_format z1))), (0, .ref h0), (1, .int (bI z1)), (2, .int k2), (3, .int k3)]) (pc := 12) hx hb dU_negate_12 hl (by decide) rfl (fun ls hl => ?_)
  refine lv_aload (pc := 14) hx hb dU_negate_14 (lv_at hl 0 rfl) ?_
  refine lv_aload_n (pc := 16) hx hb dU_negate_16 rfl (lv_at hl 1 rfl) ?_
  refine fu_rg (pc := 17) hx hb hts hown hw w_18 dU_negate_17 ?_
  refine lv_iload_n (pc := 20) hx hb dU_negate_20 rfl (lv_at hl 4 rfl) ?_
  refine fu_ld (pc := 21) hx hb hw h_k3 dU_negate_21 ?_
  refine pu_V (pc := 22) (i := C_U_format z1) (rest := []) ⟨hx, hb, hml, hown, hts⟩ (fmt_lt _) (c_F_own l ad (fmt_lt _) (rg k3.toNatClampNeg)) (cwF_own hts w_140 ⟨by decide, by decide⟩) hF hS rfl hl.1 rfl (Nat.le_of_ble_eq_true rfl) dU_negate_22 ⟨Nat.zero_le _, Nat.zero_le _⟩ ?_
  refine lv_lstore (lv' := [(5, .long (C_F_own (C_U_format z1) (rg k3.toNatClampNeg))), (4, .ref (ad (C_U_format z1))), (0, .ref h0), (1, .int (bI z1)), (2, .int k2), (3, .int k3)]) (pc := 25) hx hb dU_negate_25 hl (by decide) rfl (fun ls hl => ?_)
  refine lv_aload_n (pc := 27) hx hb dU_negate_27 rfl (lv_at hl 2 rfl) ?_
  refine lv_iload_n (pc := 28) hx hb dU_negate_28 rfl (lv_at hl 4 rfl) ?_
  refine lv_aload (pc := 29) hx hb dU_negate_29 (lv_at hl 1 rfl) ?_
  refine lv_lload (pc := 31) hx hb dU_negate_31 (lv_at hl 0 rfl) ?_
  refine pu_V (pc := 33) (i := C_U_format z1) (rest := [.int k2, .ref h0]) ⟨hx, hb, hml, hown, hts⟩ (fmt_lt _) (c_F_isNone l ad (fmt_lt _) (C_F_own (C_U_format z1) (rg k3.toNatClampNeg))) (cwF_isNone hts w_148 ⟨by decide, by decide⟩) hF hS rfl hl.1 rfl (Nat.le_of_ble_eq_true rfl) dU_negate_33 ⟨Nat.zero_le _, Nat.zero_le _⟩ ?_
  refine lv_if_eq (tgt := 47) (pc := 36) hx hb dU_negate_36 (by decide) (fun h1 => ?_) (fun h1 => ?_)
  · skip
    have h1 : (C_F_isNone (C_U_format z1) (C_F_own (C_U_format z1) (rg k3.toNatClampNeg))) = false := (bI_0 _).1 h1
    refine lv_aload (pc := 47) hx hb dU_negate_47 (lv_at hl 1 rfl) ?_
    refine lv_lload (pc := 49) hx hb dU_negate_49 (lv_at hl 0 rfl) ?_
    refine pu_V (pc := 51) (i := C_U_format z1) (rest := [.int k2, .ref h0]) ⟨hx, hb, hml, hown, hts⟩ (fmt_lt _) (c_F_opposite l ad (fmt_lt _) (C_F_own (C_U_format z1) (rg k3.toNatClampNeg))) (cwF_opposite hts w_244 ⟨by decide, by decide⟩) hF hS rfl hl.1 rfl (Nat.le_of_ble_eq_true rfl) dU_negate_51 ⟨Nat.zero_le _, Nat.zero_le _⟩ ?_
    refine fu_V (pc := 54) (rest := []) ⟨hx, hb, hml, hown, hts⟩ (c_U_keep l ad D cA h0 r0 md fl rg k2 (C_F_opposite (C_U_format z1) (C_F_own (C_U_format z1) (rg k3.toNatClampNeg))) h_k2) (cwU_keep hts w_275 ⟨by decide, by decide⟩) hF hw hS rfl hl.1 rfl (Nat.le_of_ble_eq_true rfl) dU_negate_54 ⟨Nat.zero_le _, Nat.zero_le _⟩ (fun H locs hw hS => ?_)
    refine W.eq (g2 := F0 m 57 ls [.long (C_F_opposite (C_U_format z1) (C_F_own (C_U_format z1) (rg k3.toNatClampNeg)))]) rfl ?_
    have he9 := (show (C_F_opposite (C_U_format z1) (C_F_own (C_U_format z1) (rg k3.toNatClampNeg)), fl) = C_U_negate md fl rg z1 k2 k3 from by rw [C_U_negate, if_pos h1])
    exact hret _ _ _ _ _ _ _ _ (congrArg Prod.fst he9) rfl (congrArg Prod.snd he9) (congrArg (vp_updL rg k2.toNatClampNeg) (congrArg Prod.fst he9)) hw hS dU_negate_57
  · skip
    have h1 : ¬ ((C_F_isNone (C_U_format z1) (C_F_own (C_U_format z1) (rg k3.toNatClampNeg))) = false) := fun q => h1 ((bI_0 _).2 q)
    refine lv_aload (pc := 39) hx hb dU_negate_39 (lv_at hl 1 rfl) ?_
    refine pu_V (pc := 41) (i := C_U_format z1) (rest := [.int k2, .ref h0]) ⟨hx, hb, hml, hown, hts⟩ (fmt_lt _) (c_F_none l ad (fmt_lt _)) (cwF_none hts w_156 ⟨by decide, by decide⟩) hF hS rfl hl.1 rfl (Nat.le_of_ble_eq_true rfl) dU_negate_41 ⟨Nat.zero_le _, Nat.zero_le _⟩ ?_
    refine lv_goto (tgt := 54) (pc := 44) hx hb dU_negate_44 (by decide) ?_
    refine fu_V (pc := 54) (rest := []) ⟨hx, hb, hml, hown, hts⟩ (c_U_keep l ad D cA h0 r0 md fl rg k2 (C_F_none (C_U_format z1)) h_k2) (cwU_keep hts w_275 ⟨by decide, by decide⟩) hF hw hS rfl hl.1 rfl (Nat.le_of_ble_eq_true rfl) dU_negate_54 ⟨Nat.zero_le _, Nat.zero_le _⟩ (fun H locs hw hS => ?_)
    refine W.eq (g2 := F0 m 57 ls [.long (C_F_none (C_U_format z1))]) rfl ?_
    have he9 := (show (C_F_none (C_U_format z1), fl) = C_U_negate md fl rg z1 k2 k3 from by rw [C_U_negate, if_neg h1])
    exact hret _ _ _ _ _ _ _ _ (congrArg Prod.fst he9) rfl (congrArg Prod.snd he9) (congrArg (vp_updL rg k2.toNatClampNeg) (congrArg Prod.fst he9)) hw hS dU_negate_57
