/-! Methods of the unit where they throw (by program, but the first rows). -/
abbrev tQ (below : List Frame) (args : Array Value) (s : State) : State → Prop := vx_MQ below (fun _ _ _ _ => False) xXC args s 1 6 nA
theorem tx_of {l : Launch} {ad : Nat → Nat} {y : MethodName} {ws ws' : List Cond} {rm : Room} {av : List Value} {cc : ByteArray} {maxL : Nat} {ret : Option FieldType} (hy : plainName y.cls = true) (hw : ws = Cond.code y cc maxL ret :: ws') (hn : (lg_sl av).length ≤ maxL)
    (body : ∀ (p : Program) (e : Env) (s : State) (m : MethodId) (args : Array Value) (below : List Frame) (meth : Method) (c : Code), p.tables.exec = Jvm.exec → c.code = cc → c.maxLocals = maxL → s.vm.findClass y.cls = some m.cls → (∀ w ∈ ws, w.before args s = true) → XM nA s s.heap → FM ad nA s s.heap → meth.locks = false → (∀ x ∈ c.exceptionTable.toList, False) →
      ∀ ls : Array Slot, lv_has ls maxL (lv_args 0 av) → W p l e rm s m args below meth c s.heap [] 0 0 (tQ below args s) (F0 m 0 ls [])) : TxM l ad y ws rm av := by
  refine vx_ofW (cc := cc) (maxL := maxL) (ret := ret) hy hw ?_
  intro p e s m args below meth c s₁ B hml hno hv
  obtain ⟨rfl, hX, hF⟩ := hv
  rw [lg_entry_eq]
  exact body p e s m _ below meth c B.exec B.bytes hml (findClass_of_methodNamed B.named) (atoms_spec B.pre) hX hF B.notSynchronized hno _ (lv_entry av hn)
section TX
variable {p : Program} {l : Launch} {e : Env} {R : Room} {s : State} {m : MethodId} {args : Array Value} {below : List Frame} {meth : Method} {c : Code}
variable {w0 : Cond} {Ts ws : List Cond} {cc bytes : ByteArray} {nL maxL index n : Nat} {own : String} {y : MethodName} {ret : Option FieldType} {rm : Room} {As rest st : List Value} {pc : Nat} {ls : Array Slot} {ad : Nat → Nat}
theorem tx_S (F : CallFix p m c cc nL s args Ts own) (hM : TxM l ad y ws rm As) (cw : CallB R s args own index y bytes maxL ret ws rm 1 6 n ∧ (Cond.static y).before args s = true) (hX : XM nA s s.heap) (hF : FM ad nA s s.heap) (hlocks : meth.locks = false) (hno : ∀ x ∈ c.exceptionTable.toList, False)
    (hn : As.length = n) (hsize : ls.size = nL) (hstack : st = As.reverse ++ rest) (hW : (rest.map fun v => v.category).sum ≤ 8) (hdg : decode cc pc = .ok (.invokestatic index, 3)) (hf : 1 ≤ R.cells ∧ 6 ≤ R.slots) :
    W p l e R s m args below meth c s.heap [] 0 0 (tQ below args s) (F0 m pc ls st) := by
  have hr := vx_runS (g := F0 m pc ls st) (cells := 0) (slots := 0) (locs := []) (H := s.heap) (rest := rest) (e := e) (below := below) (meth := meth) (mc := 1) (ms := 6) F hM cw
    ⟨fun a U g mk q => ⟨q.1, xm_same (u := U) (U := U.calling g mk a) rfl q.2.1, fm_same (u := U) (U := U.calling g mk a) rfl q.2.2⟩, fun U hU hWm => ⟨rfl, by rw [hU]; exact xm_warm hWm hX, by rw [hU]; exact fm_warm hWm hF⟩⟩ rfl hn hsize hstack (lv_room hW) hdg ⟨by omega, by omega⟩
  intro T hT X
  rcases hr T hT X with ⟨v, st₀, t, T', L, h0, X', hL, e1, e2, hq, sg⟩ | ⟨q, st₀, t, T', L, E, ce, h0, X', hL, e1, e2, ⟨rfl, hFF⟩, hce, hcv, hcl, sg⟩
  · exact hq.elim
  · have hL0 : L = [] := by
      cases L with
      | nil => rfl
      | cons a L => exact (hL a List.mem_cons_self).elim
    subst hL0
    obtain ⟨hz, hk⟩ := hFF
    rw [h0] at hz hk
    have ho : vx_W p l e R s m args below meth c T'.heap [] 1 6 (tQ below args s) (F0 m pc ls rest) q :=
      vx_out (E := iae) (ce := ce) (fun x hx => (hno x hx).elim) hlocks (by rw [e1]; exact hce) hcv hcl (fun t9 ht9 _ => ⟨rfl, by rw [ht9, e1]; exact hz, fun q9 h9 h8 => by rw [ht9, e1]; exact hk q9 h9 h8⟩) (fun z hz => nomatch hz) (Nat.le_refl _) (Nat.le_refl _)
    obtain ⟨t2, a1, b1⟩ := ho T' rfl X'
    exact ⟨t2, sg.trans a1, b1⟩
theorem tx_new {sa is : Nat} {text : String} (hx : p.tables.exec = Jvm.exec) (hb : c.code = cc) (hl : l.stackTraces = false) (hts : ∀ w ∈ (w0 :: bigW), w.before args s = true) (hown : s.vm.findClass "FloatUnit" = some m.cls) (hX : XM nA s s.heap) (hstr : vk_R "FloatUnit" is text sa s) (hlocks : meth.locks = false) (hno : ∀ x ∈ c.exceptionTable.toList, False) (hsize : ls.size = c.maxLocals)
    (d0 : decode cc pc = .ok (.new 24, 3)) (d3 : decode cc (pc + 3) = .ok (.dup, 1)) (d4 : decode cc (pc + 4) = .ok (.ldc is, 2)) (d6 : decode cc (pc + 6) = .ok (.invokespecial 28, 3)) (d9 : decode cc (pc + 9) = .ok (.athrow, 1))
    (hR : 6 ≤ R.frames ∧ (rest.map fun v => v.category).sum + 82 ≤ R.locals ∧ 1 ≤ R.cells ∧ 6 ≤ R.slots) :
    W p l e R s m args below meth c s.heap [] 0 0 (tQ below args s) (F0 m pc ls rest) :=
  vx_throwS (A := nA) (cls := iae) (names := iaeN) (ik := 24) (ic := 28) (text := text) (sa := sa) hx hb hl hown (by decide) (by decide) (hts _ (List.mem_cons_of_mem _ w_44)) (hts _ (List.mem_cons_of_mem _ w_6)) hstr (xat hts hX) xat_ot hX.1 hX.2.1 va_S.rf hsize d0 d3 d4 d6 d9 (fun x hx => (hno x hx).elim)
    (show 2 + 3 < R.frames by omega) (show _ + (13 * (2 + 1) + 43) ≤ R.locals by omega) (by omega) (by omega) hlocks (fun t _ h1 h2 => ⟨rfl, h1, fun q hq _ => h2 q hq⟩) (fun z hz => nomatch hz) (Nat.le_refl _) (Nat.le_refl _)
end TX
abbrev rmT : Room := { frames := 6, cells := 1, slots := 6, locals := 90 }
abbrev rmTP : Room := { frames := 7, cells := 1, slots := 6, locals := 120 }
theorem twU_requireRegister {R : Room} {s : State} {args : Array Value} {w0 : Cond} {idx : Nat} (hts : ∀ w ∈ (w0 :: bigW), w.before args s = true) (hl : Cond.methodLink "FloatUnit" idx yU_requireRegister ∈ bigW) (hR : rmT.frames + 1 ≤ R.frames ∧ 8 + (1 + 11) + rmT.locals ≤ R.locals) : CallB R s args "FloatUnit" idx yU_requireRegister cU_requireRegister 1 none (wsM yU_requireRegister cU_requireRegister 1 none) rmT 1 6 1 ∧ (Cond.static yU_requireRegister).before args s = true :=
  cwS 1 hts (big_S hl w_42 w_1 w_43) rfl rfl rfl ⟨rfl, by decide, by decide, by decide +kernel⟩ hR
set_option maxRecDepth 100000 in
theorem t_U_requireRegister (l : Launch) (hlt : l.stackTraces = false) (ad : Nat → Nat) {k : Int32} (hk : ¬ vp_in k 16) : TxM l ad yU_requireRegister (wsM yU_requireRegister cU_requireRegister 1 none) rmT [.int k] := by
  refine tx_of (cc := cU_requireRegister) (maxL := 1) (ret := none) (by decide) rfl (Nat.le_of_ble_eq_true rfl) ?_
  intro p e s m args below meth c hx hb hml hown hts hX hF hlocks hno ls hl
  have hl : lv_has ls 1 [(0, .int k)] := hl
  obtain ⟨sa, hstr⟩ := hX.2.2.2.2.2.2.1
  have K : W p l e rmT s m args below meth c s.heap [] 0 0 (tQ below args s) (F0 m 10 ls []) :=
    tx_new (pc := 10) hx hb hlt hts hown hX hstr hlocks hno (hl.1.trans hml.symm) dU_requireRegister_10 dU_requireRegister_13 dU_requireRegister_14 dU_requireRegister_16 dU_requireRegister_19 (by decide)
  refine lv_iload_n (pc := 0) hx hb dU_requireRegister_0 rfl (lv_at hl 0 rfl) ?_
  refine lv_if_lt (tgt := 10) (pc := 1) hx hb dU_requireRegister_1 (by decide) (fun _ => K) (fun h => ?_)
  refine lv_iload_n (pc := 4) hx hb dU_requireRegister_4 rfl (lv_at hl 0 rfl) ?_
  refine lv_bipush (v := 16) (pc := 5) hx hb dU_requireRegister_5 (by decide) ?_
  refine lv_icmp_lt (tgt := 20) (pc := 7) hx hb dU_requireRegister_7 (by decide) (fun h2 => ?_) (fun _ => K)
  rcases out16 hk with g | g
  · exact absurd g h
  · exact absurd h2 (Int32.not_lt.2 g)
theorem twU_put {R : Room} {s : State} {args : Array Value} {w0 : Cond} {own : String} {idx : Nat} (hts : ∀ w ∈ (w0 :: bigW), w.before args s = true) (hl : Cond.methodLink own idx yU_put ∈ bigW) (hR : rmTP.frames + 1 ≤ R.frames ∧ 8 + (6 + 11) + rmTP.locals ≤ R.locals) : CallW R s args own "FloatUnit" idx yU_put cU_put 6 (some .long) (wsM yU_put cU_put 6 (some .long)) rmTP 1 6 2 :=
  cwV 2 hts (big_V hl w_38 w_39 w_1 w_40) rfl rfl rfl ⟨rfl, by decide, by decide, by decide +kernel⟩ hR
set_option maxRecDepth 100000 in
theorem t_U_put (l : Launch) (hlt : l.stackTraces = false) (ad : Nat → Nat) (h0 : Nat) (k1 : Int32) (x2 : Int64) (hbad : ¬ (vp_in k1 16)) : TxM l ad yU_put (wsM yU_put cU_put 6 (some .long)) rmTP [.ref h0, .int k1, .long x2] := by
  refine tx_of (cc := cU_put) (maxL := 6) (ret := (some .long)) (by decide) rfl (Nat.le_of_ble_eq_true rfl) ?_
  intro p e s m args below meth c hx hb hml hown hts hX hF hlocks hno ls hl
  have hl : lv_has ls 6 [(0, .ref h0), (1, .int k1), (2, .long x2)] := hl
  have hS : va_S nA s.heap s.heap [] := va_S.rf
  refine lv_iload_n (pc := 0) hx hb dU_put_0 rfl (lv_at hl 1 rfl) ?_
  by_cases h_k1 : vp_in k1 16
  case neg => exact tx_S (pc := 1) (rest := []) ⟨hx, hb, hml, hown, hts⟩ (t_U_requireRegister l hlt ad h_k1) (twU_requireRegister hts w_41 ⟨by decide, by decide⟩) hX hF hlocks hno rfl hl.1 rfl (Nat.le_of_ble_eq_true rfl) dU_put_1 ⟨by decide, by decide⟩
  refine pu_Sv (pc := 1) (rest := []) ⟨hx, hb, hml, hown, hts⟩ (c_U_requireRegister l ad h_k1) (cwU_requireRegister hts w_41 ⟨by decide, by decide⟩) hF hS rfl hl.1 rfl (Nat.le_of_ble_eq_true rfl) dU_put_1 ⟨Nat.zero_le _, Nat.zero_le _⟩ ?_
  exact absurd h_k1 hbad
theorem twU_bits {R : Room} {s : State} {args : Array Value} {w0 : Cond} {own : String} {idx : Nat} (hts : ∀ w ∈ (w0 :: bigW), w.before args s = true) (hl : Cond.methodLink own idx yU_bits ∈ bigW) (hR : rmTP.frames + 1 ≤ R.frames ∧ 8 + (2 + 11) + rmTP.locals ≤ R.locals) : CallW R s args own "FloatUnit" idx yU_bits cU_bits 2 (some .long) (wsM yU_bits cU_bits 2 (some .long)) rmTP 1 6 1 :=
  cwV 1 hts (big_V hl w_114 w_115 w_1 w_116) rfl rfl rfl ⟨rfl, by decide, by decide, by decide +kernel⟩ hR
set_option maxRecDepth 100000 in
theorem t_U_bits (l : Launch) (hlt : l.stackTraces = false) (ad : Nat → Nat) (h0 : Nat) (k1 : Int32) (hbad : ¬ (vp_in k1 16)) : TxM l ad yU_bits (wsM yU_bits cU_bits 2 (some .long)) rmTP [.ref h0, .int k1] := by
  refine tx_of (cc := cU_bits) (maxL := 2) (ret := (some .long)) (by decide) rfl (Nat.le_of_ble_eq_true rfl) ?_
  intro p e s m args below meth c hx hb hml hown hts hX hF hlocks hno ls hl
  have hl : lv_has ls 2 [(0, .ref h0), (1, .int k1)] := hl
  have hS : va_S nA s.heap s.heap [] := va_S.rf
  refine lv_iload_n (pc := 0) hx hb dU_bits_0 rfl (lv_at hl 1 rfl) ?_
  by_cases h_k1 : vp_in k1 16
  case neg => exact tx_S (pc := 1) (rest := []) ⟨hx, hb, hml, hown, hts⟩ (t_U_requireRegister l hlt ad h_k1) (twU_requireRegister hts w_41 ⟨by decide, by decide⟩) hX hF hlocks hno rfl hl.1 rfl (Nat.le_of_ble_eq_true rfl) dU_bits_1 ⟨by decide, by decide⟩
  refine pu_Sv (pc := 1) (rest := []) ⟨hx, hb, hml, hown, hts⟩ (c_U_requireRegister l ad h_k1) (cwU_requireRegister hts w_41 ⟨by decide, by decide⟩) hF hS rfl hl.1 rfl (Nat.le_of_ble_eq_true rfl) dU_bits_1 ⟨Nat.zero_le _, Nat.zero_le _⟩ ?_
  exact absurd h_k1 hbad
theorem twU_mode {R : Room} {s : State} {args : Array Value} {w0 : Cond} {own : String} {idx : Nat} (hts : ∀ w ∈ (w0 :: bigW), w.before args s = true) (hl : Cond.methodLink own idx yU_mode ∈ bigW) (hR : rmTP.frames + 1 ≤ R.frames ∧ 8 + (3 + 11) + rmTP.locals ≤ R.locals) : CallW R s args own "FloatUnit" idx yU_mode cU_mode 3 (some .int) (wsM yU_mode cU_mode 3 (some .int)) rmTP 1 6 1 :=
  cwV 1 hts (big_V hl w_121 w_122 w_1 w_123) rfl rfl rfl ⟨rfl, by decide, by decide, by decide +kernel⟩ hR
set_option maxRecDepth 100000 in
theorem t_U_mode (l : Launch) (hlt : l.stackTraces = false) (ad : Nat → Nat) (h0 : Nat) (k1 : Int32) (hbad : ¬ (¬ k1 < 0 ∧ k1 ≤ 3)) : TxM l ad yU_mode (wsM yU_mode cU_mode 3 (some .int)) rmTP [.ref h0, .int k1] := by
  refine tx_of (cc := cU_mode) (maxL := 3) (ret := (some .int)) (by decide) rfl (Nat.le_of_ble_eq_true rfl) ?_
  intro p e s m args below meth c hx hb hml hown hts hX hF hlocks hno ls hl
  have hl : lv_has ls 3 [(0, .ref h0), (1, .int k1)] := hl
  have hS : va_S nA s.heap s.heap [] := va_S.rf
  obtain ⟨sa, hstr⟩ := hX.2.2.2.2.2.2.2.1
  have K : W p l e rmTP s m args below meth c s.heap [] 0 0 (tQ below args s) (F0 m 9 ls []) :=
    tx_new (pc := 9) hx hb hlt hts hown hX hstr hlocks hno (hl.1.trans hml.symm) dU_mode_9 dU_mode_12 dU_mode_13 dU_mode_15 dU_mode_18 (by decide)
  refine lv_iload_n (pc := 0) hx hb dU_mode_0 rfl (lv_at hl 1 rfl) ?_
  refine lv_if_lt (tgt := 9) (pc := 1) hx hb dU_mode_1 (by decide) (fun _ => K) (fun g0 => ?_)
  refine lv_iload_n (pc := 4) hx hb dU_mode_4 rfl (lv_at hl 1 rfl) ?_
  refine lv_iconst (v := 3) (pc := 5) hx hb dU_mode_5 (by decide) ?_
  exact lv_icmp_le (tgt := 19) (pc := 6) hx hb dU_mode_6 (by decide) (fun g1 => absurd ⟨g0, g1⟩ hbad) (fun _ => K)
theorem twU_work {R : Room} {s : State} {args : Array Value} {w0 : Cond} {own : String} {idx : Nat} (hts : ∀ w ∈ (w0 :: bigW), w.before args s = true) (hl : Cond.methodLink own idx yU_work ∈ bigW) (hR : rmTP.frames + 1 ≤ R.frames ∧ 8 + (7 + 11) + rmTP.locals ≤ R.locals) : CallW R s args own "FloatUnit" idx yU_work cU_work 7 (some .long) (wsM yU_work cU_work 7 (some .long)) rmTP 1 6 5 :=
  cwV 5 hts (big_V hl w_129 w_130 w_1 w_131) rfl rfl rfl ⟨rfl, by decide, by decide, by decide +kernel⟩ hR
set_option maxRecDepth 100000 in
theorem t_U_work (l : Launch) (hlt : l.stackTraces = false) (ad : Nat → Nat) (h0 : Nat) (k1 : Int32) (z2 : Bool) (k3 : Int32) (k4 : Int32) (k5 : Int32) (hbad : ¬ (vp_in k3 16 ∧ vp_in k4 16 ∧ vp_in k5 16 ∧ ¬ k1 < 0 ∧ k1 ≤ 4)) : TxM l ad yU_work (wsM yU_work cU_work 7 (some .long)) rmTP [.ref h0, .int k1, .int (bI z2), .int k3, .int k4, .int k5] := by
  refine tx_of (cc := cU_work) (maxL := 7) (ret := (some .long)) (by decide) rfl (Nat.le_of_ble_eq_true rfl) ?_
  intro p e s m args below meth c hx hb hml hown hts hX hF hlocks hno ls hl
  have hl : lv_has ls 7 [(0, .ref h0), (1, .int k1), (2, .int (bI z2)), (3, .int k3), (4, .int k4), (5, .int k5)] := hl
  have hS : va_S nA s.heap s.heap [] := va_S.rf
  refine lv_iload_n (pc := 0) hx hb dU_work_0 rfl (lv_at hl 3 rfl) ?_
  by_cases h_k3 : vp_in k3 16
  case neg => exact tx_S (pc := 1) (rest := []) ⟨hx, hb, hml, hown, hts⟩ (t_U_requireRegister l hlt ad h_k3) (twU_requireRegister hts w_41 ⟨by decide, by decide⟩) hX hF hlocks hno rfl hl.1 rfl (Nat.le_of_ble_eq_true rfl) dU_work_1 ⟨by decide, by decide⟩
  refine pu_Sv (pc := 1) (rest := []) ⟨hx, hb, hml, hown, hts⟩ (c_U_requireRegister l ad h_k3) (cwU_requireRegister hts w_41 ⟨by decide, by decide⟩) hF hS rfl hl.1 rfl (Nat.le_of_ble_eq_true rfl) dU_work_1 ⟨Nat.zero_le _, Nat.zero_le _⟩ ?_
  refine lv_iload (pc := 4) hx hb dU_work_4 (lv_at hl 4 rfl) ?_
  by_cases h_k4 : vp_in k4 16
  case neg => exact tx_S (pc := 6) (rest := []) ⟨hx, hb, hml, hown, hts⟩ (t_U_requireRegister l hlt ad h_k4) (twU_requireRegister hts w_41 ⟨by decide, by decide⟩) hX hF hlocks hno rfl hl.1 rfl (Nat.le_of_ble_eq_true rfl) dU_work_6 ⟨by decide, by decide⟩
  refine pu_Sv (pc := 6) (rest := []) ⟨hx, hb, hml, hown, hts⟩ (c_U_requireRegister l ad h_k4) (cwU_requireRegister hts w_41 ⟨by decide, by decide⟩) hF hS rfl hl.1 rfl (Nat.le_of_ble_eq_true rfl) dU_work_6 ⟨Nat.zero_le _, Nat.zero_le _⟩ ?_
  refine lv_iload (pc := 9) hx hb dU_work_9 (lv_at hl 5 rfl) ?_
  by_cases h_k5 : vp_in k5 16
  case neg => exact tx_S (pc := 11) (rest := []) ⟨hx, hb, hml, hown, hts⟩ (t_U_requireRegister l hlt ad h_k5) (twU_requireRegister hts w_41 ⟨by decide, by decide⟩) hX hF hlocks hno rfl hl.1 rfl (Nat.le_of_ble_eq_true rfl) dU_work_11 ⟨by decide, by decide⟩
  refine pu_Sv (pc := 11) (rest := []) ⟨hx, hb, hml, hown, hts⟩ (c_U_requireRegister l ad h_k5) (cwU_requireRegister hts w_41 ⟨by decide, by decide⟩) hF hS rfl hl.1 rfl (Nat.le_of_ble_eq_true rfl) dU_work_11 ⟨Nat.zero_le _, Nat.zero_le _⟩ ?_
  obtain ⟨sa, hstr⟩ := hX.2.2.2.2.2.2.2.2
  have K : W p l e rmTP s m args below meth c s.heap [] 0 0 (tQ below args s) (F0 m 23 ls []) :=
    tx_new (pc := 23) hx hb hlt hts hown hX hstr hlocks hno (hl.1.trans hml.symm) dU_work_23 dU_work_26 dU_work_27 dU_work_29 dU_work_32 (by decide)
  refine lv_iload_n (pc := 14) hx hb dU_work_14 rfl (lv_at hl 1 rfl) ?_
  refine lv_if_lt (tgt := 23) (pc := 15) hx hb dU_work_15 (by decide) (fun _ => K) (fun g0 => ?_)
  refine lv_iload_n (pc := 18) hx hb dU_work_18 rfl (lv_at hl 1 rfl) ?_
  refine lv_iconst (v := 4) (pc := 19) hx hb dU_work_19 (by decide) ?_
  exact lv_icmp_le (tgt := 33) (pc := 20) hx hb dU_work_20 (by decide) (fun g1 => absurd ⟨h_k3, h_k4, h_k5, g0, g1⟩ hbad) (fun _ => K)
theorem twU_compare {R : Room} {s : State} {args : Array Value} {w0 : Cond} {own : String} {idx : Nat} (hts : ∀ w ∈ (w0 :: bigW), w.before args s = true) (hl : Cond.methodLink own idx yU_compare ∈ bigW) (hR : rmTP.frames + 1 ≤ R.frames ∧ 8 + (10 + 11) + rmTP.locals ≤ R.locals) : CallW R s args own "FloatUnit" idx yU_compare cU_compare 10 (some .int) (wsM yU_compare cU_compare 10 (some .int)) rmTP 1 6 4 :=
  cwV 4 hts (big_V hl w_283 w_284 w_1 w_285) rfl rfl rfl ⟨rfl, by decide, by decide, by decide +kernel⟩ hR
set_option maxRecDepth 100000 in
theorem t_U_compare (l : Launch) (hlt : l.stackTraces = false) (ad : Nat → Nat) (h0 : Nat) (z1 : Bool) (k2 : Int32) (k3 : Int32) (k4 : Int32) (hbad : ¬ (vp_in k2 16 ∧ vp_in k3 16)) : TxM l ad yU_compare (wsM yU_compare cU_compare 10 (some .int)) rmTP [.ref h0, .int (bI z1), .int k2, .int k3, .int k4] := by
  refine tx_of (cc := cU_compare) (maxL := 10) (ret := (some .int)) (by decide) rfl (Nat.le_of_ble_eq_true rfl) ?_
  intro p e s m args below meth c hx hb hml hown hts hX hF hlocks hno ls hl
  have hl : lv_has ls 10 [(0, .ref h0), (1, .int (bI z1)), (2, .int k2), (3, .int k3), (4, .int k4)] := hl
  have hS : va_S nA s.heap s.heap [] := va_S.rf
  refine lv_iload_n (pc := 0) hx hb dU_compare_0 rfl (lv_at hl 2 rfl) ?_
  by_cases h_k2 : vp_in k2 16
  case neg => exact tx_S (pc := 1) (rest := []) ⟨hx, hb, hml, hown, hts⟩ (t_U_requireRegister l hlt ad h_k2) (twU_requireRegister hts w_41 ⟨by decide, by decide⟩) hX hF hlocks hno rfl hl.1 rfl (Nat.le_of_ble_eq_true rfl) dU_compare_1 ⟨by decide, by decide⟩
  refine pu_Sv (pc := 1) (rest := []) ⟨hx, hb, hml, hown, hts⟩ (c_U_requireRegister l ad h_k2) (cwU_requireRegister hts w_41 ⟨by decide, by decide⟩) hF hS rfl hl.1 rfl (Nat.le_of_ble_eq_true rfl) dU_compare_1 ⟨Nat.zero_le _, Nat.zero_le _⟩ ?_
  refine lv_iload_n (pc := 4) hx hb dU_compare_4 rfl (lv_at hl 3 rfl) ?_
  by_cases h_k3 : vp_in k3 16
  case neg => exact tx_S (pc := 5) (rest := []) ⟨hx, hb, hml, hown, hts⟩ (t_U_requireRegister l hlt ad h_k3) (twU_requireRegister hts w_41 ⟨by decide, by decide⟩) hX hF hlocks hno rfl hl.1 rfl (Nat.le_of_ble_eq_true rfl) dU_compare_5 ⟨by decide, by decide⟩
  refine pu_Sv (pc := 5) (rest := []) ⟨hx, hb, hml, hown, hts⟩ (c_U_requireRegister l ad h_k3) (cwU_requireRegister hts w_41 ⟨by decide, by decide⟩) hF hS rfl hl.1 rfl (Nat.le_of_ble_eq_true rfl) dU_compare_5 ⟨Nat.zero_le _, Nat.zero_le _⟩ ?_
  exact absurd ⟨h_k2, h_k3⟩ hbad
theorem twU_of {R : Room} {s : State} {args : Array Value} {w0 : Cond} {own : String} {idx : Nat} (hts : ∀ w ∈ (w0 :: bigW), w.before args s = true) (hl : Cond.methodLink own idx yU_of ∈ bigW) (hR : rmTP.frames + 1 ≤ R.frames ∧ 8 + (6 + 11) + rmTP.locals ≤ R.locals) : CallW R s args own "FloatUnit" idx yU_of cU_of 6 (some .long) (wsM yU_of cU_of 6 (some .long)) rmTP 1 6 3 :=
  cwV 3 hts (big_V hl w_295 w_296 w_1 w_297) rfl rfl rfl ⟨rfl, by decide, by decide, by decide +kernel⟩ hR
set_option maxRecDepth 100000 in
theorem t_U_of (l : Launch) (hlt : l.stackTraces = false) (ad : Nat → Nat) (h0 : Nat) (z1 : Bool) (k2 : Int32) (x3 : Int64) (hbad : ¬ (vp_in k2 16)) : TxM l ad yU_of (wsM yU_of cU_of 6 (some .long)) rmTP [.ref h0, .int (bI z1), .int k2, .long x3] := by
  refine tx_of (cc := cU_of) (maxL := 6) (ret := (some .long)) (by decide) rfl (Nat.le_of_ble_eq_true rfl) ?_
  intro p e s m args below meth c hx hb hml hown hts hX hF hlocks hno ls hl
  have hl : lv_has ls 6 [(0, .ref h0), (1, .int (bI z1)), (2, .int k2), (3, .long x3)] := hl
  have hS : va_S nA s.heap s.heap [] := va_S.rf
  refine lv_iload_n (pc := 0) hx hb dU_of_0 rfl (lv_at hl 2 rfl) ?_
  by_cases h_k2 : vp_in k2 16
  case neg => exact tx_S (pc := 1) (rest := []) ⟨hx, hb, hml, hown, hts⟩ (t_U_requireRegister l hlt ad h_k2) (twU_requireRegister hts w_41 ⟨by decide, by decide⟩) hX hF hlocks hno rfl hl.1 rfl (Nat.le_of_ble_eq_true rfl) dU_of_1 ⟨by decide, by decide⟩
  refine pu_Sv (pc := 1) (rest := []) ⟨hx, hb, hml, hown, hts⟩ (c_U_requireRegister l ad h_k2) (cwU_requireRegister hts w_41 ⟨by decide, by decide⟩) hF hS rfl hl.1 rfl (Nat.le_of_ble_eq_true rfl) dU_of_1 ⟨Nat.zero_le _, Nat.zero_le _⟩ ?_
  exact absurd h_k2 hbad
theorem twU_whole {R : Room} {s : State} {args : Array Value} {w0 : Cond} {own : String} {idx : Nat} (hts : ∀ w ∈ (w0 :: bigW), w.before args s = true) (hl : Cond.methodLink own idx yU_whole ∈ bigW) (hR : rmTP.frames + 1 ≤ R.frames ∧ 8 + (14 + 11) + rmTP.locals ≤ R.locals) : CallW R s args own "FloatUnit" idx yU_whole cU_whole 14 (some .long) (wsM yU_whole cU_whole 14 (some .long)) rmTP 1 6 3 :=
  cwV 3 hts (big_V hl w_302 w_303 w_1 w_304) rfl rfl rfl ⟨rfl, by decide, by decide, by decide +kernel⟩ hR
set_option maxRecDepth 100000 in
theorem t_U_whole (l : Launch) (hlt : l.stackTraces = false) (ad : Nat → Nat) (h0 : Nat) (z1 : Bool) (k2 : Int32) (z3 : Bool) (hbad : ¬ (vp_in k2 16)) : TxM l ad yU_whole (wsM yU_whole cU_whole 14 (some .long)) rmTP [.ref h0, .int (bI z1), .int k2, .int (bI z3)] := by
  refine tx_of (cc := cU_whole) (maxL := 14) (ret := (some .long)) (by decide) rfl (Nat.le_of_ble_eq_true rfl) ?_
  intro p e s m args below meth c hx hb hml hown hts hX hF hlocks hno ls hl
  have hl : lv_has ls 14 [(0, .ref h0), (1, .int (bI z1)), (2, .int k2), (3, .int (bI z3))] := hl
  have hS : va_S nA s.heap s.heap [] := va_S.rf
  refine lv_iload_n (pc := 0) hx hb dU_whole_0 rfl (lv_at hl 2 rfl) ?_
  by_cases h_k2 : vp_in k2 16
  case neg => exact tx_S (pc := 1) (rest := []) ⟨hx, hb, hml, hown, hts⟩ (t_U_requireRegister l hlt ad h_k2) (twU_requireRegister hts w_41 ⟨by decide, by decide⟩) hX hF hlocks hno rfl hl.1 rfl (Nat.le_of_ble_eq_true rfl) dU_whole_1 ⟨by decide, by decide⟩
  refine pu_Sv (pc := 1) (rest := []) ⟨hx, hb, hml, hown, hts⟩ (c_U_requireRegister l ad h_k2) (cwU_requireRegister hts w_41 ⟨by decide, by decide⟩) hF hS rfl hl.1 rfl (Nat.le_of_ble_eq_true rfl) dU_whole_1 ⟨Nat.zero_le _, Nat.zero_le _⟩ ?_
  exact absurd h_k2 hbad
theorem twU_turn {R : Room} {s : State} {args : Array Value} {w0 : Cond} {own : String} {idx : Nat} (hts : ∀ w ∈ (w0 :: bigW), w.before args s = true) (hl : Cond.methodLink own idx yU_turn ∈ bigW) (hR : rmTP.frames + 1 ≤ R.frames ∧ 8 + (4 + 11) + rmTP.locals ≤ R.locals) : CallW R s args own "FloatUnit" idx yU_turn cU_turn 4 (some .long) (wsM yU_turn cU_turn 4 (some .long)) rmTP 1 6 3 :=
  cwV 3 hts (big_V hl w_322 w_323 w_1 w_324) rfl rfl rfl ⟨rfl, by decide, by decide, by decide +kernel⟩ hR
set_option maxRecDepth 100000 in
theorem t_U_turn (l : Launch) (hlt : l.stackTraces = false) (ad : Nat → Nat) (h0 : Nat) (z1 : Bool) (k2 : Int32) (k3 : Int32) (hbad : ¬ (vp_in k2 16 ∧ vp_in k3 16)) : TxM l ad yU_turn (wsM yU_turn cU_turn 4 (some .long)) rmTP [.ref h0, .int (bI z1), .int k2, .int k3] := by
  refine tx_of (cc := cU_turn) (maxL := 4) (ret := (some .long)) (by decide) rfl (Nat.le_of_ble_eq_true rfl) ?_
  intro p e s m args below meth c hx hb hml hown hts hX hF hlocks hno ls hl
  have hl : lv_has ls 4 [(0, .ref h0), (1, .int (bI z1)), (2, .int k2), (3, .int k3)] := hl
  have hS : va_S nA s.heap s.heap [] := va_S.rf
  refine lv_iload_n (pc := 0) hx hb dU_turn_0 rfl (lv_at hl 2 rfl) ?_
  by_cases h_k2 : vp_in k2 16
  case neg => exact tx_S (pc := 1) (rest := []) ⟨hx, hb, hml, hown, hts⟩ (t_U_requireRegister l hlt ad h_k2) (twU_requireRegister hts w_41 ⟨by decide, by decide⟩) hX hF hlocks hno rfl hl.1 rfl (Nat.le_of_ble_eq_true rfl) dU_turn_1 ⟨by decide, by decide⟩
  refine pu_Sv (pc := 1) (rest := []) ⟨hx, hb, hml, hown, hts⟩ (c_U_requireRegister l ad h_k2) (cwU_requireRegister hts w_41 ⟨by decide, by decide⟩) hF hS rfl hl.1 rfl (Nat.le_of_ble_eq_true rfl) dU_turn_1 ⟨Nat.zero_le _, Nat.zero_le _⟩ ?_
  refine lv_iload_n (pc := 4) hx hb dU_turn_4 rfl (lv_at hl 3 rfl) ?_
  by_cases h_k3 : vp_in k3 16
  case neg => exact tx_S (pc := 5) (rest := []) ⟨hx, hb, hml, hown, hts⟩ (t_U_requireRegister l hlt ad h_k3) (twU_requireRegister hts w_41 ⟨by decide, by decide⟩) hX hF hlocks hno rfl hl.1 rfl (Nat.le_of_ble_eq_true rfl) dU_turn_5 ⟨by decide, by decide⟩
  refine pu_Sv (pc := 5) (rest := []) ⟨hx, hb, hml, hown, hts⟩ (c_U_requireRegister l ad h_k3) (cwU_requireRegister hts w_41 ⟨by decide, by decide⟩) hF hS rfl hl.1 rfl (Nat.le_of_ble_eq_true rfl) dU_turn_5 ⟨Nat.zero_le _, Nat.zero_le _⟩ ?_
  exact absurd ⟨h_k2, h_k3⟩ hbad
theorem twU_kind {R : Room} {s : State} {args : Array Value} {w0 : Cond} {own : String} {idx : Nat} (hts : ∀ w ∈ (w0 :: bigW), w.before args s = true) (hl : Cond.methodLink own idx yU_kind ∈ bigW) (hR : rmTP.frames + 1 ≤ R.frames ∧ 8 + (5 + 11) + rmTP.locals ≤ R.locals) : CallW R s args own "FloatUnit" idx yU_kind cU_kind 5 (some .int) (wsM yU_kind cU_kind 5 (some .int)) rmTP 1 6 2 :=
  cwV 2 hts (big_V hl w_333 w_334 w_1 w_335) rfl rfl rfl ⟨rfl, by decide, by decide, by decide +kernel⟩ hR
set_option maxRecDepth 100000 in
theorem t_U_kind (l : Launch) (hlt : l.stackTraces = false) (ad : Nat → Nat) (h0 : Nat) (z1 : Bool) (k2 : Int32) (hbad : ¬ (vp_in k2 16)) : TxM l ad yU_kind (wsM yU_kind cU_kind 5 (some .int)) rmTP [.ref h0, .int (bI z1), .int k2] := by
  refine tx_of (cc := cU_kind) (maxL := 5) (ret := (some .int)) (by decide) rfl (Nat.le_of_ble_eq_true rfl) ?_
  intro p e s m args below meth c hx hb hml hown hts hX hF hlocks hno ls hl
  have hl : lv_has ls 5 [(0, .ref h0), (1, .int (bI z1)), (2, .int k2)] := hl
  have hS : va_S nA s.heap s.heap [] := va_S.rf
  refine lv_iload_n (pc := 0) hx hb dU_kind_0 rfl (lv_at hl 2 rfl) ?_
  by_cases h_k2 : vp_in k2 16
  case neg => exact tx_S (pc := 1) (rest := []) ⟨hx, hb, hml, hown, hts⟩ (t_U_requireRegister l hlt ad h_k2) (twU_requireRegister hts w_41 ⟨by decide, by decide⟩) hX hF hlocks hno rfl hl.1 rfl (Nat.le_of_ble_eq_true rfl) dU_kind_1 ⟨by decide, by decide⟩
  refine pu_Sv (pc := 1) (rest := []) ⟨hx, hb, hml, hown, hts⟩ (c_U_requireRegister l ad h_k2) (cwU_requireRegister hts w_41 ⟨by decide, by decide⟩) hF hS rfl hl.1 rfl (Nat.le_of_ble_eq_true rfl) dU_kind_1 ⟨Nat.zero_le _, Nat.zero_le _⟩ ?_
  exact absurd h_k2 hbad
theorem twU_negate {R : Room} {s : State} {args : Array Value} {w0 : Cond} {own : String} {idx : Nat} (hts : ∀ w ∈ (w0 :: bigW), w.before args s = true) (hl : Cond.methodLink own idx yU_negate ∈ bigW) (hR : rmTP.frames + 1 ≤ R.frames ∧ 8 + (7 + 11) + rmTP.locals ≤ R.locals) : CallW R s args own "FloatUnit" idx yU_negate cU_negate 7 (some .long) (wsM yU_negate cU_negate 7 (some .long)) rmTP 1 6 3 :=
  cwV 3 hts (big_V hl w_347 w_348 w_1 w_349) rfl rfl rfl ⟨rfl, by decide, by decide, by decide +kernel⟩ hR
set_option maxRecDepth 100000 in
theorem t_U_negate (l : Launch) (hlt : l.stackTraces = false) (ad : Nat → Nat) (h0 : Nat) (z1 : Bool) (k2 : Int32) (k3 : Int32) (hbad : ¬ (vp_in k2 16 ∧ vp_in k3 16)) : TxM l ad yU_negate (wsM yU_negate cU_negate 7 (some .long)) rmTP [.ref h0, .int (bI z1), .int k2, .int k3] := by
  refine tx_of (cc := cU_negate) (maxL := 7) (ret := (some .long)) (by decide) rfl (Nat.le_of_ble_eq_true rfl) ?_
  intro p e s m args below meth c hx hb hml hown hts hX hF hlocks hno ls hl
  have hl : lv_has ls 7 [(0, .ref h0), (1, .int (bI z1)), (2, .int k2), (3, .int k3)] := hl
  have hS : va_S nA s.heap s.heap [] := va_S.rf
  refine lv_iload_n (pc := 0) hx hb dU_negate_0 rfl (lv_at hl 2 rfl) ?_
  by_cases h_k2 : vp_in k2 16
  case neg => exact tx_S (pc := 1) (rest := []) ⟨hx, hb, hml, hown, hts⟩ (t_U_requireRegister l hlt ad h_k2) (twU_requireRegister hts w_41 ⟨by decide, by decide⟩) hX hF hlocks hno rfl hl.1 rfl (Nat.le_of_ble_eq_true rfl) dU_negate_1 ⟨by decide, by decide⟩
  refine pu_Sv (pc := 1) (rest := []) ⟨hx, hb, hml, hown, hts⟩ (c_U_requireRegister l ad h_k2) (cwU_requireRegister hts w_41 ⟨by decide, by decide⟩) hF hS rfl hl.1 rfl (Nat.le_of_ble_eq_true rfl) dU_negate_1 ⟨Nat.zero_le _, Nat.zero_le _⟩ ?_
  refine lv_iload_n (pc := 4) hx hb dU_negate_4 rfl (lv_at hl 3 rfl) ?_
  by_cases h_k3 : vp_in k3 16
  case neg => exact tx_S (pc := 5) (rest := []) ⟨hx, hb, hml, hown, hts⟩ (t_U_requireRegister l hlt ad h_k3) (twU_requireRegister hts w_41 ⟨by decide, by decide⟩) hX hF hlocks hno rfl hl.1 rfl (Nat.le_of_ble_eq_true rfl) dU_negate_5 ⟨by decide, by decide⟩
  refine pu_Sv (pc := 5) (rest := []) ⟨hx, hb, hml, hown, hts⟩ (c_U_requireRegister l ad h_k3) (cwU_requireRegister hts w_41 ⟨by decide, by decide⟩) hF hS rfl hl.1 rfl (Nat.le_of_ble_eq_true rfl) dU_negate_5 ⟨Nat.zero_le _, Nat.zero_le _⟩ ?_
  exact absurd ⟨h_k2, h_k3⟩ hbad
