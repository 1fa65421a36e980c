/-! The law's small methods: each calls one method of the unit, catches, and lays the answer into 'out'. -/
def wA (h0 r0 o0 : Nat) : Nat → Prop := fun q => q = h0 ∨ q = r0 ∨ q = o0
def WUw (D : va_G) (cA : ClassId) (h0 r0 o0 : Nat) (md fl : Int32) (rg f : Nat → Int64) (U : State) (H : Heap) : Prop :=
  FUw D cA h0 r0 md fl rg U H ∧ H[o0]? = some (vp_cell cA (1, .inr (.inl f))) ∧ o0 ≠ h0 ∧ o0 ≠ r0
theorem fu_ne {D : va_G} {cA : ClassId} {h0 r0 : Nat} {md fl : Int32} {rg : Nat → Int64} {U : State} {H : Heap} (h : FUw D cA h0 r0 md fl rg U H) : h0 ≠ r0 := fun g => absurd (h.2.2.1 0 1 _ _ rfl rfl g) (by decide)
theorem fu_kept {D : va_G} {cA : ClassId} {h0 r0 : Nat} {md fl : Int32} {rg : Nat → Int64} {U : State} {H H1 : Heap} (h : FUw D cA h0 r0 md fl rg U H) (e0 : H1[h0]? = H[h0]?) (e1 : H1[r0]? = H[r0]?) : FUw D cA h0 r0 md fl rg U H1 :=
  ⟨va_P.kept h.1 (fun k q hk => by
    rcases k with _ | _ | k
    · cases hk
      exact e0
    · cases hk
      exact e1
    · cases hk), h.2⟩
theorem fu_lt {D : va_G} {cA : ClassId} {h0 r0 : Nat} {md fl : Int32} {rg : Nat → Int64} {U : State} {H : Heap} (h : FUw D cA h0 r0 md fl rg U H) : h0 < H.size ∧ r0 < H.size := ⟨(h.1 0 _ rfl).lt, (h.1 1 _ rfl).lt⟩
theorem wu_moved {D : va_G} {cA : ClassId} {h0 r0 o0 : Nat} {md fl : Int32} {rg f : Nat → Int64} {u U : State} {H : Heap} (hvm : u.vm.Alike U.vm) (h : WUw D cA h0 r0 o0 md fl rg f u H) : WUw D cA h0 r0 o0 md fl rg f U H := ⟨fuw_moved hvm h.1, h.2⟩
def WrM (l : Launch) (ad : Nat → Nat) (D : va_G) (cA : ClassId) (h0 r0 o0 : Nat) (y : MethodName) (ws : List Cond) (rm : Room) (av : List Value) (md fl : Int32) (rg f : Nat → Int64) (r : Int32) (md1 fl1 : Int32) (rg1 f1 : Nat → Int64) : Prop :=
  Met l y ws rm (va_Pc av (fun U => WUw D cA h0 r0 o0 md fl rg f U U.heap ∧ XM (wA h0 r0 o0) U U.heap ∧ FM ad (wA h0 r0 o0) U U.heap)) (fun _ st oc t => oc = .returned (some (.int r)) ∧ WUw D cA h0 r0 o0 md1 fl1 rg1 f1 t t.heap ∧ va_F (wA h0 r0 o0) st t) 1 6 (wA h0 r0 o0)
section WR
variable {p : Program} {l : Launch} {e : Env} {R : Room} {s : State} {m : MethodId} {args : Array Value} {below : List Frame} {meth : Method} {c : Code} {H : Heap} {locs : List Loc} {cells slots : Nat} {Q : State → Prop}
variable {w0 : Cond} {Ts ws ws' : List Cond} {cc bytes : ByteArray} {nL maxL index n : Nat} {own : String} {y : MethodName} {ret : Option FieldType} {rm : Room} {As av rest st : List Value} {pc : Nat} {ls : Array Slot} {ad : Nat → Nat} {A : Nat → Prop}
variable {D : va_G} {cA : ClassId} {h0 r0 o0 : Nat} {md fl md1 fl1 : Int32} {rg rg1 f f1 : Nat → Int64} {ov : Option Value}
/-- a call of the unit's method out of a larger world -/
theorem gu_V (F : CallFix p m c cc nL s args Ts own) (hM : FuM l ad D cA h0 r0 y ws rm As md fl rg ov md1 fl1 rg1) (cw : CallW R s args own "FloatUnit" index y bytes maxL ret ws rm 0 0 n) (hF : FM ad A s s.heap) (hAf : ∀ q, fA h0 r0 q → A q) (hw : FUw D cA h0 r0 md fl rg s H) (hS : va_S A s.heap H locs)
    (hn : As.length = n) (hsize : ls.size = nL) (hstack : st = As.reverse ++ .ref h0 :: rest) (hW : (rest.map fun v => v.category).sum ≤ 8) (hdg : decode cc pc = .ok (.invokevirtual index, 3)) (hf : cells ≤ R.cells ∧ slots ≤ R.slots)
    (kk : ∀ (H1 : Heap) (locs1 : List Loc), FUw D cA h0 r0 md1 fl1 rg1 s H1 → H.size ≤ H1.size → (∀ q : Nat, q < H.size → ¬ fA h0 r0 q → H1[q]? = H[q]?) → va_S A s.heap H1 locs1 → W p l e R s m args below meth c H1 locs1 cells slots Q (F0 m (pc + 3) ls (ov.toList ++ rest))) : W p l e R s m args below meth c H locs cells slots Q (F0 m pc ls st) := by
  have hr := va_runV (g := F0 m pc ls st) (cells := cells) (slots := slots) (locs := locs) (H := H) (rest := rest) (e := e) (below := below) (meth := meth) (mc := 0) (ms := 0) F hM cw
    ⟨fun a U g mk q => ⟨q.1, fuw_moved (u := U) (U := U.calling g mk a) (Vm.Alike.refl U.vm) q.2.1, fm_same (u := U) (U := U.calling g mk a) rfl q.2.2⟩, va_recv hw.2.1 hw.1 rfl (q0 := 0) rfl,
      fun U hU hWm => ⟨rfl, by rw [hU]; exact fuw_moved hWm.alike hw, by rw [hU]; exact fm_warm hWm (fm_narrow (fm_kept hF hS.2.1) hAf)⟩⟩ rfl hn hsize hstack (lv_room hW) hdg hf
  intro T hT X
  obtain ⟨v, st₀, t, T', L, g0, X', hL, e1, e2, ⟨hv, hw1, hz, hk⟩, sg⟩ := hr T hT X
  cases hv
  rw [g0] at hz hk
  have ha : s.vm.Alike t.vm := by rw [← e2]; exact X'.warmed.alike
  obtain ⟨t2, a1, b1⟩ := kk T'.heap (locs ++ L) (by rw [e1]; exact fuw_moved ha.symm hw1) (by rw [e1]; exact hz) (fun q h1 h2 => by rw [e1]; exact hk q h1 h2)
    ⟨Nat.le_trans hS.1 (by rw [e1]; exact hz), fun q h1 h2 => by rw [e1, hk q (Nat.lt_of_lt_of_le h1 hS.1) (fun z => h2 (hAf q z))]; exact hS.2.1 q h1 h2, fun q hq => by
      rcases List.mem_append.mp hq with h | h
      · exact hS.2.2 q h
      · exact hAf _ (hL q h)⟩ T' rfl X'
  exact ⟨t2, sg t2 a1, b1⟩
/-- .. that throws -/
theorem gt_V (F : CallFix p m c cc nL s args Ts own) (hM : TxM l ad y ws rm (.ref h0 :: As)) (cw : CallW R s args own "FloatUnit" index y bytes maxL ret ws rm 1 6 n) (hX : XM A s s.heap) (hF : FM ad A s s.heap) (hw : FUw D cA h0 r0 md fl rg s H) (hS : va_S A s.heap H locs)
    (hn : As.length = n) (hsize : ls.size = nL) (hstack : st = As.reverse ++ .ref h0 :: rest) (hW : (rest.map fun v => v.category).sum ≤ 8) (hdg : decode cc pc = .ok (.invokevirtual index, 3)) (hf : cells + 1 ≤ R.cells ∧ slots + 6 ≤ R.slots)
    (kx : ∀ (q9 : Addr) (ce : Cell) (H1 : Heap), H.size ≤ H1.size → (∀ q : Nat, q < H.size → H1[q]? = H[q]?) → va_S A s.heap H1 locs → H1[q9]? = some ce → ce.vm = .none → s.vm.findClass iae = some ce.cls → vx_W p l e R s m args below meth c H1 locs (cells + 1) (slots + 6) Q (F0 m pc ls rest) q9) : W p l e R s m args below meth c H locs cells slots Q (F0 m pc ls st) := by
  have hr := vx_runV (g := F0 m pc ls st) (cells := cells) (slots := slots) (locs := locs) (H := H) (rest := rest) (e := e) (below := below) (meth := meth) (mc := 1) (ms := 6) F hM cw
    ⟨fun a U g mk q => ⟨q.1, xm_same (u := U) (U := U.calling g mk a) rfl q.2.1, fm_same (u := U) (U := U.calling g mk a) rfl q.2.2⟩, va_recv hw.2.1 hw.1 rfl (q0 := 0) rfl,
      fun U hU hWm => ⟨rfl, by rw [hU]; exact xm_warm hWm (xm_narrow (xm_kept hX hS.2.1) (fun _ h => h.elim)), by rw [hU]; exact fm_warm hWm (fm_narrow (fm_kept hF hS.2.1) (fun _ h => h.elim))⟩⟩ rfl hn hsize hstack (lv_room hW) hdg hf
  intro T hT X
  rcases hr T hT X with ⟨v, st₀, t, T', L, g0, X', hL, e1, e2, hq, sg⟩ | ⟨q, st₀, t, T', L, E, ce, g0, X', hL, e1, e2, ⟨rfl, hz, hk⟩, hce, hcv, hcl, sg⟩
  · exact hq.elim
  · have hL0 : L = [] := by
      cases L with
      | nil => rfl
      | cons a L => exact (hL a List.mem_cons_self).elim
    subst hL0
    rw [g0] at hz hk
    rw [List.append_nil] at X'
    have hk2 : ∀ q : Nat, q < H.size → T'.heap[q]? = H[q]? := fun q h => by rw [e1]; exact hk q h (fun z => z)
    obtain ⟨t2, a1, b1⟩ := kx q ce T'.heap (by rw [e1]; exact hz) hk2 ⟨Nat.le_trans hS.1 (by rw [e1]; exact hz), fun q h1 h2 => by rw [hk2 q (Nat.lt_of_lt_of_le h1 hS.1)]; exact hS.2.1 q h1 h2, hS.2.2⟩ (by rw [e1]; exact hce) hcv hcl T' rfl X'
    exact ⟨t2, sg.trans a1, b1⟩
theorem wu_st (hx : p.tables.exec = Jvm.exec) (hb : c.code = cc) (hw : WUw D cA h0 r0 o0 md fl rg f s H) (hS : va_S A s.heap H locs) (hA : ∀ q, wA h0 r0 o0 q → A q) {x : Int64} (hdg : decode cc pc = .ok (.lastore, 1))
    (kk : ∀ (H1 : Heap) (locs1 : List Loc), WUw D cA h0 r0 o0 md fl rg (vp_updL f 0 x) s H1 → va_S A s.heap H1 locs1 → W p l e R s m args below meth c H1 locs1 cells slots Q (F0 m (pc + 1) ls rest)) : W p l e R s m args below meth c H locs cells slots Q (F0 m pc ls (.long x :: .int 0 :: .ref o0 :: rest)) := by
  have hne := fu_ne hw.1
  have hP : va_P D clW [(h0, .inr (0, [.ref r0, .int md, .int fl])), (r0, .inl (cA, 16, .inr (.inl rg))), (o0, .inl (cA, 1, .inr (.inl f)))] H := fun k q hk => by
    rcases k with _ | _ | _ | k
    · exact hw.1.1 0 q hk
    · exact hw.1.1 1 q hk
    · cases hk
      exact hw.2.1
    · cases hk
  have hD : va_D A [(h0, .inr (0, [.ref r0, .int md, .int fl])), (r0, .inl (cA, 16, .inr (.inl rg))), (o0, .inl (cA, 1, .inr (.inl f)))] := ⟨fun i j a b ha hb g => by
    rcases i with _ | _ | _ | i <;> rcases j with _ | _ | _ | j <;> first | rfl | (cases ha; done) | (cases hb; done) | (cases ha; cases hb; exfalso; first | exact hne g | exact hne g.symm | exact hw.2.2.1 g | exact hw.2.2.1 g.symm | exact hw.2.2.2 g | exact hw.2.2.2 g.symm), fun k q hk => by
    rcases k with _ | _ | _ | k
    · cases hk
      exact hA _ (Or.inl rfl)
    · cases hk
      exact hA _ (Or.inr (Or.inl rfl))
    · cases hk
      exact hA _ (Or.inr (Or.inr rfl))
    · cases hk⟩
  refine va_last (D := D) (cl := clW) hx hb hw.1.2.1 hP hD hS 2 0 rfl rfl (i := 0) (vp_in_iff.2 (by decide)) hdg (fun H1 locs1 hP hD hS => ?_)
  have hP2 : va_P D clW (FUc h0 r0 cA md fl rg) H1 := fun k q hk => by
    rcases k with _ | _ | k
    · exact hP 0 q hk
    · exact hP 1 q hk
    · cases hk
  exact kk H1 locs1 ⟨⟨hP2, hw.1.2⟩, hP 2 _ rfl, hw.2.2⟩ hS
/-- the unit's cells behind a call, 'out' as it was -/
theorem wu_join {H1 : Heap} (hw : WUw D cA h0 r0 o0 md fl rg f s H) (h1 : FUw D cA h0 r0 md1 fl1 rg1 s H1) (hk : ∀ q : Nat, q < H.size → ¬ fA h0 r0 q → H1[q]? = H[q]?) : WUw D cA h0 r0 o0 md1 fl1 rg1 f s H1 := by
  have ho : o0 < H.size := (Array.getElem?_eq_some_iff.mp hw.2.1).1
  exact ⟨h1, by rw [hk o0 ho (fun g => g.elim hw.2.2.1 hw.2.2.2)]; exact hw.2.1, hw.2.2⟩
theorem wu_kept {H1 : Heap} (hw : WUw D cA h0 r0 o0 md fl rg f s H) (hk : ∀ q : Nat, q < H.size → H1[q]? = H[q]?) : WUw D cA h0 r0 o0 md fl rg f s H1 :=
  ⟨fu_kept hw.1 (hk _ (fu_lt hw.1).1) (hk _ (fu_lt hw.1).2), by rw [hk _ (Array.getElem?_eq_some_iff.mp hw.2.1).1]; exact hw.2.1, hw.2.2⟩
end WR
def wsW (y : MethodName) (c : ByteArray) (n : Nat) (hh : List (Nat × Nat × Nat × Nat)) : List Cond := Cond.codeWith y c n (some .int) hh :: bigW
theorem wr_of {l : Launch} {ad : Nat → Nat} {D : va_G} {cA : ClassId} {h0 r0 o0 : Nat} {y : MethodName} {rm : Room} {av : List Value} {md fl md1 fl1 r : Int32} {rg rg1 f f1 : Nat → Int64} {cc : ByteArray} {maxL : Nat} {hh : List (Nat × Nat × Nat × Nat)} (hy : plainName y.cls = true) (hn : (lg_sl av).length ≤ maxL)
    (body : ∀ (p : Program) (e : Env) (s : State) (m : MethodId) (args : Array Value) (below : List Frame) (meth : Method) (c : Code) (Q : State → Prop), p.tables.exec = Jvm.exec → c.code = cc → c.maxLocals = maxL → s.vm.findClass y.cls = some m.cls → (∀ w ∈ (Cond.codeWith y cc maxL (some .int) hh :: bigW), w.before args s = true) → c.exceptionTable.toList = tableOf hh → XM (wA h0 r0 o0) s s.heap → FM ad (wA h0 r0 o0) s s.heap → ∀ (H : Heap), va_S (wA h0 r0 o0) s.heap H [] → WUw D cA h0 r0 o0 md fl rg f s H →
      (∀ (pc : Nat) (ls : Array Slot) (v : Int32) (md2 fl2 : Int32) (rg2 f2 : Nat → Int64) (H : Heap) (locs : List Loc), v = r → md2 = md1 → fl2 = fl1 → rg2 = rg1 → f2 = f1 → WUw D cA h0 r0 o0 md2 fl2 rg2 f2 s H → va_S (wA h0 r0 o0) s.heap H locs → decode cc pc = .ok (.ireturn, 1) → W p l e rm s m args below meth c H locs 1 6 Q (F0 m pc ls [.int v])) →
      ∀ ls : Array Slot, lv_has ls maxL (lv_args 0 av) → W p l e rm s m args below meth c H [] 0 0 Q (F0 m 0 ls [])) :
    WrM l ad D cA h0 r0 o0 y (wsW y cc maxL hh) rm av md fl rg f r md1 fl1 rg1 f1 := by
  refine va_MetW (cc := cc) (maxL := maxL) (ret := some .int) (hh := hh) hy rfl ?_
  intro p e s m args below meth c s₁ B hml hv
  obtain ⟨rfl, hh9, hX, hF⟩ := hv
  have hts := atoms_spec (ws := wsW y cc maxL hh) B.pre
  rw [lg_entry_eq]
  exact body p e s m _ below meth c _ B.exec B.bytes hml (findClass_of_methodNamed B.named) hts (vx_table (x := y) B (hts _ List.mem_cons_self)) hX hF s.heap va_S.rf hh9 (fun pc ls v md2 fl2 rg2 f2 H locs hv e1 e2 e3 e4 hw hS hd => by subst hv e1 e2 e3 e4; exact W.iret B.exec B.bytes B.returns (fun t ht hW => ⟨rfl, by rw [ht]; exact wu_moved hW.alike hw, hS.F ht⟩) hS.2.2 hd B.notSynchronized) _ (lv_entry _ hn)
abbrev rmL_put : Room := { frames := 8, cells := 1, slots := 6, locals := 145 }
theorem cwL_put {R : Room} {s : State} {args : Array Value} {w0 : Cond} {own : String} {idx : Nat} (hts : ∀ w ∈ (w0 :: bigW), w.before args s = true) (hl : Cond.methodLink own idx yL_put ∈ bigW) (hR : rmL_put.frames + 1 ≤ R.frames ∧ 8 + (6 + 11) + rmL_put.locals ≤ R.locals) : vx_CSW R s args own idx yL_put cL_put 6 (some .int) [(0, 10, 13, 13)] (wsW yL_put cL_put 6 [(0, 10, 13, 13)]) rmL_put 1 6 4 :=
  vx_cwSW 4 hts (big_in (fun w hw => by
    rcases List.mem_append.1 hw with h | h
    · simp only [List.mem_cons, List.not_mem_nil, or_false] at h
      rcases h with rfl | rfl | rfl
      · exact hl
      · exact w_34
      · exact w_0
    · rcases List.mem_cons.1 h with rfl | h
      · exact w_35
      · exact h)) rfl rfl rfl ⟨by decide, by decide, by decide +kernel⟩ hR
set_option maxRecDepth 100000 in
set_option maxHeartbeats 4000000 in
theorem c_L_put (l : Launch) (ad : Nat → Nat) (D : va_G) (cA : ClassId) (h0 r0 o0 : Nat) (md fl : Int32) (rg f : Nat → Int64) (k1 : Int32) (x2 : Int64) (h_k1 : vp_in k1 16) : WrM l ad D cA h0 r0 o0 yL_put (wsW yL_put cL_put 6 [(0, 10, 13, 13)]) rmL_put [.ref h0, .int k1, .long x2, .ref o0] md fl rg f 0 md fl (vp_updL rg k1.toNatClampNeg x2) (vp_updL f 0 (C_U_put md fl rg k1 x2)) := by
  refine wr_of (by decide) (Nat.le_of_ble_eq_true rfl) ?_
  intro p e s m args below meth c Q hx hb hml hown hts hTab hX hF H hS hw hret ls hl
  have hl : lv_has ls 6 [(0, .ref h0), (1, .int k1), (2, .long x2), (4, .ref o0)] := hl
  refine lv_aload (pc := 0) hx hb dL_put_0 (lv_at hl 3 rfl) ?_
  refine lv_iconst (v := 0) (pc := 2) hx hb dL_put_2 (by decide) ?_
  refine lv_aload_n (pc := 3) hx hb dL_put_3 rfl (lv_at hl 0 rfl) ?_
  refine lv_iload_n (pc := 4) hx hb dL_put_4 rfl (lv_at hl 1 rfl) ?_
  refine lv_lload_n (pc := 5) hx hb dL_put_5 rfl (lv_at hl 2 rfl) ?_
  refine gu_V (pc := 6) (rest := [.int 0, .ref o0]) ⟨hx, hb, hml, hown, hts⟩ (c_U_put l ad D cA h0 r0 md fl rg k1 x2 h_k1) (cwU_put hts w_37 ⟨by decide, by decide⟩) hF (fun q g => g.elim (fun g => Or.inl g) (fun g => Or.inr (Or.inl g))) hw.1 hS rfl hl.1 rfl (Nat.le_of_ble_eq_true rfl) dL_put_6 ⟨Nat.zero_le _, Nat.zero_le _⟩ (fun H1 locs h1 hz hk hS => ?_)
  have hw := wu_join hw h1 hk
  refine W.eq (g2 := F0 m 9 ls [.long (C_U_put md fl rg k1 x2), .int 0, .ref o0]) rfl ?_
  refine wu_st (pc := 9) hx hb hw hS (fun _ g => g) dL_put_9 (fun H locs hw hS => ?_)
  refine lv_goto (tgt := 17) (pc := 10) hx hb dL_put_10 (by decide) ?_
  refine lv_iconst (v := 0) (pc := 17) hx hb dL_put_17 (by decide) ?_
  refine W.widen (k := 1) (n := 6) (by decide) (by decide) ?_
  exact hret _ _ _ _ _ _ _ _ _ rfl rfl rfl rfl rfl hw hS dL_put_18
set_option maxRecDepth 100000 in
set_option maxHeartbeats 4000000 in
theorem t_L_put (l : Launch) (ad : Nat → Nat) (D : va_G) (cA : ClassId) (h0 r0 o0 : Nat) (md fl : Int32) (rg f : Nat → Int64) (k1 : Int32) (x2 : Int64) (hlt : l.stackTraces = false) (hbad : ¬ (vp_in k1 16)) : WrM l ad D cA h0 r0 o0 yL_put (wsW yL_put cL_put 6 [(0, 10, 13, 13)]) rmL_put [.ref h0, .int k1, .long x2, .ref o0] md fl rg f 1 md fl rg f := by
  refine wr_of (by decide) (Nat.le_of_ble_eq_true rfl) ?_
  intro p e s m args below meth c Q hx hb hml hown hts hTab hX hF H hS hw hret ls hl
  have hl : lv_has ls 6 [(0, .ref h0), (1, .int k1), (2, .long x2), (4, .ref o0)] := hl
  refine lv_aload (pc := 0) hx hb dL_put_0 (lv_at hl 3 rfl) ?_
  refine lv_iconst (v := 0) (pc := 2) hx hb dL_put_2 (by decide) ?_
  refine lv_aload_n (pc := 3) hx hb dL_put_3 rfl (lv_at hl 0 rfl) ?_
  refine lv_iload_n (pc := 4) hx hb dL_put_4 rfl (lv_at hl 1 rfl) ?_
  refine lv_lload_n (pc := 5) hx hb dL_put_5 rfl (lv_at hl 2 rfl) ?_
  refine gt_V (pc := 6) (rest := [.int 0, .ref o0]) ⟨hx, hb, hml, hown, hts⟩ (t_U_put l hlt ad h0 k1 x2 hbad) (twU_put hts w_37 ⟨by decide, by decide⟩) hX hF hw.1 hS rfl hl.1 rfl (Nat.le_of_ble_eq_true rfl) dL_put_6 ⟨by decide, by decide⟩ (fun q9 ce H1 hz hk hS hce hcv hcl => ?_)
  have hw := wu_kept hw hk
  refine vx_catch (own := "FloatUnitLaw") (name := iae) (E := iae) hown [] ⟨0, 10, 13, 13⟩ [] (hTab.trans rfl) (fun z hz => nomatch hz) rfl (by decide) (hts _ (List.mem_cons_of_mem _ w_36)) (va_Nw.use rfl hX.2.2.1) hce hcv hcl ?_
  refine lv_astore (lv' := [(5, .ref q9), (0, .ref h0), (1, .int k1), (2, .long x2), (4, .ref o0)]) (pc := 13) hx hb dL_put_13 hl (by decide) rfl (fun ls hl => ?_)
  refine lv_iconst (v := 1) (pc := 15) hx hb dL_put_15 (by decide) ?_
  exact hret _ _ _ _ _ _ _ _ _ rfl rfl rfl rfl rfl hw hS dL_put_16
abbrev rmL_bits : Room := { frames := 8, cells := 1, slots := 6, locals := 141 }
theorem cwL_bits {R : Room} {s : State} {args : Array Value} {w0 : Cond} {own : String} {idx : Nat} (hts : ∀ w ∈ (w0 :: bigW), w.before args s = true) (hl : Cond.methodLink own idx yL_bits ∈ bigW) (hR : rmL_bits.frames + 1 ≤ R.frames ∧ 8 + (4 + 11) + rmL_bits.locals ≤ R.locals) : vx_CSW R s args own idx yL_bits cL_bits 4 (some .int) [(0, 8, 11, 13)] (wsW yL_bits cL_bits 4 [(0, 8, 11, 13)]) rmL_bits 1 6 3 :=
  vx_cwSW 3 hts (big_in (fun w hw => by
    rcases List.mem_append.1 hw with h | h
    · simp only [List.mem_cons, List.not_mem_nil, or_false] at h
      rcases h with rfl | rfl | rfl
      · exact hl
      · exact w_111
      · exact w_0
    · rcases List.mem_cons.1 h with rfl | h
      · exact w_112
      · exact h)) rfl rfl rfl ⟨by decide, by decide, by decide +kernel⟩ hR
set_option maxRecDepth 100000 in
set_option maxHeartbeats 4000000 in
theorem c_L_bits (l : Launch) (ad : Nat → Nat) (D : va_G) (cA : ClassId) (h0 r0 o0 : Nat) (md fl : Int32) (rg f : Nat → Int64) (k1 : Int32) (h_k1 : vp_in k1 16) : WrM l ad D cA h0 r0 o0 yL_bits (wsW yL_bits cL_bits 4 [(0, 8, 11, 13)]) rmL_bits [.ref h0, .int k1, .ref o0] md fl rg f 0 md fl rg (vp_updL f 0 (C_U_bits md fl rg k1)) := by
  refine wr_of (by decide) (Nat.le_of_ble_eq_true rfl) ?_
  intro p e s m args below meth c Q hx hb hml hown hts hTab hX hF H hS hw hret ls hl
  have hl : lv_has ls 4 [(0, .ref h0), (1, .int k1), (2, .ref o0)] := hl
  refine lv_aload_n (pc := 0) hx hb dL_bits_0 rfl (lv_at hl 2 rfl) ?_
  refine lv_iconst (v := 0) (pc := 1) hx hb dL_bits_1 (by decide) ?_
  refine lv_aload_n (pc := 2) hx hb dL_bits_2 rfl (lv_at hl 0 rfl) ?_
  refine lv_iload_n (pc := 3) hx hb dL_bits_3 rfl (lv_at hl 1 rfl) ?_
  refine gu_V (pc := 4) (rest := [.int 0, .ref o0]) ⟨hx, hb, hml, hown, hts⟩ (c_U_bits l ad D cA h0 r0 md fl rg k1 h_k1) (cwU_bits hts w_113 ⟨by decide, by decide⟩) hF (fun q g => g.elim (fun g => Or.inl g) (fun g => Or.inr (Or.inl g))) hw.1 hS rfl hl.1 rfl (Nat.le_of_ble_eq_true rfl) dL_bits_4 ⟨Nat.zero_le _, Nat.zero_le _⟩ (fun H1 locs h1 hz hk hS => ?_)
  have hw := wu_join hw h1 hk
  refine W.eq (g2 := F0 m 7 ls [.long (C_U_bits md fl rg k1), .int 0, .ref o0]) rfl ?_
  refine wu_st (pc := 7) hx hb hw hS (fun _ g => g) dL_bits_7 (fun H locs hw hS => ?_)
  refine lv_goto (tgt := 14) (pc := 8) hx hb dL_bits_8 (by decide) ?_
  refine lv_iconst (v := 0) (pc := 14) hx hb dL_bits_14 (by decide) ?_
  refine W.widen (k := 1) (n := 6) (by decide) (by decide) ?_
  exact hret _ _ _ _ _ _ _ _ _ rfl rfl rfl rfl rfl hw hS dL_bits_15
set_option maxRecDepth 100000 in
set_option maxHeartbeats 4000000 in
theorem t_L_bits (l : Launch) (ad : Nat → Nat) (D : va_G) (cA : ClassId) (h0 r0 o0 : Nat) (md fl : Int32) (rg f : Nat → Int64) (k1 : Int32) (hlt : l.stackTraces = false) (hbad : ¬ (vp_in k1 16)) : WrM l ad D cA h0 r0 o0 yL_bits (wsW yL_bits cL_bits 4 [(0, 8, 11, 13)]) rmL_bits [.ref h0, .int k1, .ref o0] md fl rg f 1 md fl rg f := by
  refine wr_of (by decide) (Nat.le_of_ble_eq_true rfl) ?_
  intro p e s m args below meth c Q hx hb hml hown hts hTab hX hF H hS hw hret ls hl
  have hl : lv_has ls 4 [(0, .ref h0), (1, .int k1), (2, .ref o0)] := hl
  refine lv_aload_n (pc := 0) hx hb dL_bits_0 rfl (lv_at hl 2 rfl) ?_
  refine lv_iconst (v := 0) (pc := 1) hx hb dL_bits_1 (by decide) ?_
  refine lv_aload_n (pc := 2) hx hb dL_bits_2 rfl (lv_at hl 0 rfl) ?_
  refine lv_iload_n (pc := 3) hx hb dL_bits_3 rfl (lv_at hl 1 rfl) ?_
  refine gt_V (pc := 4) (rest := [.int 0, .ref o0]) ⟨hx, hb, hml, hown, hts⟩ (t_U_bits l hlt ad h0 k1 hbad) (twU_bits hts w_113 ⟨by decide, by decide⟩) hX hF hw.1 hS rfl hl.1 rfl (Nat.le_of_ble_eq_true rfl) dL_bits_4 ⟨by decide, by decide⟩ (fun q9 ce H1 hz hk hS hce hcv hcl => ?_)
  have hw := wu_kept hw hk
  refine vx_catch (own := "FloatUnitLaw") (name := iae) (E := iae) hown [] ⟨0, 8, 11, 13⟩ [] (hTab.trans rfl) (fun z hz => nomatch hz) rfl (by decide) (hts _ (List.mem_cons_of_mem _ w_36)) (va_Nw.use rfl hX.2.2.1) hce hcv hcl ?_
  refine lv_astore_n (lv' := [(3, .ref q9), (0, .ref h0), (1, .int k1), (2, .ref o0)]) (pc := 11) hx hb dL_bits_11 rfl hl (by decide) rfl (fun ls hl => ?_)
  refine lv_iconst (v := 1) (pc := 12) hx hb dL_bits_12 (by decide) ?_
  exact hret _ _ _ _ _ _ _ _ _ rfl rfl rfl rfl rfl hw hS dL_bits_13
abbrev rmL_mode : Room := { frames := 8, cells := 1, slots := 6, locals := 142 }
theorem cwL_mode {R : Room} {s : State} {args : Array Value} {w0 : Cond} {own : String} {idx : Nat} (hts : ∀ w ∈ (w0 :: bigW), w.before args s = true) (hl : Cond.methodLink own idx yL_mode ∈ bigW) (hR : rmL_mode.frames + 1 ≤ R.frames ∧ 8 + (4 + 11) + rmL_mode.locals ≤ R.locals) : vx_CSW R s args own idx yL_mode cL_mode 4 (some .int) [(0, 9, 12, 13)] (wsW yL_mode cL_mode 4 [(0, 9, 12, 13)]) rmL_mode 1 6 3 :=
  vx_cwSW 3 hts (big_in (fun w hw => by
    rcases List.mem_append.1 hw with h | h
    · simp only [List.mem_cons, List.not_mem_nil, or_false] at h
      rcases h with rfl | rfl | rfl
      · exact hl
      · exact w_118
      · exact w_0
    · rcases List.mem_cons.1 h with rfl | h
      · exact w_119
      · exact h)) rfl rfl rfl ⟨by decide, by decide, by decide +kernel⟩ hR
set_option maxRecDepth 100000 in
set_option maxHeartbeats 4000000 in
theorem c_L_mode (l : Launch) (ad : Nat → Nat) (D : va_G) (cA : ClassId) (h0 r0 o0 : Nat) (md fl : Int32) (rg f : Nat → Int64) (k1 : Int32) (g0 : ¬ k1 < 0) (g1 : k1 ≤ 3) : WrM l ad D cA h0 r0 o0 yL_mode (wsW yL_mode cL_mode 4 [(0, 9, 12, 13)]) rmL_mode [.ref h0, .int k1, .ref o0] md fl rg f 0 k1 fl rg (vp_updL f 0 ((C_U_mode md fl rg k1).toInt64)) := by
  refine wr_of (by decide) (Nat.le_of_ble_eq_true rfl) ?_
  intro p e s m args below meth c Q hx hb hml hown hts hTab hX hF H hS hw hret ls hl
  have hl : lv_has ls 4 [(0, .ref h0), (1, .int k1), (2, .ref o0)] := hl
  refine lv_aload_n (pc := 0) hx hb dL_mode_0 rfl (lv_at hl 2 rfl) ?_
  refine lv_iconst (v := 0) (pc := 1) hx hb dL_mode_1 (by decide) ?_
  refine lv_aload_n (pc := 2) hx hb dL_mode_2 rfl (lv_at hl 0 rfl) ?_
  refine lv_iload_n (pc := 3) hx hb dL_mode_3 rfl (lv_at hl 1 rfl) ?_
  refine gu_V (pc := 4) (rest := [.int 0, .ref o0]) ⟨hx, hb, hml, hown, hts⟩ (c_U_mode l ad D cA h0 r0 md fl rg k1 g0 g1) (cwU_mode hts w_120 ⟨by decide, by decide⟩) hF (fun q g => g.elim (fun g => Or.inl g) (fun g => Or.inr (Or.inl g))) hw.1 hS rfl hl.1 rfl (Nat.le_of_ble_eq_true rfl) dL_mode_4 ⟨Nat.zero_le _, Nat.zero_le _⟩ (fun H1 locs h1 hz hk hS => ?_)
  have hw := wu_join hw h1 hk
  refine W.eq (g2 := F0 m 7 ls [.int (C_U_mode md fl rg k1), .int 0, .ref o0]) rfl ?_
  refine lv_i2l (v := (C_U_mode md fl rg k1).toInt64) (pc := 7) hx hb dL_mode_7 rfl ?_
  refine wu_st (pc := 8) hx hb hw hS (fun _ g => g) dL_mode_8 (fun H locs hw hS => ?_)
  refine lv_goto (tgt := 15) (pc := 9) hx hb dL_mode_9 (by decide) ?_
  refine lv_iconst (v := 0) (pc := 15) hx hb dL_mode_15 (by decide) ?_
  refine W.widen (k := 1) (n := 6) (by decide) (by decide) ?_
  exact hret _ _ _ _ _ _ _ _ _ rfl rfl rfl rfl rfl hw hS dL_mode_16
set_option maxRecDepth 100000 in
set_option maxHeartbeats 4000000 in
theorem t_L_mode (l : Launch) (ad : Nat → Nat) (D : va_G) (cA : ClassId) (h0 r0 o0 : Nat) (md fl : Int32) (rg f : Nat → Int64) (k1 : Int32) (hlt : l.stackTraces = false) (hbad : ¬ (¬ k1 < 0 ∧ k1 ≤ 3)) : WrM l ad D cA h0 r0 o0 yL_mode (wsW yL_mode cL_mode 4 [(0, 9, 12, 13)]) rmL_mode [.ref h0, .int k1, .ref o0] md fl rg f 1 md fl rg f := by
  refine wr_of (by decide) (Nat.le_of_ble_eq_true rfl) ?_
  intro p e s m args below meth c Q hx hb hml hown hts hTab hX hF H hS hw hret ls hl
  have hl : lv_has ls 4 [(0, .ref h0), (1, .int k1), (2, .ref o0)] := hl
  refine lv_aload_n (pc := 0) hx hb dL_mode_0 rfl (lv_at hl 2 rfl) ?_
  refine lv_iconst (v := 0) (pc := 1) hx hb dL_mode_1 (by decide) ?_
  refine lv_aload_n (pc := 2) hx hb dL_mode_2 rfl (lv_at hl 0 rfl) ?_
  refine lv_iload_n (pc := 3) hx hb dL_mode_3 rfl (lv_at hl 1 rfl) ?_
  refine gt_V (pc := 4) (rest := [.int 0, .ref o0]) ⟨hx, hb, hml, hown, hts⟩ (t_U_mode l hlt ad h0 k1 hbad) (twU_mode hts w_120 ⟨by decide, by decide⟩) hX hF hw.1 hS rfl hl.1 rfl (Nat.le_of_ble_eq_true rfl) dL_mode_4 ⟨by decide, by decide⟩ (fun q9 ce H1 hz hk hS hce hcv hcl => ?_)
  have hw := wu_kept hw hk
  refine vx_catch (own := "FloatUnitLaw") (name := iae) (E := iae) hown [] ⟨0, 9, 12, 13⟩ [] (hTab.trans rfl) (fun z hz => nomatch hz) rfl (by decide) (hts _ (List.mem_cons_of_mem _ w_36)) (va_Nw.use rfl hX.2.2.1) hce hcv hcl ?_
  refine lv_astore_n (lv' := [(3, .ref q9), (0, .ref h0), (1, .int k1), (2, .ref o0)]) (pc := 12) hx hb dL_mode_12 rfl hl (by decide) rfl (fun ls hl => ?_)
  refine lv_iconst (v := 1) (pc := 13) hx hb dL_mode_13 (by decide) ?_
  exact hret _ _ _ _ _ _ _ _ _ rfl rfl rfl rfl rfl hw hS dL_mode_14
abbrev rmL_work : Room := { frames := 8, cells := 1, slots := 6, locals := 190 }
theorem cwL_work {R : Room} {s : State} {args : Array Value} {w0 : Cond} {own : String} {idx : Nat} (hts : ∀ w ∈ (w0 :: bigW), w.before args s = true) (hl : Cond.methodLink own idx yL_work ∈ bigW) (hR : rmL_work.frames + 1 ≤ R.frames ∧ 8 + (8 + 11) + rmL_work.locals ≤ R.locals) : vx_CSW R s args own idx yL_work cL_work 8 (some .int) [(0, 15, 18, 13)] (wsW yL_work cL_work 8 [(0, 15, 18, 13)]) rmL_work 1 6 7 :=
  vx_cwSW 7 hts (big_in (fun w hw => by
    rcases List.mem_append.1 hw with h | h
    · simp only [List.mem_cons, List.not_mem_nil, or_false] at h
      rcases h with rfl | rfl | rfl
      · exact hl
      · exact w_126
      · exact w_0
    · rcases List.mem_cons.1 h with rfl | h
      · exact w_127
      · exact h)) rfl rfl rfl ⟨by decide, by decide, by decide +kernel⟩ hR
set_option maxRecDepth 100000 in
set_option maxHeartbeats 4000000 in
theorem c_L_work (l : Launch) (ad : Nat → Nat) (D : va_G) (cA : ClassId) (h0 r0 o0 : Nat) (md fl : Int32) (rg f : Nat → Int64) (k1 : Int32) (z2 : Bool) (k3 : Int32) (k4 : Int32) (k5 : Int32) (h_k3 : vp_in k3 16) (h_k4 : vp_in k4 16) (h_k5 : vp_in k5 16) (g0 : ¬ k1 < 0) (g1 : k1 ≤ 4) : WrM l ad D cA h0 r0 o0 yL_work (wsW yL_work cL_work 8 [(0, 15, 18, 13)]) rmL_work [.ref h0, .int k1, .int (bI z2), .int k3, .int k4, .int k5, .ref o0] md fl rg f 0 md (C_U_work md fl rg k1 z2 k3 k4 k5).2 (vp_updL rg k3.toNatClampNeg (C_U_work md fl rg k1 z2 k3 k4 k5).1) (vp_updL f 0 ((C_U_work md fl rg k1 z2 k3 k4 k5).1)) := by
  refine wr_of (by decide) (Nat.le_of_ble_eq_true rfl) ?_
  intro p e s m args below meth c Q hx hb hml hown hts hTab hX hF H hS hw hret ls hl
  have hl : lv_has ls 8 [(0, .ref h0), (1, .int k1), (2, .int (bI z2)), (3, .int k3), (4, .int k4), (5, .int k5), (6, .ref o0)] := hl
  refine lv_aload (pc := 0) hx hb dL_work_0 (lv_at hl 6 rfl) ?_
  refine lv_iconst (v := 0) (pc := 2) hx hb dL_work_2 (by decide) ?_
  refine lv_aload_n (pc := 3) hx hb dL_work_3 rfl (lv_at hl 0 rfl) ?_
  refine lv_iload_n (pc := 4) hx hb dL_work_4 rfl (lv_at hl 1 rfl) ?_
  refine lv_iload_n (pc := 5) hx hb dL_work_5 rfl (lv_at hl 2 rfl) ?_
  refine lv_iload_n (pc := 6) hx hb dL_work_6 rfl (lv_at hl 3 rfl) ?_
  refine lv_iload (pc := 7) hx hb dL_work_7 (lv_at hl 4 rfl) ?_
  refine lv_iload (pc := 9) hx hb dL_work_9 (lv_at hl 5 rfl) ?_
  refine gu_V (pc := 11) (rest := [.int 0, .ref o0]) ⟨hx, hb, hml, hown, hts⟩ (c_U_work l ad D cA h0 r0 md fl rg k1 z2 k3 k4 k5 h_k3 h_k4 h_k5 g0 g1) (cwU_work hts w_128 ⟨by decide, by decide⟩) hF (fun q g => g.elim (fun g => Or.inl g) (fun g => Or.inr (Or.inl g))) hw.1 hS rfl hl.1 rfl (Nat.le_of_ble_eq_true rfl) dL_work_11 ⟨Nat.zero_le _, Nat.zero_le _⟩ (fun H1 locs h1 hz hk hS => ?_)
  have hw := wu_join hw h1 hk
  refine W.eq (g2 := F0 m 14 ls [.long ((C_U_work md fl rg k1 z2 k3 k4 k5).1), .int 0, .ref o0]) rfl ?_
  refine wu_st (pc := 14) hx hb hw hS (fun _ g => g) dL_work_14 (fun H locs hw hS => ?_)
  refine lv_goto (tgt := 22) (pc := 15) hx hb dL_work_15 (by decide) ?_
  refine lv_iconst (v := 0) (pc := 22) hx hb dL_work_22 (by decide) ?_
  refine W.widen (k := 1) (n := 6) (by decide) (by decide) ?_
  exact hret _ _ _ _ _ _ _ _ _ rfl rfl rfl rfl rfl hw hS dL_work_23
set_option maxRecDepth 100000 in
set_option maxHeartbeats 4000000 in
theorem t_L_work (l : Launch) (ad : Nat → Nat) (D : va_G) (cA : ClassId) (h0 r0 o0 : Nat) (md fl : Int32) (rg f : Nat → Int64) (k1 : Int32) (z2 : Bool) (k3 : Int32) (k4 : Int32) (k5 : Int32) (hlt : l.stackTraces = false) (hbad : ¬ (vp_in k3 16 ∧ vp_in k4 16 ∧ vp_in k5 16 ∧ ¬ k1 < 0 ∧ k1 ≤ 4)) : WrM l ad D cA h0 r0 o0 yL_work (wsW yL_work cL_work 8 [(0, 15, 18, 13)]) rmL_work [.ref h0, .int k1, .int (bI z2), .int k3, .int k4, .int k5, .ref o0] md fl rg f 1 md fl rg f := by
  refine wr_of (by decide) (Nat.le_of_ble_eq_true rfl) ?_
  intro p e s m args below meth c Q hx hb hml hown hts hTab hX hF H hS hw hret ls hl
  have hl : lv_has ls 8 [(0, .ref h0), (1, .int k1), (2, .int (bI z2)), (3, .int k3), (4, .int k4), (5, .int k5), (6, .ref o0)] := hl
  refine lv_aload (pc := 0) hx hb dL_work_0 (lv_at hl 6 rfl) ?_
  refine lv_iconst (v := 0) (pc := 2) hx hb dL_work_2 (by decide) ?_
  refine lv_aload_n (pc := 3) hx hb dL_work_3 rfl (lv_at hl 0 rfl) ?_
  refine lv_iload_n (pc := 4) hx hb dL_work_4 rfl (lv_at hl 1 rfl) ?_
  refine lv_iload_n (pc := 5) hx hb dL_work_5 rfl (lv_at hl 2 rfl) ?_
  refine lv_iload_n (pc := 6) hx hb dL_work_6 rfl (lv_at hl 3 rfl) ?_
  refine lv_iload (pc := 7) hx hb dL_work_7 (lv_at hl 4 rfl) ?_
  refine lv_iload (pc := 9) hx hb dL_work_9 (lv_at hl 5 rfl) ?_
  refine gt_V (pc := 11) (rest := [.int 0, .ref o0]) ⟨hx, hb, hml, hown, hts⟩ (t_U_work l hlt ad h0 k1 z2 k3 k4 k5 hbad) (twU_work hts w_128 ⟨by decide, by decide⟩) hX hF hw.1 hS rfl hl.1 rfl (Nat.le_of_ble_eq_true rfl) dL_work_11 ⟨by decide, by decide⟩ (fun q9 ce H1 hz hk hS hce hcv hcl => ?_)
  have hw := wu_kept hw hk
  refine vx_catch (own := "FloatUnitLaw") (name := iae) (E := iae) hown [] ⟨0, 15, 18, 13⟩ [] (hTab.trans rfl) (fun z hz => nomatch hz) rfl (by decide) (hts _ (List.mem_cons_of_mem _ w_36)) (va_Nw.use rfl hX.2.2.1) hce hcv hcl ?_
  refine lv_astore (lv' := [(7, .ref q9), (0, .ref h0), (1, .int k1), (2, .int (bI z2)), (3, .int k3), (4, .int k4), (5, .int k5), (6, .ref o0)]) (pc := 18) hx hb dL_work_18 hl (by decide) rfl (fun ls hl => ?_)
  refine lv_iconst (v := 1) (pc := 20) hx hb dL_work_20 (by decide) ?_
  exact hret _ _ _ _ _ _ _ _ _ rfl rfl rfl rfl rfl hw hS dL_work_21
abbrev rmL_compare : Room := { frames := 8, cells := 1, slots := 6, locals := 149 }
theorem cwL_compare {R : Room} {s : State} {args : Array Value} {w0 : Cond} {own : String} {idx : Nat} (hts : ∀ w ∈ (w0 :: bigW), w.before args s = true) (hl : Cond.methodLink own idx yL_compare ∈ bigW) (hR : rmL_compare.frames + 1 ≤ R.frames ∧ 8 + (7 + 11) + rmL_compare.locals ≤ R.locals) : vx_CSW R s args own idx yL_compare cL_compare 7 (some .int) [(0, 14, 17, 13)] (wsW yL_compare cL_compare 7 [(0, 14, 17, 13)]) rmL_compare 1 6 6 :=
  vx_cwSW 6 hts (big_in (fun w hw => by
    rcases List.mem_append.1 hw with h | h
    · simp only [List.mem_cons, List.not_mem_nil, or_false] at h
      rcases h with rfl | rfl | rfl
      · exact hl
      · exact w_280
      · exact w_0
    · rcases List.mem_cons.1 h with rfl | h
      · exact w_281
      · exact h)) rfl rfl rfl ⟨by decide, by decide, by decide +kernel⟩ hR
set_option maxRecDepth 100000 in
set_option maxHeartbeats 4000000 in
theorem c_L_compare (l : Launch) (ad : Nat → Nat) (D : va_G) (cA : ClassId) (h0 r0 o0 : Nat) (md fl : Int32) (rg f : Nat → Int64) (z1 : Bool) (k2 : Int32) (k3 : Int32) (k4 : Int32) (h_k2 : vp_in k2 16) (h_k3 : vp_in k3 16) : WrM l ad D cA h0 r0 o0 yL_compare (wsW yL_compare cL_compare 7 [(0, 14, 17, 13)]) rmL_compare [.ref h0, .int (bI z1), .int k2, .int k3, .int k4, .ref o0] md fl rg f 0 md fl rg (vp_updL f 0 ((C_U_compare md fl rg z1 k2 k3 k4).toInt64)) := by
  refine wr_of (by decide) (Nat.le_of_ble_eq_true rfl) ?_
  intro p e s m args below meth c Q hx hb hml hown hts hTab hX hF H hS hw hret ls hl
  have hl : lv_has ls 7 [(0, .ref h0), (1, .int (bI z1)), (2, .int k2), (3, .int k3), (4, .int k4), (5, .ref o0)] := hl
  refine lv_aload (pc := 0) hx hb dL_compare_0 (lv_at hl 5 rfl) ?_
  refine lv_iconst (v := 0) (pc := 2) hx hb dL_compare_2 (by decide) ?_
  refine lv_aload_n (pc := 3) hx hb dL_compare_3 rfl (lv_at hl 0 rfl) ?_
  refine lv_iload_n (pc := 4) hx hb dL_compare_4 rfl (lv_at hl 1 rfl) ?_
  refine lv_iload_n (pc := 5) hx hb dL_compare_5 rfl (lv_at hl 2 rfl) ?_
  refine lv_iload_n (pc := 6) hx hb dL_compare_6 rfl (lv_at hl 3 rfl) ?_
  refine lv_iload (pc := 7) hx hb dL_compare_7 (lv_at hl 4 rfl) ?_
  refine gu_V (pc := 9) (rest := [.int 0, .ref o0]) ⟨hx, hb, hml, hown, hts⟩ (c_U_compare l ad D cA h0 r0 md fl rg z1 k2 k3 k4 h_k2 h_k3) (cwU_compare hts w_282 ⟨by decide, by decide⟩) hF (fun q g => g.elim (fun g => Or.inl g) (fun g => Or.inr (Or.inl g))) hw.1 hS rfl hl.1 rfl (Nat.le_of_ble_eq_true rfl) dL_compare_9 ⟨Nat.zero_le _, Nat.zero_le _⟩ (fun H1 locs h1 hz hk hS => ?_)
  have hw := wu_join hw h1 hk
  refine W.eq (g2 := F0 m 12 ls [.int (C_U_compare md fl rg z1 k2 k3 k4), .int 0, .ref o0]) rfl ?_
  refine lv_i2l (v := (C_U_compare md fl rg z1 k2 k3 k4).toInt64) (pc := 12) hx hb dL_compare_12 rfl ?_
  refine wu_st (pc := 13) hx hb hw hS (fun _ g => g) dL_compare_13 (fun H locs hw hS => ?_)
  refine lv_goto (tgt := 21) (pc := 14) hx hb dL_compare_14 (by decide) ?_
  refine lv_iconst (v := 0) (pc := 21) hx hb dL_compare_21 (by decide) ?_
  refine W.widen (k := 1) (n := 6) (by decide) (by decide) ?_
  exact hret _ _ _ _ _ _ _ _ _ rfl rfl rfl rfl rfl hw hS dL_compare_22
set_option maxRecDepth 100000 in
set_option maxHeartbeats 4000000 in
theorem t_L_compare (l : Launch) (ad : Nat → Nat) (D : va_G) (cA : ClassId) (h0 r0 o0 : Nat) (md fl : Int32) (rg f : Nat → Int64) (z1 : Bool) (k2 : Int32) (k3 : Int32) (k4 : Int32) (hlt : l.stackTraces = false) (hbad : ¬ (vp_in k2 16 ∧ vp_in k3 16)) : WrM l ad D cA h0 r0 o0 yL_compare (wsW yL_compare cL_compare 7 [(0, 14, 17, 13)]) rmL_compare [.ref h0, .int (bI z1), .int k2, .int k3, .int k4, .ref o0] md fl rg f 1 md fl rg f := by
  refine wr_of (by decide) (Nat.le_of_ble_eq_true rfl) ?_
  intro p e s m args below meth c Q hx hb hml hown hts hTab hX hF H hS hw hret ls hl
  have hl : lv_has ls 7 [(0, .ref h0), (1, .int (bI z1)), (2, .int k2), (3, .int k3), (4, .int k4), (5, .ref o0)] := hl
  refine lv_aload (pc := 0) hx hb dL_compare_0 (lv_at hl 5 rfl) ?_
  refine lv_iconst (v := 0) (pc := 2) hx hb dL_compare_2 (by decide) ?_
  refine lv_aload_n (pc := 3) hx hb dL_compare_3 rfl (lv_at hl 0 rfl) ?_
  refine lv_iload_n (pc := 4) hx hb dL_compare_4 rfl (lv_at hl 1 rfl) ?_
  refine lv_iload_n (pc := 5) hx hb dL_compare_5 rfl (lv_at hl 2 rfl) ?_
  refine lv_iload_n (pc := 6) hx hb dL_compare_6 rfl (lv_at hl 3 rfl) ?_
  refine lv_iload (pc := 7) hx hb dL_compare_7 (lv_at hl 4 rfl) ?_
  refine gt_V (pc := 9) (rest := [.int 0, .ref o0]) ⟨hx, hb, hml, hown, hts⟩ (t_U_compare l hlt ad h0 z1 k2 k3 k4 hbad) (twU_compare hts w_282 ⟨by decide, by decide⟩) hX hF hw.1 hS rfl hl.1 rfl (Nat.le_of_ble_eq_true rfl) dL_compare_9 ⟨by decide, by decide⟩ (fun q9 ce H1 hz hk hS hce hcv hcl => ?_)
  have hw := wu_kept hw hk
  refine vx_catch (own := "FloatUnitLaw") (name := iae) (E := iae) hown [] ⟨0, 14, 17, 13⟩ [] (hTab.trans rfl) (fun z hz => nomatch hz) rfl (by decide) (hts _ (List.mem_cons_of_mem _ w_36)) (va_Nw.use rfl hX.2.2.1) hce hcv hcl ?_
  refine lv_astore (lv' := [(6, .ref q9), (0, .ref h0), (1, .int (bI z1)), (2, .int k2), (3, .int k3), (4, .int k4), (5, .ref o0)]) (pc := 17) hx hb dL_compare_17 hl (by decide) rfl (fun ls hl => ?_)
  refine lv_iconst (v := 1) (pc := 19) hx hb dL_compare_19 (by decide) ?_
  exact hret _ _ _ _ _ _ _ _ _ rfl rfl rfl rfl rfl hw hS dL_compare_20
abbrev rmL_of : Room := { frames := 8, cells := 1, slots := 6, locals := 145 }
theorem cwL_of {R : Room} {s : State} {args : Array Value} {w0 : Cond} {own : String} {idx : Nat} (hts : ∀ w ∈ (w0 :: bigW), w.before args s = true) (hl : Cond.methodLink own idx yL_of ∈ bigW) (hR : rmL_of.frames + 1 ≤ R.frames ∧ 8 + (7 + 11) + rmL_of.locals ≤ R.locals) : vx_CSW R s args own idx yL_of cL_of 7 (some .int) [(0, 11, 14, 13)] (wsW yL_of cL_of 7 [(0, 11, 14, 13)]) rmL_of 1 6 5 :=
  vx_cwSW 5 hts (big_in (fun w hw => by
    rcases List.mem_append.1 hw with h | h
    · simp only [List.mem_cons, List.not_mem_nil, or_false] at h
      rcases h with rfl | rfl | rfl
      · exact hl
      · exact w_292
      · exact w_0
    · rcases List.mem_cons.1 h with rfl | h
      · exact w_293
      · exact h)) rfl rfl rfl ⟨by decide, by decide, by decide +kernel⟩ hR
set_option maxRecDepth 100000 in
set_option maxHeartbeats 4000000 in
theorem c_L_of (l : Launch) (ad : Nat → Nat) (D : va_G) (cA : ClassId) (h0 r0 o0 : Nat) (md fl : Int32) (rg f : Nat → Int64) (z1 : Bool) (k2 : Int32) (x3 : Int64) (h_k2 : vp_in k2 16) : WrM l ad D cA h0 r0 o0 yL_of (wsW yL_of cL_of 7 [(0, 11, 14, 13)]) rmL_of [.ref h0, .int (bI z1), .int k2, .long x3, .ref o0] md fl rg f 0 md (C_U_of md fl rg z1 k2 x3).2 (vp_updL rg k2.toNatClampNeg (C_U_of md fl rg z1 k2 x3).1) (vp_updL f 0 ((C_U_of md fl rg z1 k2 x3).1)) := by
  refine wr_of (by decide) (Nat.le_of_ble_eq_true rfl) ?_
  intro p e s m args below meth c Q hx hb hml hown hts hTab hX hF H hS hw hret ls hl
  have hl : lv_has ls 7 [(0, .ref h0), (1, .int (bI z1)), (2, .int k2), (3, .long x3), (5, .ref o0)] := hl
  refine lv_aload (pc := 0) hx hb dL_of_0 (lv_at hl 4 rfl) ?_
  refine lv_iconst (v := 0) (pc := 2) hx hb dL_of_2 (by decide) ?_
  refine lv_aload_n (pc := 3) hx hb dL_of_3 rfl (lv_at hl 0 rfl) ?_
  refine lv_iload_n (pc := 4) hx hb dL_of_4 rfl (lv_at hl 1 rfl) ?_
  refine lv_iload_n (pc := 5) hx hb dL_of_5 rfl (lv_at hl 2 rfl) ?_
  refine lv_lload_n (pc := 6) hx hb dL_of_6 rfl (lv_at hl 3 rfl) ?_
  refine gu_V (pc := 7) (rest := [.int 0, .ref o0]) ⟨hx, hb, hml, hown, hts⟩ (c_U_of l ad D cA h0 r0 md fl rg z1 k2 x3 h_k2) (cwU_of hts w_294 ⟨by decide, by decide⟩) hF (fun q g => g.elim (fun g => Or.inl g) (fun g => Or.inr (Or.inl g))) hw.1 hS rfl hl.1 rfl (Nat.le_of_ble_eq_true rfl) dL_of_7 ⟨Nat.zero_le _, Nat.zero_le _⟩ (fun H1 locs h1 hz hk hS => ?_)
  have hw := wu_join hw h1 hk
  refine W.eq (g2 := F0 m 10 ls [.long ((C_U_of md fl rg z1 k2 x3).1), .int 0, .ref o0]) rfl ?_
  refine wu_st (pc := 10) hx hb hw hS (fun _ g => g) dL_of_10 (fun H locs hw hS => ?_)
  refine lv_goto (tgt := 18) (pc := 11) hx hb dL_of_11 (by decide) ?_
  refine lv_iconst (v := 0) (pc := 18) hx hb dL_of_18 (by decide) ?_
  refine W.widen (k := 1) (n := 6) (by decide) (by decide) ?_
  exact hret _ _ _ _ _ _ _ _ _ rfl rfl rfl rfl rfl hw hS dL_of_19
set_option maxRecDepth 100000 in
set_option maxHeartbeats 4000000 in
theorem t_L_of (l : Launch) (ad : Nat → Nat) (D : va_G) (cA : ClassId) (h0 r0 o0 : Nat) (md fl : Int32) (rg f : Nat → Int64) (z1 : Bool) (k2 : Int32) (x3 : Int64) (hlt : l.stackTraces = false) (hbad : ¬ (vp_in k2 16)) : WrM l ad D cA h0 r0 o0 yL_of (wsW yL_of cL_of 7 [(0, 11, 14, 13)]) rmL_of [.ref h0, .int (bI z1), .int k2, .long x3, .ref o0] md fl rg f 1 md fl rg f := by
  refine wr_of (by decide) (Nat.le_of_ble_eq_true rfl) ?_
  intro p e s m args below meth c Q hx hb hml hown hts hTab hX hF H hS hw hret ls hl
  have hl : lv_has ls 7 [(0, .ref h0), (1, .int (bI z1)), (2, .int k2), (3, .long x3), (5, .ref o0)] := hl
  refine lv_aload (pc := 0) hx hb dL_of_0 (lv_at hl 4 rfl) ?_
  refine lv_iconst (v := 0) (pc := 2) hx hb dL_of_2 (by decide) ?_
  refine lv_aload_n (pc := 3) hx hb dL_of_3 rfl (lv_at hl 0 rfl) ?_
  refine lv_iload_n (pc := 4) hx hb dL_of_4 rfl (lv_at hl 1 rfl) ?_
  refine lv_iload_n (pc := 5) hx hb dL_of_5 rfl (lv_at hl 2 rfl) ?_
  refine lv_lload_n (pc := 6) hx hb dL_of_6 rfl (lv_at hl 3 rfl) ?_
  refine gt_V (pc := 7) (rest := [.int 0, .ref o0]) ⟨hx, hb, hml, hown, hts⟩ (t_U_of l hlt ad h0 z1 k2 x3 hbad) (twU_of hts w_294 ⟨by decide, by decide⟩) hX hF hw.1 hS rfl hl.1 rfl (Nat.le_of_ble_eq_true rfl) dL_of_7 ⟨by decide, by decide⟩ (fun q9 ce H1 hz hk hS hce hcv hcl => ?_)
  have hw := wu_kept hw hk
  refine vx_catch (own := "FloatUnitLaw") (name := iae) (E := iae) hown [] ⟨0, 11, 14, 13⟩ [] (hTab.trans rfl) (fun z hz => nomatch hz) rfl (by decide) (hts _ (List.mem_cons_of_mem _ w_36)) (va_Nw.use rfl hX.2.2.1) hce hcv hcl ?_
  refine lv_astore (lv' := [(6, .ref q9), (0, .ref h0), (1, .int (bI z1)), (2, .int k2), (3, .long x3), (5, .ref o0)]) (pc := 14) hx hb dL_of_14 hl (by decide) rfl (fun ls hl => ?_)
  refine lv_iconst (v := 1) (pc := 16) hx hb dL_of_16 (by decide) ?_
  exact hret _ _ _ _ _ _ _ _ _ rfl rfl rfl rfl rfl hw hS dL_of_17
abbrev rmL_whole : Room := { frames := 8, cells := 1, slots := 6, locals := 153 }
theorem cwL_whole {R : Room} {s : State} {args : Array Value} {w0 : Cond} {own : String} {idx : Nat} (hts : ∀ w ∈ (w0 :: bigW), w.before args s = true) (hl : Cond.methodLink own idx yL_whole ∈ bigW) (hR : rmL_whole.frames + 1 ≤ R.frames ∧ 8 + (6 + 11) + rmL_whole.locals ≤ R.locals) : vx_CSW R s args own idx yL_whole cL_whole 6 (some .int) [(0, 11, 14, 13)] (wsW yL_whole cL_whole 6 [(0, 11, 14, 13)]) rmL_whole 1 6 5 :=
  vx_cwSW 5 hts (big_in (fun w hw => by
    rcases List.mem_append.1 hw with h | h
    · simp only [List.mem_cons, List.not_mem_nil, or_false] at h
      rcases h with rfl | rfl | rfl
      · exact hl
      · exact w_299
      · exact w_0
    · rcases List.mem_cons.1 h with rfl | h
      · exact w_300
      · exact h)) rfl rfl rfl ⟨by decide, by decide, by decide +kernel⟩ hR
set_option maxRecDepth 100000 in
set_option maxHeartbeats 4000000 in
theorem c_L_whole (l : Launch) (ad : Nat → Nat) (D : va_G) (cA : ClassId) (h0 r0 o0 : Nat) (md fl : Int32) (rg f : Nat → Int64) (z1 : Bool) (k2 : Int32) (z3 : Bool) (h_k2 : vp_in k2 16) : WrM l ad D cA h0 r0 o0 yL_whole (wsW yL_whole cL_whole 6 [(0, 11, 14, 13)]) rmL_whole [.ref h0, .int (bI z1), .int k2, .int (bI z3), .ref o0] md fl rg f 0 md (C_U_whole md fl rg z1 k2 z3).2 rg (vp_updL f 0 ((C_U_whole md fl rg z1 k2 z3).1)) := by
  refine wr_of (by decide) (Nat.le_of_ble_eq_true rfl) ?_
  intro p e s m args below meth c Q hx hb hml hown hts hTab hX hF H hS hw hret ls hl
  have hl : lv_has ls 6 [(0, .ref h0), (1, .int (bI z1)), (2, .int k2), (3, .int (bI z3)), (4, .ref o0)] := hl
  refine lv_aload (pc := 0) hx hb dL_whole_0 (lv_at hl 4 rfl) ?_
  refine lv_iconst (v := 0) (pc := 2) hx hb dL_whole_2 (by decide) ?_
  refine lv_aload_n (pc := 3) hx hb dL_whole_3 rfl (lv_at hl 0 rfl) ?_
  refine lv_iload_n (pc := 4) hx hb dL_whole_4 rfl (lv_at hl 1 rfl) ?_
  refine lv_iload_n (pc := 5) hx hb dL_whole_5 rfl (lv_at hl 2 rfl) ?_
  refine lv_iload_n (pc := 6) hx hb dL_whole_6 rfl (lv_at hl 3 rfl) ?_
  refine gu_V (pc := 7) (rest := [.int 0, .ref o0]) ⟨hx, hb, hml, hown, hts⟩ (c_U_whole l ad D cA h0 r0 md fl rg z1 k2 z3 h_k2) (cwU_whole hts w_301 ⟨by decide, by decide⟩) hF (fun q g => g.elim (fun g => Or.inl g) (fun g => Or.inr (Or.inl g))) hw.1 hS rfl hl.1 rfl (Nat.le_of_ble_eq_true rfl) dL_whole_7 ⟨Nat.zero_le _, Nat.zero_le _⟩ (fun H1 locs h1 hz hk hS => ?_)
  have hw := wu_join hw h1 hk
  refine W.eq (g2 := F0 m 10 ls [.long ((C_U_whole md fl rg z1 k2 z3).1), .int 0, .ref o0]) rfl ?_
  refine wu_st (pc := 10) hx hb hw hS (fun _ g => g) dL_whole_10 (fun H locs hw hS => ?_)
  refine lv_goto (tgt := 18) (pc := 11) hx hb dL_whole_11 (by decide) ?_
  refine lv_iconst (v := 0) (pc := 18) hx hb dL_whole_18 (by decide) ?_
  refine W.widen (k := 1) (n := 6) (by decide) (by decide) ?_
  exact hret _ _ _ _ _ _ _ _ _ rfl rfl rfl rfl rfl hw hS dL_whole_19
set_option maxRecDepth 100000 in
set_option maxHeartbeats 4000000 in
theorem t_L_whole (l : Launch) (ad : Nat → Nat) (D : va_G) (cA : ClassId) (h0 r0 o0 : Nat) (md fl : Int32) (rg f : Nat → Int64) (z1 : Bool) (k2 : Int32) (z3 : Bool) (hlt : l.stackTraces = false) (hbad : ¬ (vp_in k2 16)) : WrM l ad D cA h0 r0 o0 yL_whole (wsW yL_whole cL_whole 6 [(0, 11, 14, 13)]) rmL_whole [.ref h0, .int (bI z1), .int k2, .int (bI z3), .ref o0] md fl rg f 1 md fl rg f := by
  refine wr_of (by decide) (Nat.le_of_ble_eq_true rfl) ?_
  intro p e s m args below meth c Q hx hb hml hown hts hTab hX hF H hS hw hret ls hl
  have hl : lv_has ls 6 [(0, .ref h0), (1, .int (bI z1)), (2, .int k2), (3, .int (bI z3)), (4, .ref o0)] := hl
  refine lv_aload (pc := 0) hx hb dL_whole_0 (lv_at hl 4 rfl) ?_
  refine lv_iconst (v := 0) (pc := 2) hx hb dL_whole_2 (by decide) ?_
  refine lv_aload_n (pc := 3) hx hb dL_whole_3 rfl (lv_at hl 0 rfl) ?_
  refine lv_iload_n (pc := 4) hx hb dL_whole_4 rfl (lv_at hl 1 rfl) ?_
  refine lv_iload_n (pc := 5) hx hb dL_whole_5 rfl (lv_at hl 2 rfl) ?_
  refine lv_iload_n (pc := 6) hx hb dL_whole_6 rfl (lv_at hl 3 rfl) ?_
  refine gt_V (pc := 7) (rest := [.int 0, .ref o0]) ⟨hx, hb, hml, hown, hts⟩ (t_U_whole l hlt ad h0 z1 k2 z3 hbad) (twU_whole hts w_301 ⟨by decide, by decide⟩) hX hF hw.1 hS rfl hl.1 rfl (Nat.le_of_ble_eq_true rfl) dL_whole_7 ⟨by decide, by decide⟩ (fun q9 ce H1 hz hk hS hce hcv hcl => ?_)
  have hw := wu_kept hw hk
  refine vx_catch (own := "FloatUnitLaw") (name := iae) (E := iae) hown [] ⟨0, 11, 14, 13⟩ [] (hTab.trans rfl) (fun z hz => nomatch hz) rfl (by decide) (hts _ (List.mem_cons_of_mem _ w_36)) (va_Nw.use rfl hX.2.2.1) hce hcv hcl ?_
  refine lv_astore (lv' := [(5, .ref q9), (0, .ref h0), (1, .int (bI z1)), (2, .int k2), (3, .int (bI z3)), (4, .ref o0)]) (pc := 14) hx hb dL_whole_14 hl (by decide) rfl (fun ls hl => ?_)
  refine lv_iconst (v := 1) (pc := 16) hx hb dL_whole_16 (by decide) ?_
  exact hret _ _ _ _ _ _ _ _ _ rfl rfl rfl rfl rfl hw hS dL_whole_17
abbrev rmL_turn : Room := { frames := 8, cells := 1, slots := 6, locals := 152 }
theorem cwL_turn {R : Room} {s : State} {args : Array Value} {w0 : Cond} {own : String} {idx : Nat} (hts : ∀ w ∈ (w0 :: bigW), w.before args s = true) (hl : Cond.methodLink own idx yL_turn ∈ bigW) (hR : rmL_turn.frames + 1 ≤ R.frames ∧ 8 + (6 + 11) + rmL_turn.locals ≤ R.locals) : vx_CSW R s args own idx yL_turn cL_turn 6 (some .int) [(0, 11, 14, 13)] (wsW yL_turn cL_turn 6 [(0, 11, 14, 13)]) rmL_turn 1 6 5 :=
  vx_cwSW 5 hts (big_in (fun w hw => by
    rcases List.mem_append.1 hw with h | h
    · simp only [List.mem_cons, List.not_mem_nil, or_false] at h
      rcases h with rfl | rfl | rfl
      · exact hl
      · exact w_319
      · exact w_0
    · rcases List.mem_cons.1 h with rfl | h
      · exact w_320
      · exact h)) rfl rfl rfl ⟨by decide, by decide, by decide +kernel⟩ hR
set_option maxRecDepth 100000 in
set_option maxHeartbeats 4000000 in
theorem c_L_turn (l : Launch) (ad : Nat → Nat) (D : va_G) (cA : ClassId) (h0 r0 o0 : Nat) (md fl : Int32) (rg f : Nat → Int64) (z1 : Bool) (k2 : Int32) (k3 : Int32) (h_k2 : vp_in k2 16) (h_k3 : vp_in k3 16) : WrM l ad D cA h0 r0 o0 yL_turn (wsW yL_turn cL_turn 6 [(0, 11, 14, 13)]) rmL_turn [.ref h0, .int (bI z1), .int k2, .int k3, .ref o0] md fl rg f 0 md (C_U_turn md fl rg z1 k2 k3).2 (vp_updL rg k2.toNatClampNeg (C_U_turn md fl rg z1 k2 k3).1) (vp_updL f 0 ((C_U_turn md fl rg z1 k2 k3).1)) := by
  refine wr_of (by decide) (Nat.le_of_ble_eq_true rfl) ?_
  intro p e s m args below meth c Q hx hb hml hown hts hTab hX hF H hS hw hret ls hl
  have hl : lv_has ls 6 [(0, .ref h0), (1, .int (bI z1)), (2, .int k2), (3, .int k3), (4, .ref o0)] := hl
  refine lv_aload (pc := 0) hx hb dL_turn_0 (lv_at hl 4 rfl) ?_
  refine lv_iconst (v := 0) (pc := 2) hx hb dL_turn_2 (by decide) ?_
  refine lv_aload_n (pc := 3) hx hb dL_turn_3 rfl (lv_at hl 0 rfl) ?_
  refine lv_iload_n (pc := 4) hx hb dL_turn_4 rfl (lv_at hl 1 rfl) ?_
  refine lv_iload_n (pc := 5) hx hb dL_turn_5 rfl (lv_at hl 2 rfl) ?_
  refine lv_iload_n (pc := 6) hx hb dL_turn_6 rfl (lv_at hl 3 rfl) ?_
  refine gu_V (pc := 7) (rest := [.int 0, .ref o0]) ⟨hx, hb, hml, hown, hts⟩ (c_U_turn l ad D cA h0 r0 md fl rg z1 k2 k3 h_k2 h_k3) (cwU_turn hts w_321 ⟨by decide, by decide⟩) hF (fun q g => g.elim (fun g => Or.inl g) (fun g => Or.inr (Or.inl g))) hw.1 hS rfl hl.1 rfl (Nat.le_of_ble_eq_true rfl) dL_turn_7 ⟨Nat.zero_le _, Nat.zero_le _⟩ (fun H1 locs h1 hz hk hS => ?_)
  have hw := wu_join hw h1 hk
  refine W.eq (g2 := F0 m 10 ls [.long ((C_U_turn md fl rg z1 k2 k3).1), .int 0, .ref o0]) rfl ?_
  refine wu_st (pc := 10) hx hb hw hS (fun _ g => g) dL_turn_10 (fun H locs hw hS => ?_)
  refine lv_goto (tgt := 18) (pc := 11) hx hb dL_turn_11 (by decide) ?_
  refine lv_iconst (v := 0) (pc := 18) hx hb dL_turn_18 (by decide) ?_
  refine W.widen (k := 1) (n := 6) (by decide) (by decide) ?_
  exact hret _ _ _ _ _ _ _ _ _ rfl rfl rfl rfl rfl hw hS dL_turn_19
set_option maxRecDepth 100000 in
set_option maxHeartbeats 4000000 in
theorem t_L_turn (l : Launch) (ad : Nat → Nat) (D : va_G) (cA : ClassId) (h0 r0 o0 : Nat) (md fl : Int32) (rg f : Nat → Int64) (z1 : Bool) (k2 : Int32) (k3 : Int32) (hlt : l.stackTraces = false) (hbad : ¬ (vp_in k2 16 ∧ vp_in k3 16)) : WrM l ad D cA h0 r0 o0 yL_turn (wsW yL_turn cL_turn 6 [(0, 11, 14, 13)]) rmL_turn [.ref h0, .int (bI z1), .int k2, .int k3, .ref o0] md fl rg f 1 md fl rg f := by
  refine wr_of (by decide) (Nat.le_of_ble_eq_true rfl) ?_
  intro p e s m args below meth c Q hx hb hml hown hts hTab hX hF H hS hw hret ls hl
  have hl : lv_has ls 6 [(0, .ref h0), (1, .int (bI z1)), (2, .int k2), (3, .int k3), (4, .ref o0)] := hl
  refine lv_aload (pc := 0) hx hb dL_turn_0 (lv_at hl 4 rfl) ?_
  refine lv_iconst (v := 0) (pc := 2) hx hb dL_turn_2 (by decide) ?_
  refine lv_aload_n (pc := 3) hx hb dL_turn_3 rfl (lv_at hl 0 rfl) ?_
  refine lv_iload_n (pc := 4) hx hb dL_turn_4 rfl (lv_at hl 1 rfl) ?_
  refine lv_iload_n (pc := 5) hx hb dL_turn_5 rfl (lv_at hl 2 rfl) ?_
  refine lv_iload_n (pc := 6) hx hb dL_turn_6 rfl (lv_at hl 3 rfl) ?_
  refine gt_V (pc := 7) (rest := [.int 0, .ref o0]) ⟨hx, hb, hml, hown, hts⟩ (t_U_turn l hlt ad h0 z1 k2 k3 hbad) (twU_turn hts w_321 ⟨by decide, by decide⟩) hX hF hw.1 hS rfl hl.1 rfl (Nat.le_of_ble_eq_true rfl) dL_turn_7 ⟨by decide, by decide⟩ (fun q9 ce H1 hz hk hS hce hcv hcl => ?_)
  have hw := wu_kept hw hk
  refine vx_catch (own := "FloatUnitLaw") (name := iae) (E := iae) hown [] ⟨0, 11, 14, 13⟩ [] (hTab.trans rfl) (fun z hz => nomatch hz) rfl (by decide) (hts _ (List.mem_cons_of_mem _ w_36)) (va_Nw.use rfl hX.2.2.1) hce hcv hcl ?_
  refine lv_astore (lv' := [(5, .ref q9), (0, .ref h0), (1, .int (bI z1)), (2, .int k2), (3, .int k3), (4, .ref o0)]) (pc := 14) hx hb dL_turn_14 hl (by decide) rfl (fun ls hl => ?_)
  refine lv_iconst (v := 1) (pc := 16) hx hb dL_turn_16 (by decide) ?_
  exact hret _ _ _ _ _ _ _ _ _ rfl rfl rfl rfl rfl hw hS dL_turn_17
abbrev rmL_kind : Room := { frames := 8, cells := 1, slots := 6, locals := 144 }
theorem cwL_kind {R : Room} {s : State} {args : Array Value} {w0 : Cond} {own : String} {idx : Nat} (hts : ∀ w ∈ (w0 :: bigW), w.before args s = true) (hl : Cond.methodLink own idx yL_kind ∈ bigW) (hR : rmL_kind.frames + 1 ≤ R.frames ∧ 8 + (5 + 11) + rmL_kind.locals ≤ R.locals) : vx_CSW R s args own idx yL_kind cL_kind 5 (some .int) [(0, 10, 13, 13)] (wsW yL_kind cL_kind 5 [(0, 10, 13, 13)]) rmL_kind 1 6 4 :=
  vx_cwSW 4 hts (big_in (fun w hw => by
    rcases List.mem_append.1 hw with h | h
    · simp only [List.mem_cons, List.not_mem_nil, or_false] at h
      rcases h with rfl | rfl | rfl
      · exact hl
      · exact w_330
      · exact w_0
    · rcases List.mem_cons.1 h with rfl | h
      · exact w_331
      · exact h)) rfl rfl rfl ⟨by decide, by decide, by decide +kernel⟩ hR
set_option maxRecDepth 100000 in
set_option maxHeartbeats 4000000 in
theorem c_L_kind (l : Launch) (ad : Nat → Nat) (D : va_G) (cA : ClassId) (h0 r0 o0 : Nat) (md fl : Int32) (rg f : Nat → Int64) (z1 : Bool) (k2 : Int32) (h_k2 : vp_in k2 16) : WrM l ad D cA h0 r0 o0 yL_kind (wsW yL_kind cL_kind 5 [(0, 10, 13, 13)]) rmL_kind [.ref h0, .int (bI z1), .int k2, .ref o0] md fl rg f 0 md fl rg (vp_updL f 0 ((C_U_kind md fl rg z1 k2).toInt64)) := by
  refine wr_of (by decide) (Nat.le_of_ble_eq_true rfl) ?_
  intro p e s m args below meth c Q hx hb hml hown hts hTab hX hF H hS hw hret ls hl
  have hl : lv_has ls 5 [(0, .ref h0), (1, .int (bI z1)), (2, .int k2), (3, .ref o0)] := hl
  refine lv_aload_n (pc := 0) hx hb dL_kind_0 rfl (lv_at hl 3 rfl) ?_
  refine lv_iconst (v := 0) (pc := 1) hx hb dL_kind_1 (by decide) ?_
  refine lv_aload_n (pc := 2) hx hb dL_kind_2 rfl (lv_at hl 0 rfl) ?_
  refine lv_iload_n (pc := 3) hx hb dL_kind_3 rfl (lv_at hl 1 rfl) ?_
  refine lv_iload_n (pc := 4) hx hb dL_kind_4 rfl (lv_at hl 2 rfl) ?_
  refine gu_V (pc := 5) (rest := [.int 0, .ref o0]) ⟨hx, hb, hml, hown, hts⟩ (c_U_kind l ad D cA h0 r0 md fl rg z1 k2 h_k2) (cwU_kind hts w_332 ⟨by decide, by decide⟩) hF (fun q g => g.elim (fun g => Or.inl g) (fun g => Or.inr (Or.inl g))) hw.1 hS rfl hl.1 rfl (Nat.le_of_ble_eq_true rfl) dL_kind_5 ⟨Nat.zero_le _, Nat.zero_le _⟩ (fun H1 locs h1 hz hk hS => ?_)
  have hw := wu_join hw h1 hk
  refine W.eq (g2 := F0 m 8 ls [.int (C_U_kind md fl rg z1 k2), .int 0, .ref o0]) rfl ?_
  refine lv_i2l (v := (C_U_kind md fl rg z1 k2).toInt64) (pc := 8) hx hb dL_kind_8 rfl ?_
  refine wu_st (pc := 9) hx hb hw hS (fun _ g => g) dL_kind_9 (fun H locs hw hS => ?_)
  refine lv_goto (tgt := 17) (pc := 10) hx hb dL_kind_10 (by decide) ?_
  refine lv_iconst (v := 0) (pc := 17) hx hb dL_kind_17 (by decide) ?_
  refine W.widen (k := 1) (n := 6) (by decide) (by decide) ?_
  exact hret _ _ _ _ _ _ _ _ _ rfl rfl rfl rfl rfl hw hS dL_kind_18
set_option maxRecDepth 100000 in
set_option maxHeartbeats 4000000 in
theorem t_L_kind (l : Launch) (ad : Nat → Nat) (D : va_G) (cA : ClassId) (h0 r0 o0 : Nat) (md fl : Int32) (rg f : Nat → Int64) (z1 : Bool) (k2 : Int32) (hlt : l.stackTraces = false) (hbad : ¬ (vp_in k2 16)) : WrM l ad D cA h0 r0 o0 yL_kind (wsW yL_kind cL_kind 5 [(0, 10, 13, 13)]) rmL_kind [.ref h0, .int (bI z1), .int k2, .ref o0] md fl rg f 1 md fl rg f := by
  refine wr_of (by decide) (Nat.le_of_ble_eq_true rfl) ?_
  intro p e s m args below meth c Q hx hb hml hown hts hTab hX hF H hS hw hret ls hl
  have hl : lv_has ls 5 [(0, .ref h0), (1, .int (bI z1)), (2, .int k2), (3, .ref o0)] := hl
  refine lv_aload_n (pc := 0) hx hb dL_kind_0 rfl (lv_at hl 3 rfl) ?_
  refine lv_iconst (v := 0) (pc := 1) hx hb dL_kind_1 (by decide) ?_
  refine lv_aload_n (pc := 2) hx hb dL_kind_2 rfl (lv_at hl 0 rfl) ?_
  refine lv_iload_n (pc := 3) hx hb dL_kind_3 rfl (lv_at hl 1 rfl) ?_
  refine lv_iload_n (pc := 4) hx hb dL_kind_4 rfl (lv_at hl 2 rfl) ?_
  refine gt_V (pc := 5) (rest := [.int 0, .ref o0]) ⟨hx, hb, hml, hown, hts⟩ (t_U_kind l hlt ad h0 z1 k2 hbad) (twU_kind hts w_332 ⟨by decide, by decide⟩) hX hF hw.1 hS rfl hl.1 rfl (Nat.le_of_ble_eq_true rfl) dL_kind_5 ⟨by decide, by decide⟩ (fun q9 ce H1 hz hk hS hce hcv hcl => ?_)
  have hw := wu_kept hw hk
  refine vx_catch (own := "FloatUnitLaw") (name := iae) (E := iae) hown [] ⟨0, 10, 13, 13⟩ [] (hTab.trans rfl) (fun z hz => nomatch hz) rfl (by decide) (hts _ (List.mem_cons_of_mem _ w_36)) (va_Nw.use rfl hX.2.2.1) hce hcv hcl ?_
  refine lv_astore (lv' := [(4, .ref q9), (0, .ref h0), (1, .int (bI z1)), (2, .int k2), (3, .ref o0)]) (pc := 13) hx hb dL_kind_13 hl (by decide) rfl (fun ls hl => ?_)
  refine lv_iconst (v := 1) (pc := 15) hx hb dL_kind_15 (by decide) ?_
  exact hret _ _ _ _ _ _ _ _ _ rfl rfl rfl rfl rfl hw hS dL_kind_16
abbrev rmL_negate : Room := { frames := 8, cells := 1, slots := 6, locals := 146 }
theorem cwL_negate {R : Room} {s : State} {args : Array Value} {w0 : Cond} {own : String} {idx : Nat} (hts : ∀ w ∈ (w0 :: bigW), w.before args s = true) (hl : Cond.methodLink own idx yL_negate ∈ bigW) (hR : rmL_negate.frames + 1 ≤ R.frames ∧ 8 + (6 + 11) + rmL_negate.locals ≤ R.locals) : vx_CSW R s args own idx yL_negate cL_negate 6 (some .int) [(0, 11, 14, 13)] (wsW yL_negate cL_negate 6 [(0, 11, 14, 13)]) rmL_negate 1 6 5 :=
  vx_cwSW 5 hts (big_in (fun w hw => by
    rcases List.mem_append.1 hw with h | h
    · simp only [List.mem_cons, List.not_mem_nil, or_false] at h
      rcases h with rfl | rfl | rfl
      · exact hl
      · exact w_344
      · exact w_0
    · rcases List.mem_cons.1 h with rfl | h
      · exact w_345
      · exact h)) rfl rfl rfl ⟨by decide, by decide, by decide +kernel⟩ hR
set_option maxRecDepth 100000 in
set_option maxHeartbeats 4000000 in
theorem c_L_negate (l : Launch) (ad : Nat → Nat) (D : va_G) (cA : ClassId) (h0 r0 o0 : Nat) (md fl : Int32) (rg f : Nat → Int64) (z1 : Bool) (k2 : Int32) (k3 : Int32) (h_k2 : vp_in k2 16) (h_k3 : vp_in k3 16) : WrM l ad D cA h0 r0 o0 yL_negate (wsW yL_negate cL_negate 6 [(0, 11, 14, 13)]) rmL_negate [.ref h0, .int (bI z1), .int k2, .int k3, .ref o0] md fl rg f 0 md (C_U_negate md fl rg z1 k2 k3).2 (vp_updL rg k2.toNatClampNeg (C_U_negate md fl rg z1 k2 k3).1) (vp_updL f 0 ((C_U_negate md fl rg z1 k2 k3).1)) := by
  refine wr_of (by decide) (Nat.le_of_ble_eq_true rfl) ?_
  intro p e s m args below meth c Q hx hb hml hown hts hTab hX hF H hS hw hret ls hl
  have hl : lv_has ls 6 [(0, .ref h0), (1, .int (bI z1)), (2, .int k2), (3, .int k3), (4, .ref o0)] := hl
  refine lv_aload (pc := 0) hx hb dL_negate_0 (lv_at hl 4 rfl) ?_
  refine lv_iconst (v := 0) (pc := 2) hx hb dL_negate_2 (by decide) ?_
  refine lv_aload_n (pc := 3) hx hb dL_negate_3 rfl (lv_at hl 0 rfl) ?_
  refine lv_iload_n (pc := 4) hx hb dL_negate_4 rfl (lv_at hl 1 rfl) ?_
  refine lv_iload_n (pc := 5) hx hb dL_negate_5 rfl (lv_at hl 2 rfl) ?_
  refine lv_iload_n (pc := 6) hx hb dL_negate_6 rfl (lv_at hl 3 rfl) ?_
  refine gu_V (pc := 7) (rest := [.int 0, .ref o0]) ⟨hx, hb, hml, hown, hts⟩ (c_U_negate l ad D cA h0 r0 md fl rg z1 k2 k3 h_k2 h_k3) (cwU_negate hts w_346 ⟨by decide, by decide⟩) hF (fun q g => g.elim (fun g => Or.inl g) (fun g => Or.inr (Or.inl g))) hw.1 hS rfl hl.1 rfl (Nat.le_of_ble_eq_true rfl) dL_negate_7 ⟨Nat.zero_le _, Nat.zero_le _⟩ (fun H1 locs h1 hz hk hS => ?_)
  have hw := wu_join hw h1 hk
  refine W.eq (g2 := F0 m 10 ls [.long ((C_U_negate md fl rg z1 k2 k3).1), .int 0, .ref o0]) rfl ?_
  refine wu_st (pc := 10) hx hb hw hS (fun _ g => g) dL_negate_10 (fun H locs hw hS => ?_)
  refine lv_goto (tgt := 18) (pc := 11) hx hb dL_negate_11 (by decide) ?_
  refine lv_iconst (v := 0) (pc := 18) hx hb dL_negate_18 (by decide) ?_
  refine W.widen (k := 1) (n := 6) (by decide) (by decide) ?_
  exact hret _ _ _ _ _ _ _ _ _ rfl rfl rfl rfl rfl hw hS dL_negate_19
set_option maxRecDepth 100000 in
set_option maxHeartbeats 4000000 in
theorem t_L_negate (l : Launch) (ad : Nat → Nat) (D : va_G) (cA : ClassId) (h0 r0 o0 : Nat) (md fl : Int32) (rg f : Nat → Int64) (z1 : Bool) (k2 : Int32) (k3 : Int32) (hlt : l.stackTraces = false) (hbad : ¬ (vp_in k2 16 ∧ vp_in k3 16)) : WrM l ad D cA h0 r0 o0 yL_negate (wsW yL_negate cL_negate 6 [(0, 11, 14, 13)]) rmL_negate [.ref h0, .int (bI z1), .int k2, .int k3, .ref o0] md fl rg f 1 md fl rg f := by
  refine wr_of (by decide) (Nat.le_of_ble_eq_true rfl) ?_
  intro p e s m args below meth c Q hx hb hml hown hts hTab hX hF H hS hw hret ls hl
  have hl : lv_has ls 6 [(0, .ref h0), (1, .int (bI z1)), (2, .int k2), (3, .int k3), (4, .ref o0)] := hl
  refine lv_aload (pc := 0) hx hb dL_negate_0 (lv_at hl 4 rfl) ?_
  refine lv_iconst (v := 0) (pc := 2) hx hb dL_negate_2 (by decide) ?_
  refine lv_aload_n (pc := 3) hx hb dL_negate_3 rfl (lv_at hl 0 rfl) ?_
  refine lv_iload_n (pc := 4) hx hb dL_negate_4 rfl (lv_at hl 1 rfl) ?_
  refine lv_iload_n (pc := 5) hx hb dL_negate_5 rfl (lv_at hl 2 rfl) ?_
  refine lv_iload_n (pc := 6) hx hb dL_negate_6 rfl (lv_at hl 3 rfl) ?_
  refine gt_V (pc := 7) (rest := [.int 0, .ref o0]) ⟨hx, hb, hml, hown, hts⟩ (t_U_negate l hlt ad h0 z1 k2 k3 hbad) (twU_negate hts w_346 ⟨by decide, by decide⟩) hX hF hw.1 hS rfl hl.1 rfl (Nat.le_of_ble_eq_true rfl) dL_negate_7 ⟨by decide, by decide⟩ (fun q9 ce H1 hz hk hS hce hcv hcl => ?_)
  have hw := wu_kept hw hk
  refine vx_catch (own := "FloatUnitLaw") (name := iae) (E := iae) hown [] ⟨0, 11, 14, 13⟩ [] (hTab.trans rfl) (fun z hz => nomatch hz) rfl (by decide) (hts _ (List.mem_cons_of_mem _ w_36)) (va_Nw.use rfl hX.2.2.1) hce hcv hcl ?_
  refine lv_astore (lv' := [(5, .ref q9), (0, .ref h0), (1, .int (bI z1)), (2, .int k2), (3, .int k3), (4, .ref o0)]) (pc := 14) hx hb dL_negate_14 hl (by decide) rfl (fun ls hl => ?_)
  refine lv_iconst (v := 1) (pc := 16) hx hb dL_negate_16 (by decide) ?_
  exact hret _ _ _ _ _ _ _ _ _ rfl rfl rfl rfl rfl hw hS dL_negate_17
