/-! The unit's object: two cells (object, registers). 'FuM .. av md fl rg ov md1 fl1 rg1': with the arguments av, from mode md, flags fl, registers rg the method answers ov, and the object holds md1, fl1, rg1; nothing else changes. -/
abbrev FUc (h0 r0 : Nat) (cA : ClassId) (md fl : Int32) (rg : Nat → Int64) : va_W := [(h0, .inr (0, [.ref r0, .int md, .int fl])), (r0, .inl (cA, 16, .inr (.inl rg)))]
def fA (h0 r0 : Nat) : Nat → Prop := fun q => q = h0 ∨ q = r0
def FUw (D : va_G) (cA : ClassId) (h0 r0 : Nat) (md fl : Int32) (rg : Nat → Int64) (U : State) (H : Heap) : Prop :=
  va_P D clW (FUc h0 r0 cA md fl rg) H ∧ va_K D clW [(cA, .long)] U ∧ va_D (fA h0 r0) (FUc h0 r0 cA md fl rg)
def FuM (l : Launch) (ad : Nat → Nat) (D : va_G) (cA : ClassId) (h0 r0 : Nat) (y : MethodName) (ws : List Cond) (rm : Room) (av : List Value) (md fl : Int32) (rg : Nat → Int64) (ov : Option Value) (md1 fl1 : Int32) (rg1 : Nat → Int64) : Prop :=
  Met l y ws rm (va_Pc (.ref h0 :: av) (fun U => FUw D cA h0 r0 md fl rg U U.heap ∧ FM ad (fA h0 r0) U U.heap)) (fun _ st oc t => oc = .returned ov ∧ FUw D cA h0 r0 md1 fl1 rg1 t t.heap ∧ va_F (fA h0 r0) st t) 0 0 (fA h0 r0)
section FU
variable {p : Program} {l : Launch} {e : Env} {R : Room} {s : State} {m : MethodId} {args : Array Value} {below : List Frame} {meth : Method} {c : Code} {H : Heap} {locs : List Loc} {cells slots : Nat} {Q : State → Prop}
variable {w0 : Cond} {Ts ws ws' : List Cond} {cc bytes : ByteArray} {nL maxL index n : Nat} {own ref : String} {y : MethodName} {ret : Option FieldType} {rm : Room} {As av rest st : List Value} {pc : Nat} {ls : Array Slot} {ad : Nat → Nat}
variable {D : va_G} {cA : ClassId} {h0 r0 : Nat} {md fl md1 fl1 : Int32} {rg rg1 : Nat → Int64} {ov : Option Value} {H0 : Heap}
theorem fuw_moved {u U : State} (hvm : u.vm.Alike U.vm) (h : FUw D cA h0 r0 md fl rg u H) : FUw D cA h0 r0 md fl rg U H := ⟨h.1, va_K.moved hvm h.2.1, h.2.2⟩
theorem fu_md (hx : p.tables.exec = Jvm.exec) (hb : c.code = cc) (hts : ∀ w ∈ (w0 :: bigW), w.before args s = true) (hown : s.vm.findClass own = some m.cls) (hw : FUw D cA h0 r0 md fl rg s H) (hlink : Cond.fieldLink own index "FloatUnit" "currentMode" "I" ∈ bigW) (hdg : decode cc pc = .ok (.getfield index, 3))
    (kk : W p l e R s m args below meth c H locs cells slots Q (F0 m (pc + 3) ls (.int md :: rest))) : W p l e R s m args below meth c H locs cells slots Q (F0 m pc ls (.ref h0 :: rest)) :=
  va_get (D := D) (ci := 0) (C := "FloatUnit") (T := TU) (N := 3) hx hb hts uwU hown hw.2.1 hw.1 0 rfl rfl 1 (by decide) (hts _ (List.mem_cons_of_mem _ hlink)) (fun _ h => h) rfl hdg kk
theorem fu_fl (hx : p.tables.exec = Jvm.exec) (hb : c.code = cc) (hts : ∀ w ∈ (w0 :: bigW), w.before args s = true) (hown : s.vm.findClass own = some m.cls) (hw : FUw D cA h0 r0 md fl rg s H) (hlink : Cond.fieldLink own index "FloatUnit" "raised" "I" ∈ bigW) (hdg : decode cc pc = .ok (.getfield index, 3))
    (kk : W p l e R s m args below meth c H locs cells slots Q (F0 m (pc + 3) ls (.int fl :: rest))) : W p l e R s m args below meth c H locs cells slots Q (F0 m pc ls (.ref h0 :: rest)) :=
  va_get (D := D) (ci := 0) (C := "FloatUnit") (T := TU) (N := 3) hx hb hts uwU hown hw.2.1 hw.1 0 rfl rfl 2 (by decide) (hts _ (List.mem_cons_of_mem _ hlink)) (fun _ h => h) rfl hdg kk
theorem fu_rg (hx : p.tables.exec = Jvm.exec) (hb : c.code = cc) (hts : ∀ w ∈ (w0 :: bigW), w.before args s = true) (hown : s.vm.findClass own = some m.cls) (hw : FUw D cA h0 r0 md fl rg s H) (hlink : Cond.fieldLink own index "FloatUnit" "registers" "[J" ∈ bigW) (hdg : decode cc pc = .ok (.getfield index, 3))
    (kk : W p l e R s m args below meth c H locs cells slots Q (F0 m (pc + 3) ls (.ref r0 :: rest))) : W p l e R s m args below meth c H locs cells slots Q (F0 m pc ls (.ref h0 :: rest)) :=
  va_get (D := D) (ci := 0) (C := "FloatUnit") (T := TU) (N := 3) hx hb hts uwU hown hw.2.1 hw.1 0 rfl rfl 0 (by decide) (hts _ (List.mem_cons_of_mem _ hlink)) (fun _ h => h) rfl hdg kk
theorem fu_pfl (hx : p.tables.exec = Jvm.exec) (hb : c.code = cc) (hts : ∀ w ∈ (w0 :: bigW), w.before args s = true) (hown : s.vm.findClass own = some m.cls) (hw : FUw D cA h0 r0 md fl rg s H) (hS : va_S (fA h0 r0) H0 H locs) (hlink : Cond.fieldLink own index "FloatUnit" "raised" "I" ∈ bigW) {v : Int32} (hdg : decode cc pc = .ok (.putfield index, 3))
    (kk : ∀ (H1 : Heap) (locs1 : List Loc), FUw D cA h0 r0 md v rg s H1 → va_S (fA h0 r0) H0 H1 locs1 → W p l e R s m args below meth c H1 locs1 cells slots Q (F0 m (pc + 3) ls rest)) : W p l e R s m args below meth c H locs cells slots Q (F0 m pc ls (.int v :: .ref h0 :: rest)) :=
  va_put (D := D) (ci := 0) (C := "FloatUnit") (T := TU) (N := 3) (ty := .int) hx hb hts uwU tyU tyU_ok nmU hown hw.2.1 hw.1 hw.2.2 hS 0 rfl rfl 2 (by decide) (hts _ (List.mem_cons_of_mem _ hlink)) (fun _ h => h) rfl (by decide +kernel) rfl rfl (Nat.le_of_ble_eq_true rfl) hdg (fun H1 locs1 hP hD hS => kk H1 locs1 ⟨hP, hw.2.1, hD⟩ hS)
theorem fu_pmd (hx : p.tables.exec = Jvm.exec) (hb : c.code = cc) (hts : ∀ w ∈ (w0 :: bigW), w.before args s = true) (hown : s.vm.findClass own = some m.cls) (hw : FUw D cA h0 r0 md fl rg s H) (hS : va_S (fA h0 r0) H0 H locs) (hlink : Cond.fieldLink own index "FloatUnit" "currentMode" "I" ∈ bigW) {v : Int32} (hdg : decode cc pc = .ok (.putfield index, 3))
    (kk : ∀ (H1 : Heap) (locs1 : List Loc), FUw D cA h0 r0 v fl rg s H1 → va_S (fA h0 r0) H0 H1 locs1 → W p l e R s m args below meth c H1 locs1 cells slots Q (F0 m (pc + 3) ls rest)) : W p l e R s m args below meth c H locs cells slots Q (F0 m pc ls (.int v :: .ref h0 :: rest)) :=
  va_put (D := D) (ci := 0) (C := "FloatUnit") (T := TU) (N := 3) (ty := .int) hx hb hts uwU tyU tyU_ok nmU hown hw.2.1 hw.1 hw.2.2 hS 0 rfl rfl 1 (by decide) (hts _ (List.mem_cons_of_mem _ hlink)) (fun _ h => h) rfl (by decide +kernel) rfl rfl (Nat.le_of_ble_eq_true rfl) hdg (fun H1 locs1 hP hD hS => kk H1 locs1 ⟨hP, hw.2.1, hD⟩ hS)
theorem fu_ld (hx : p.tables.exec = Jvm.exec) (hb : c.code = cc) (hw : FUw D cA h0 r0 md fl rg s H) {i : Int32} (hin : vp_in i 16) (hdg : decode cc pc = .ok (.laload, 1))
    (kk : W p l e R s m args below meth c H locs cells slots Q (F0 m (pc + 1) ls (.long (rg i.toNatClampNeg) :: rest))) : W p l e R s m args below meth c H locs cells slots Q (F0 m pc ls (.int i :: .ref r0 :: rest)) :=
  va_lald (D := D) (cl := clW) hx hb hw.2.1 hw.1 1 0 rfl rfl hin hdg kk
theorem fu_st (hx : p.tables.exec = Jvm.exec) (hb : c.code = cc) (hw : FUw D cA h0 r0 md fl rg s H) (hS : va_S (fA h0 r0) H0 H locs) {i : Int32} {x : Int64} (hin : vp_in i 16) (hdg : decode cc pc = .ok (.lastore, 1))
    (kk : ∀ (H1 : Heap) (locs1 : List Loc), FUw D cA h0 r0 md fl (vp_updL rg i.toNatClampNeg x) s H1 → va_S (fA h0 r0) H0 H1 locs1 → W p l e R s m args below meth c H1 locs1 cells slots Q (F0 m (pc + 1) ls rest)) : W p l e R s m args below meth c H locs cells slots Q (F0 m pc ls (.long x :: .int i :: .ref r0 :: rest)) :=
  va_last (D := D) (cl := clW) hx hb hw.2.1 hw.1 hw.2.2 hS 1 0 rfl rfl hin hdg (fun H1 locs1 hP hD hS => kk H1 locs1 ⟨hP, hw.2.1, hD⟩ hS)
theorem fu_go {Qa : State → Outcome → State → Prop} (hr : va_Run p l e R s m args below meth c H locs cells slots 0 0 (F0 m pc ls st) rest Qa (fA h0 r0)) (hq : ∀ st oc t, Qa st oc t → oc = .returned ov ∧ FUw D cA h0 r0 md1 fl1 rg1 t t.heap ∧ va_F (fA h0 r0) st t) (hS : va_S (fA h0 r0) H0 H locs)
    (kk : ∀ (H1 : Heap) (locs1 : List Loc), FUw D cA h0 r0 md1 fl1 rg1 s H1 → va_S (fA h0 r0) H0 H1 locs1 → W p l e R s m args below meth c H1 locs1 cells slots Q (F0 m (pc + 3) ls (ov.toList ++ rest))) : W p l e R s m args below meth c H locs cells slots Q (F0 m pc ls st) := by
  intro T hT X
  obtain ⟨v, st₀, t, T', L, g0, X', hL, e1, e2, hqa, sg⟩ := hr T hT X
  obtain ⟨hv, hw, hz, hk⟩ := hq _ _ _ hqa
  cases hv
  rw [g0] at hz hk
  have ha : s.vm.Alike t.vm := by rw [← e2]; exact X'.warmed.alike
  obtain ⟨t2, a1, b1⟩ := kk T'.heap (locs ++ L) (by rw [e1]; exact fuw_moved ha.symm hw)
    ⟨Nat.le_trans hS.1 (by rw [e1]; exact hz), fun q h1 h2 => by rw [e1, hk q (Nat.lt_of_lt_of_le h1 hS.1) h2]; exact hS.2.1 q h1 h2, fun q hq => by
      rcases List.mem_append.mp hq with h | h
      · exact hS.2.2 q h
      · exact hL q h⟩ T' rfl X'
  exact ⟨t2, sg t2 a1, b1⟩
theorem fu_V (S : CallFix p m c cc nL s args Ts own) (hM : FuM l ad D cA h0 r0 y ws rm As md fl rg ov md1 fl1 rg1) (cw : CallW R s args own "FloatUnit" index y bytes maxL ret ws rm 0 0 n) (hF : FM ad (fA h0 r0) s s.heap) (hw : FUw D cA h0 r0 md fl rg s H) (hS : va_S (fA h0 r0) s.heap H locs)
    (hn : As.length = n) (hsize : ls.size = nL) (hstack : st = As.reverse ++ .ref h0 :: rest) (hW : (rest.map fun v => v.category).sum ≤ 8) (hdg : decode cc pc = .ok (.invokevirtual index, 3)) (hf : cells ≤ R.cells ∧ slots ≤ R.slots)
    (kk : ∀ (H1 : Heap) (locs1 : List Loc), FUw D cA h0 r0 md1 fl1 rg1 s H1 → va_S (fA h0 r0) s.heap H1 locs1 → W p l e R s m args below meth c H1 locs1 cells slots Q (F0 m (pc + 3) ls (ov.toList ++ rest))) : W p l e R s m args below meth c H locs cells slots Q (F0 m pc ls st) :=
  fu_go (va_runV (g := F0 m pc ls st) (mc := 0) (ms := 0) S hM cw
    ⟨fun a U g mk q => ⟨q.1, fuw_moved (u := U) (U := U.calling g mk a) (Vm.Alike.refl U.vm) q.2.1, fm_same (u := U) (U := U.calling g mk a) rfl q.2.2⟩, va_recv hw.2.1 hw.1 rfl (q0 := 0) rfl,
      fun U hU hWm => ⟨rfl, by rw [hU]; exact fuw_moved hWm.alike hw, by rw [hU]; exact fm_warm hWm (fm_kept hF hS.2.1)⟩⟩ rfl hn hsize hstack (lv_room hW) hdg hf) (fun _ _ _ h => h) hS kk
end FU
section FUof
variable {l : Launch} {ad : Nat → Nat} {D : va_G} {cA : ClassId} {h0 r0 : Nat} {y : MethodName} {ws ws' : List Cond} {rm : Room} {av : List Value} {md fl md1 fl1 : Int32} {rg rg1 : Nat → Int64} {cc : ByteArray} {maxL : Nat}
theorem fu_ofL {r : Int64} (hy : plainName y.cls = true) (hw : ws = Cond.code y cc maxL (some .long) :: ws') (hn : (lg_sl (.ref h0 :: av)).length ≤ maxL)
    (body : ∀ (p : Program) (e : Env) (s : State) (m : MethodId) (args : Array Value) (below : List Frame) (meth : Method) (c : Code) (Q : State → Prop), p.tables.exec = Jvm.exec → c.code = cc → c.maxLocals = maxL → s.vm.findClass y.cls = some m.cls → (∀ w ∈ ws, w.before args s = true) → FM ad (fA h0 r0) s s.heap → ∀ (H : Heap) (locs : List Loc), va_S (fA h0 r0) s.heap H locs → FUw D cA h0 r0 md fl rg s H →
      (∀ (pc : Nat) (ls : Array Slot) (v : Int64) (md2 fl2 : Int32) (rg2 : Nat → Int64) (H : Heap) (locs : List Loc), v = r → md2 = md1 → fl2 = fl1 → rg2 = rg1 → FUw D cA h0 r0 md2 fl2 rg2 s H → va_S (fA h0 r0) s.heap H locs → decode cc pc = .ok (.lreturn, 1) → W p l e rm s m args below meth c H locs 0 0 Q (F0 m pc ls [.long v])) → ∀ ls : Array Slot, lv_has ls maxL (lv_args 0 (.ref h0 :: av)) → W p l e rm s m args below meth c H locs 0 0 Q (F0 m 0 ls [])) :
    FuM l ad D cA h0 r0 y ws rm av md fl rg (some (.long r)) md1 fl1 rg1 := by
  refine Met.ofW (cc := cc) (maxL := maxL) (ret := some .long) hy hw ?_
  intro p e s m args below meth c s₁ B hml hv
  obtain ⟨rfl, hh, hF⟩ := hv
  rw [lg_entry_eq]
  exact body p e s m _ below meth c _ B.exec B.bytes hml (findClass_of_methodNamed B.named) (atoms_spec B.pre) hF s.heap [] va_S.rf hh (fun pc ls v md2 fl2 rg2 H locs hv e1 e2 e3 hw hS hd => by subst hv e1 e2 e3; exact W.lret B.exec B.bytes B.returns (fun t ht hW => ⟨rfl, by rw [ht]; exact fuw_moved hW.alike hw, hS.F ht⟩) hS.2.2 hd B.notSynchronized) _ (lv_entry _ hn)
theorem fu_ofI {r : Int32} (hy : plainName y.cls = true) (hw : ws = Cond.code y cc maxL (some .int) :: ws') (hn : (lg_sl (.ref h0 :: av)).length ≤ maxL)
    (body : ∀ (p : Program) (e : Env) (s : State) (m : MethodId) (args : Array Value) (below : List Frame) (meth : Method) (c : Code) (Q : State → Prop), p.tables.exec = Jvm.exec → c.code = cc → c.maxLocals = maxL → s.vm.findClass y.cls = some m.cls → (∀ w ∈ ws, w.before args s = true) → FM ad (fA h0 r0) s s.heap → ∀ (H : Heap) (locs : List Loc), va_S (fA h0 r0) s.heap H locs → FUw D cA h0 r0 md fl rg s H →
      (∀ (pc : Nat) (ls : Array Slot) (v : Int32) (md2 fl2 : Int32) (rg2 : Nat → Int64) (H : Heap) (locs : List Loc), v = r → md2 = md1 → fl2 = fl1 → rg2 = rg1 → FUw D cA h0 r0 md2 fl2 rg2 s H → va_S (fA h0 r0) s.heap H locs → decode cc pc = .ok (.ireturn, 1) → W p l e rm s m args below meth c H locs 0 0 Q (F0 m pc ls [.int v])) → ∀ ls : Array Slot, lv_has ls maxL (lv_args 0 (.ref h0 :: av)) → W p l e rm s m args below meth c H locs 0 0 Q (F0 m 0 ls [])) :
    FuM l ad D cA h0 r0 y ws rm av md fl rg (some (.int r)) md1 fl1 rg1 := by
  refine Met.ofW (cc := cc) (maxL := maxL) (ret := some .int) hy hw ?_
  intro p e s m args below meth c s₁ B hml hv
  obtain ⟨rfl, hh, hF⟩ := hv
  rw [lg_entry_eq]
  exact body p e s m _ below meth c _ B.exec B.bytes hml (findClass_of_methodNamed B.named) (atoms_spec B.pre) hF s.heap [] va_S.rf hh (fun pc ls v md2 fl2 rg2 H locs hv e1 e2 e3 hw hS hd => by subst hv e1 e2 e3; exact W.iret B.exec B.bytes B.returns (fun t ht hW => ⟨rfl, by rw [ht]; exact fuw_moved hW.alike hw, hS.F ht⟩) hS.2.2 hd B.notSynchronized) _ (lv_entry _ hn)
theorem fu_ofZ {r : Bool} (hy : plainName y.cls = true) (hw : ws = Cond.code y cc maxL (some .boolean) :: ws') (hn : (lg_sl (.ref h0 :: av)).length ≤ maxL)
    (body : ∀ (p : Program) (e : Env) (s : State) (m : MethodId) (args : Array Value) (below : List Frame) (meth : Method) (c : Code) (Q : State → Prop), p.tables.exec = Jvm.exec → c.code = cc → c.maxLocals = maxL → s.vm.findClass y.cls = some m.cls → (∀ w ∈ ws, w.before args s = true) → FM ad (fA h0 r0) s s.heap → ∀ (H : Heap) (locs : List Loc), va_S (fA h0 r0) s.heap H locs → FUw D cA h0 r0 md fl rg s H →
      (∀ (pc : Nat) (ls : Array Slot) (v : Int32) (md2 fl2 : Int32) (rg2 : Nat → Int64) (H : Heap) (locs : List Loc), v = bI r → md2 = md1 → fl2 = fl1 → rg2 = rg1 → FUw D cA h0 r0 md2 fl2 rg2 s H → va_S (fA h0 r0) s.heap H locs → decode cc pc = .ok (.ireturn, 1) → W p l e rm s m args below meth c H locs 0 0 Q (F0 m pc ls [.int v])) → ∀ ls : Array Slot, lv_has ls maxL (lv_args 0 (.ref h0 :: av)) → W p l e rm s m args below meth c H locs 0 0 Q (F0 m 0 ls [])) :
    FuM l ad D cA h0 r0 y ws rm av md fl rg (some (.int (bI r))) md1 fl1 rg1 := by
  refine Met.ofW (cc := cc) (maxL := maxL) (ret := some .boolean) hy hw ?_
  intro p e s m args below meth c s₁ B hml hv
  obtain ⟨rfl, hh, hF⟩ := hv
  rw [lg_entry_eq]
  exact body p e s m _ below meth c _ B.exec B.bytes hml (findClass_of_methodNamed B.named) (atoms_spec B.pre) hF s.heap [] va_S.rf hh (fun pc ls v md2 fl2 rg2 H locs hv e1 e2 e3 hw hS hd => by subst hv e1 e2 e3; exact W.zret B.exec B.bytes B.returns (bI_narrow r) (fun t ht hW => ⟨rfl, by rw [ht]; exact fuw_moved hW.alike hw, hS.F ht⟩) hS.2.2 hd B.notSynchronized) _ (lv_entry _ hn)
theorem fu_ofV (hy : plainName y.cls = true) (hw : ws = Cond.code y cc maxL none :: ws') (hn : (lg_sl (.ref h0 :: av)).length ≤ maxL)
    (body : ∀ (p : Program) (e : Env) (s : State) (m : MethodId) (args : Array Value) (below : List Frame) (meth : Method) (c : Code) (Q : State → Prop), p.tables.exec = Jvm.exec → c.code = cc → c.maxLocals = maxL → s.vm.findClass y.cls = some m.cls → (∀ w ∈ ws, w.before args s = true) → FM ad (fA h0 r0) s s.heap → ∀ (H : Heap) (locs : List Loc), va_S (fA h0 r0) s.heap H locs → FUw D cA h0 r0 md fl rg s H →
      (∀ (pc : Nat) (ls : Array Slot) (md2 fl2 : Int32) (rg2 : Nat → Int64) (H : Heap) (locs : List Loc), md2 = md1 → fl2 = fl1 → rg2 = rg1 → FUw D cA h0 r0 md2 fl2 rg2 s H → va_S (fA h0 r0) s.heap H locs → decode cc pc = .ok (.return_, 1) → W p l e rm s m args below meth c H locs 0 0 Q (F0 m pc ls [])) → ∀ ls : Array Slot, lv_has ls maxL (lv_args 0 (.ref h0 :: av)) → W p l e rm s m args below meth c H locs 0 0 Q (F0 m 0 ls [])) :
    FuM l ad D cA h0 r0 y ws rm av md fl rg none md1 fl1 rg1 := by
  refine Met.ofW (cc := cc) (maxL := maxL) (ret := none) hy hw ?_
  intro p e s m args below meth c s₁ B hml hv
  obtain ⟨rfl, hh, hF⟩ := hv
  rw [lg_entry_eq]
  exact body p e s m _ below meth c _ B.exec B.bytes hml (findClass_of_methodNamed B.named) (atoms_spec B.pre) hF s.heap [] va_S.rf hh (fun pc ls md2 fl2 rg2 H locs e1 e2 e3 hw hS hd => by subst e1 e2 e3; exact W.vret B.exec B.bytes B.returns (fun t ht hW => ⟨rfl, by rw [ht]; exact fuw_moved hW.alike hw, hS.F ht⟩) hS.2.2 hd B.notSynchronized) _ (lv_entry _ hn)
end FUof
