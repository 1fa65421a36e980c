/-! The two constants of the format, and contracts of methods that change nothing: 'PuM .. av v': with the arguments av the method answers v, and the heap is as it was. -/
def nA : Nat → Prop := fun _ => False
def bI (b : Bool) : Int32 := if b then 1 else 0
def fPr (i : Nat) : Int32 := if i = 0 then 53 else 24
def fBi (i : Nat) : Int32 := if i = 0 then 1023 else 127
def fSg (i : Nat) : Int64 := if i = 0 then -9223372036854775808 else 2147483648
def fLe (i : Nat) : Int64 := if i = 0 then 4503599627370496 else 8388608
def fEn (i : Nat) : Int64 := if i = 0 then 9218868437227405312 else 2139095040
def fE : String := "FloatUnit$Format"
def FM (ad : Nat → Nat) (A : Nat → Prop) (U : State) (H : Heap) : Prop :=
  va_En fE "LFloatUnit$Format;" ["WIDE", "NARROW"] [] ad A U H ∧ va_Ef 2 fE "precision" "I" (fun i => .int (fPr i)) ad A U H ∧ va_Ef 2 fE "bias" "I" (fun i => .int (fBi i)) ad A U H ∧
  va_Ef 2 fE "sign" "J" (fun i => .long (fSg i)) ad A U H ∧ va_Ef 2 fE "leading" "J" (fun i => .long (fLe i)) ad A U H ∧ va_Ef 2 fE "endless" "J" (fun i => .long (fEn i)) ad A U H ∧ va_Nw nwFree U
theorem fm_warm {ad : Nat → Nat} {A : Nat → Prop} {u U : State} {H : Heap} (hW : u.WarmedH U.vm) (h : FM ad A u H) : FM ad A U H :=
  ⟨va_En.moved hW.alike h.1, va_Ef.moved hW.alike h.2.1, va_Ef.moved hW.alike h.2.2.1, va_Ef.moved hW.alike h.2.2.2.1, va_Ef.moved hW.alike h.2.2.2.2.1, va_Ef.moved hW.alike h.2.2.2.2.2.1, va_Nw.warmM hW h.2.2.2.2.2.2⟩
theorem fm_same {ad : Nat → Nat} {A : Nat → Prop} {u U : State} {H : Heap} (hvm : u.vm = U.vm) (h : FM ad A u H) : FM ad A U H :=
  have ha : u.vm.Alike U.vm := hvm ▸ Vm.Alike.refl u.vm
  ⟨va_En.moved ha h.1, va_Ef.moved ha h.2.1, va_Ef.moved ha h.2.2.1, va_Ef.moved ha h.2.2.2.1, va_Ef.moved ha h.2.2.2.2.1, va_Ef.moved ha h.2.2.2.2.2.1, va_Nw.same rfl hvm h.2.2.2.2.2.2⟩
theorem fm_kept {ad : Nat → Nat} {A : Nat → Prop} {U : State} {H H1 : Heap} (h : FM ad A U H) (hq : ∀ a : Nat, a < H.size → ¬ A a → H1[a]? = H[a]?) : FM ad A U H1 :=
  ⟨va_En.kept h.1 hq, va_Ef.kept h.2.1 hq, va_Ef.kept h.2.2.1 hq, va_Ef.kept h.2.2.2.1 hq, va_Ef.kept h.2.2.2.2.1 hq, va_Ef.kept h.2.2.2.2.2.1 hq, h.2.2.2.2.2.2⟩
theorem fm_narrow {ad : Nat → Nat} {A B : Nat → Prop} {U : State} {H : Heap} (h : FM ad A U H) (hAB : ∀ q, B q → A q) : FM ad B U H :=
  ⟨va_En.narrow h.1 hAB, va_Ef.narrow h.2.1 hAB, va_Ef.narrow h.2.2.1 hAB, va_Ef.narrow h.2.2.2.1 hAB, va_Ef.narrow h.2.2.2.2.1 hAB, va_Ef.narrow h.2.2.2.2.2.1 hAB, h.2.2.2.2.2.2⟩
def PuM (l : Launch) (ad : Nat → Nat) (y : MethodName) (ws : List Cond) (rm : Room) (av : List Value) (v : Value) : Prop :=
  ∀ Hc : Heap, Met l y ws rm (va_Pc av (fun U => U.heap = Hc ∧ FM ad nA U Hc)) (fun _ _ oc t => oc = .returned (some v) ∧ t.heap = Hc) 0 0 nA
section PU
variable {p : Program} {l : Launch} {e : Env} {R : Room} {s : State} {m : MethodId} {args : Array Value} {below : List Frame} {meth : Method} {c : Code} {H : Heap} {locs : List Loc} {cells slots : Nat} {Q : State → Prop}
variable {Ts ws ws' : List Cond} {cc bytes : ByteArray} {nL maxL index n i : Nat} {own C host ref : String} {y : MethodName} {ret : Option FieldType} {rm : Room} {As av rest st : List Value} {pc : Nat} {ls : Array Slot} {A : Nat → Prop} {ad : Nat → Nat} {b : Addr} {v : Value}
theorem pu_go (hr : va_Run p l e R s m args below meth c H locs cells slots 0 0 (F0 m pc ls st) rest (fun _ oc t => oc = .returned (some v) ∧ t.heap = H) nA)
    (kk : W p l e R s m args below meth c H locs cells slots Q (F0 m (pc + 3) ls (v :: rest))) : W p l e R s m args below meth c H locs cells slots Q (F0 m pc ls st) := by
  intro T hT X
  obtain ⟨v', st₀, t, T', L, h0, X', hL, e1, e2, ⟨hv, hh⟩, st⟩ := hr T hT X
  cases hv
  have hL0 : L = [] := by
    cases L with
    | nil => rfl
    | cons a L => exact (hL a List.mem_cons_self).elim
  subst hL0
  rw [List.append_nil] at X'
  obtain ⟨t2, a1, b1⟩ := kk T' (by rw [e1, hh]) X'
  exact ⟨t2, st t2 a1, b1⟩
theorem pu_S (S : CallFix p m c cc nL s args Ts own) (hM : PuM l ad y ws rm As v) (cw : CallB R s args own index y bytes maxL ret ws rm 0 0 n ∧ (Cond.static y).before args s = true) (hF : FM ad A s s.heap) (hS : va_S A s.heap H locs)
    (hn : As.length = n) (hsize : ls.size = nL) (hstack : st = As.reverse ++ rest) (hW : (rest.map fun v => v.category).sum ≤ 8) (hdg : decode cc pc = .ok (.invokestatic index, 3)) (hf : cells ≤ R.cells ∧ slots ≤ R.slots)
    (kk : W p l e R s m args below meth c H locs cells slots Q (F0 m (pc + 3) ls (v :: rest))) : W p l e R s m args below meth c H locs cells slots Q (F0 m pc ls st) :=
  pu_go (va_runS (g := F0 m pc ls st) (mc := 0) (ms := 0) S (hM H) cw
    ⟨fun a U g mk q => ⟨q.1, q.2.1, fm_same (u := U) (U := U.calling g mk a) rfl q.2.2⟩, fun U hU hWm => ⟨rfl, hU, fm_warm hWm (fm_narrow (fm_kept hF hS.2.1) (fun _ h => h.elim))⟩⟩ rfl hn hsize hstack (lv_room hW) hdg hf) kk
theorem pu_V (S : CallFix p m c cc nL s args Ts own) (hi : i < 2) (hM : PuM l ad y ws rm (.ref (ad i) :: As) v) (cw : CallW R s args own fE index y bytes maxL ret ws rm 0 0 n) (hF : FM ad A s s.heap) (hS : va_S A s.heap H locs)
    (hn : As.length = n) (hsize : ls.size = nL) (hstack : st = As.reverse ++ .ref (ad i) :: rest) (hW : (rest.map fun v => v.category).sum ≤ 8) (hdg : decode cc pc = .ok (.invokevirtual index, 3)) (hf : cells ≤ R.cells ∧ slots ≤ R.slots)
    (kk : W p l e R s m args below meth c H locs cells slots Q (F0 m (pc + 3) ls (v :: rest))) : W p l e R s m args below meth c H locs cells slots Q (F0 m pc ls st) :=
  pu_go (va_runV (g := F0 m pc ls st) (mc := 0) (ms := 0) S (hM H) cw
    ⟨fun a U g mk q => ⟨q.1, q.2.1, fm_same (u := U) (U := U.calling g mk a) rfl q.2.2⟩, va_recvE hF.1 hi hS, fun U hU hWm => ⟨rfl, hU, fm_warm hWm (fm_narrow (fm_kept hF hS.2.1) (fun _ h => h.elim))⟩⟩ rfl hn hsize hstack (lv_room hW) hdg hf) kk
theorem pu_SN (S : CallFix p m c cc nL s args Ts own) (hM : PuM l ad y ws rm As v) (cw : va_CN R s args own index y host bytes maxL ret ws rm 0 0 n ∧ (Cond.static y).before args s = true ∧ True) (hF : FM ad A s s.heap) (hS : va_S A s.heap H locs)
    (hn : As.length = n) (hsize : ls.size = nL) (hstack : st = As.reverse ++ rest) (hW : (rest.map fun v => v.category).sum ≤ 8) (hdg : decode cc pc = .ok (.invokestatic index, 3)) (hf : cells ≤ R.cells ∧ slots ≤ R.slots)
    (kk : W p l e R s m args below meth c H locs cells slots Q (F0 m (pc + 3) ls (v :: rest))) : W p l e R s m args below meth c H locs cells slots Q (F0 m pc ls st) :=
  pu_go (va_runSN (g := F0 m pc ls st) (mc := 0) (ms := 0) S (hM H) cw
    ⟨fun a U g mk q => ⟨q.1, q.2.1, fm_same (u := U) (U := U.calling g mk a) rfl q.2.2⟩, fun U hU hWm => ⟨rfl, hU, fm_warm hWm (fm_narrow (fm_kept hF hS.2.1) (fun _ h => h.elim))⟩⟩ rfl hn hsize hstack (lv_room hW) hdg hf) kk
theorem fm_pr (hx : p.tables.exec = Jvm.exec) (hb : c.code = cc) (hF : FM ad A s s.heap) (hi : i < 2) (hS : va_S A s.heap H locs) (hown : s.vm.findClass own = some m.cls) (hlink : (Cond.fieldLink own index fE "precision" "I").before args s = true) (hdg : decode cc pc = .ok (.getfield index, 3))
    (kk : W p l e R s m args below meth c H locs cells slots Q (F0 m (pc + 3) ls (.int (fPr i) :: rest))) : W p l e R s m args below meth c H locs cells slots Q (F0 m pc ls (.ref (ad i) :: rest)) := va_getX hx hb hF.2.1 hi hS hown hlink (fun _ h => h) hdg kk
theorem fm_bi (hx : p.tables.exec = Jvm.exec) (hb : c.code = cc) (hF : FM ad A s s.heap) (hi : i < 2) (hS : va_S A s.heap H locs) (hown : s.vm.findClass own = some m.cls) (hlink : (Cond.fieldLink own index fE "bias" "I").before args s = true) (hdg : decode cc pc = .ok (.getfield index, 3))
    (kk : W p l e R s m args below meth c H locs cells slots Q (F0 m (pc + 3) ls (.int (fBi i) :: rest))) : W p l e R s m args below meth c H locs cells slots Q (F0 m pc ls (.ref (ad i) :: rest)) := va_getX hx hb hF.2.2.1 hi hS hown hlink (fun _ h => h) hdg kk
theorem fm_sg (hx : p.tables.exec = Jvm.exec) (hb : c.code = cc) (hF : FM ad A s s.heap) (hi : i < 2) (hS : va_S A s.heap H locs) (hown : s.vm.findClass own = some m.cls) (hlink : (Cond.fieldLink own index fE "sign" "J").before args s = true) (hdg : decode cc pc = .ok (.getfield index, 3))
    (kk : W p l e R s m args below meth c H locs cells slots Q (F0 m (pc + 3) ls (.long (fSg i) :: rest))) : W p l e R s m args below meth c H locs cells slots Q (F0 m pc ls (.ref (ad i) :: rest)) := va_getX hx hb hF.2.2.2.1 hi hS hown hlink (fun _ h => h) hdg kk
theorem fm_le (hx : p.tables.exec = Jvm.exec) (hb : c.code = cc) (hF : FM ad A s s.heap) (hi : i < 2) (hS : va_S A s.heap H locs) (hown : s.vm.findClass own = some m.cls) (hlink : (Cond.fieldLink own index fE "leading" "J").before args s = true) (hdg : decode cc pc = .ok (.getfield index, 3))
    (kk : W p l e R s m args below meth c H locs cells slots Q (F0 m (pc + 3) ls (.long (fLe i) :: rest))) : W p l e R s m args below meth c H locs cells slots Q (F0 m pc ls (.ref (ad i) :: rest)) := va_getX hx hb hF.2.2.2.2.1 hi hS hown hlink (fun _ h => h) hdg kk
theorem fm_en (hx : p.tables.exec = Jvm.exec) (hb : c.code = cc) (hF : FM ad A s s.heap) (hi : i < 2) (hS : va_S A s.heap H locs) (hown : s.vm.findClass own = some m.cls) (hlink : (Cond.fieldLink own index fE "endless" "J").before args s = true) (hdg : decode cc pc = .ok (.getfield index, 3))
    (kk : W p l e R s m args below meth c H locs cells slots Q (F0 m (pc + 3) ls (.long (fEn i) :: rest))) : W p l e R s m args below meth c H locs cells slots Q (F0 m pc ls (.ref (ad i) :: rest)) := va_getX hx hb hF.2.2.2.2.2.1 hi hS hown hlink (fun _ h => h) hdg kk
theorem fm_c0 (hx : p.tables.exec = Jvm.exec) (hb : c.code = cc) (hF : FM ad A s s.heap) (hS : va_S A s.heap H locs) (hown : s.vm.findClass own = some m.cls) (hlink : (Cond.fieldLink own index fE "WIDE" "LFloatUnit$Format;").before args s = true) (hdg : decode cc pc = .ok (.getstatic index, 3))
    (kk : W p l e R s m args below meth c H locs cells slots Q (F0 m (pc + 3) ls (.ref (ad 0) :: rest))) : W p l e R s m args below meth c H locs cells slots Q (F0 m pc ls rest) := va_gets hx hb (hF.1.1 0 (by decide)).1 hS hown hlink (fun _ h => h) hdg kk
theorem fm_c1 (hx : p.tables.exec = Jvm.exec) (hb : c.code = cc) (hF : FM ad A s s.heap) (hS : va_S A s.heap H locs) (hown : s.vm.findClass own = some m.cls) (hlink : (Cond.fieldLink own index fE "NARROW" "LFloatUnit$Format;").before args s = true) (hdg : decode cc pc = .ok (.getstatic index, 3))
    (kk : W p l e R s m args below meth c H locs cells slots Q (F0 m (pc + 3) ls (.ref (ad 1) :: rest))) : W p l e R s m args below meth c H locs cells slots Q (F0 m pc ls rest) := va_gets hx hb (hF.1.1 1 (by decide)).1 hS hown hlink (fun _ h => h) hdg kk
end PU
/-- what a pure method's walk begins with -/
theorem pu_ofL {l : Launch} {ad : Nat → Nat} {y : MethodName} {ws ws' : List Cond} {rm : Room} {av : List Value} {r : Int64} {cc : ByteArray} {maxL : Nat} (hy : plainName y.cls = true) (hw : ws = Cond.code y cc maxL (some .long) :: ws') (hn : (lg_sl av).length ≤ maxL)
    (body : ∀ (p : Program) (e : Env) (s : State) (m : MethodId) (args : Array Value) (below : List Frame) (meth : Method) (c : Code) (Q : State → Prop), p.tables.exec = Jvm.exec → c.code = cc → c.maxLocals = maxL → s.vm.findClass y.cls = some m.cls → (∀ w ∈ ws, w.before args s = true) → FM ad nA s s.heap → va_S nA s.heap s.heap [] →
      (∀ (pc : Nat) (ls : Array Slot) (v : Int64), v = r → decode cc pc = .ok (.lreturn, 1) → W p l e rm s m args below meth c s.heap [] 0 0 Q (F0 m pc ls [.long v])) → ∀ ls : Array Slot, lv_has ls maxL (lv_args 0 av) → W p l e rm s m args below meth c s.heap [] 0 0 Q (F0 m 0 ls [])) :
    PuM l ad y ws rm av (.long r) := by
  intro Hc
  refine Met.ofW (cc := cc) (maxL := maxL) (ret := some .long) hy hw ?_
  intro p e s m args below meth c s₁ B hml hv
  obtain ⟨rfl, hh, hF⟩ := hv
  subst hh
  rw [lg_entry_eq]
  exact body p e s m _ below meth c _ B.exec B.bytes hml (findClass_of_methodNamed B.named) (atoms_spec B.pre) hF va_S.rf (fun pc ls v hv hd => by subst hv; exact W.lret B.exec B.bytes B.returns (fun t ht hW => ⟨rfl, ht⟩) (fun q hq => nomatch hq) hd B.notSynchronized) _ (lv_entry av hn)
theorem pu_ofI {l : Launch} {ad : Nat → Nat} {y : MethodName} {ws ws' : List Cond} {rm : Room} {av : List Value} {r : Int32} {cc : ByteArray} {maxL : Nat} (hy : plainName y.cls = true) (hw : ws = Cond.code y cc maxL (some .int) :: ws') (hn : (lg_sl av).length ≤ maxL)
    (body : ∀ (p : Program) (e : Env) (s : State) (m : MethodId) (args : Array Value) (below : List Frame) (meth : Method) (c : Code) (Q : State → Prop), p.tables.exec = Jvm.exec → c.code = cc → c.maxLocals = maxL → s.vm.findClass y.cls = some m.cls → (∀ w ∈ ws, w.before args s = true) → FM ad nA s s.heap → va_S nA s.heap s.heap [] →
      (∀ (pc : Nat) (ls : Array Slot) (v : Int32), v = r → decode cc pc = .ok (.ireturn, 1) → W p l e rm s m args below meth c s.heap [] 0 0 Q (F0 m pc ls [.int v])) → ∀ ls : Array Slot, lv_has ls maxL (lv_args 0 av) → W p l e rm s m args below meth c s.heap [] 0 0 Q (F0 m 0 ls [])) :
    PuM l ad y ws rm av (.int r) := by
  intro Hc
  refine Met.ofW (cc := cc) (maxL := maxL) (ret := some .int) hy hw ?_
  intro p e s m args below meth c s₁ B hml hv
  obtain ⟨rfl, hh, hF⟩ := hv
  subst hh
  rw [lg_entry_eq]
  exact body p e s m _ below meth c _ B.exec B.bytes hml (findClass_of_methodNamed B.named) (atoms_spec B.pre) hF va_S.rf (fun pc ls v hv hd => by subst hv; exact W.iret B.exec B.bytes B.returns (fun t ht hW => ⟨rfl, ht⟩) (fun q hq => nomatch hq) hd B.notSynchronized) _ (lv_entry av hn)
theorem bI_narrow (b : Bool) : narrow .boolean (.int (bI b)) = .int (bI b) := by cases b <;> rfl
theorem pu_ofZ {l : Launch} {ad : Nat → Nat} {y : MethodName} {ws ws' : List Cond} {rm : Room} {av : List Value} {r : Bool} {cc : ByteArray} {maxL : Nat} (hy : plainName y.cls = true) (hw : ws = Cond.code y cc maxL (some .boolean) :: ws') (hn : (lg_sl av).length ≤ maxL)
    (body : ∀ (p : Program) (e : Env) (s : State) (m : MethodId) (args : Array Value) (below : List Frame) (meth : Method) (c : Code) (Q : State → Prop), p.tables.exec = Jvm.exec → c.code = cc → c.maxLocals = maxL → s.vm.findClass y.cls = some m.cls → (∀ w ∈ ws, w.before args s = true) → FM ad nA s s.heap → va_S nA s.heap s.heap [] →
      (∀ (pc : Nat) (ls : Array Slot) (v : Int32), v = bI r → decode cc pc = .ok (.ireturn, 1) → W p l e rm s m args below meth c s.heap [] 0 0 Q (F0 m pc ls [.int v])) → ∀ ls : Array Slot, lv_has ls maxL (lv_args 0 av) → W p l e rm s m args below meth c s.heap [] 0 0 Q (F0 m 0 ls [])) :
    PuM l ad y ws rm av (.int (bI r)) := by
  intro Hc
  refine Met.ofW (cc := cc) (maxL := maxL) (ret := some .boolean) hy hw ?_
  intro p e s m args below meth c s₁ B hml hv
  obtain ⟨rfl, hh, hF⟩ := hv
  subst hh
  rw [lg_entry_eq]
  exact body p e s m _ below meth c _ B.exec B.bytes hml (findClass_of_methodNamed B.named) (atoms_spec B.pre) hF va_S.rf (fun pc ls v hv hd => by subst hv; exact W.zret B.exec B.bytes B.returns (bI_narrow r) (fun t ht hW => ⟨rfl, ht⟩) (fun q hq => nomatch hq) hd B.notSynchronized) _ (lv_entry av hn)
