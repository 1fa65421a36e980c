/-! A pure method that answers a reference. -/
theorem pu_ofA {l : Launch} {ad : Nat → Nat} {y : MethodName} {ws ws' : List Cond} {rm : Room} {av : List Value} {r : Nat} {C : String} {cc : ByteArray} {maxL : Nat} (hy : plainName y.cls = true) (hw : ws = Cond.code y cc maxL (some (.object C)) :: ws') (hn : (lg_sl av).length ≤ maxL)
    (body : ∀ (p : Program) (e : Env) (s : State) (m : MethodId) (args : Array Value) (below : List Frame) (meth : Method) (c : Code) (Q : State → Prop), p.tables.exec = Jvm.exec → c.code = cc → c.maxLocals = maxL → s.vm.findClass y.cls = some m.cls → (∀ w ∈ ws, w.before args s = true) → FM ad nA s s.heap → va_S nA s.heap s.heap [] →
      (∀ (pc : Nat) (ls : Array Slot) (v : Nat), v = r → decode cc pc = .ok (.areturn, 1) → W p l e rm s m args below meth c s.heap [] 0 0 Q (F0 m pc ls [.ref v])) → ∀ ls : Array Slot, lv_has ls maxL (lv_args 0 av) → W p l e rm s m args below meth c s.heap [] 0 0 Q (F0 m 0 ls [])) :
    PuM l ad y ws rm av (.ref r) := by
  intro Hc
  refine Met.ofW (cc := cc) (maxL := maxL) (ret := some (.object C)) hy hw ?_
  intro p e s m args below meth c s₁ B hml hv
  obtain ⟨rfl, hh, hF⟩ := hv
  subst hh
  rw [lg_entry_eq]
  exact body p e s m _ below meth c _ B.exec B.bytes hml (findClass_of_methodNamed B.named) (atoms_spec B.pre) hF va_S.rf (fun pc ls v hv hd => by subst hv; exact W.aret B.exec B.bytes B.returns (Or.inl ⟨_, rfl⟩) (Or.inr ⟨_, rfl⟩) (fun t ht hW => ⟨rfl, ht⟩) (fun q hq => nomatch hq) hd B.notSynchronized) _ (lv_entry av hn)
