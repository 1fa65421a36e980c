/-! Throwing: what a throw needs of the start (XM), contracts of methods that throw IllegalArgumentException and change nothing that was there (TxM). -/
def iae : String := "java/lang/IllegalArgumentException"
def iaeN : List String := ["java/lang/RuntimeException", "java/lang/Exception"]
def xB : List Cond := [.castable iae iae, .declares (Bundle.initS "java/lang/RuntimeException"), .declares (Bundle.initS "java/lang/Exception"), .declares (Bundle.initS Bundle.tN)]
def XM (A : Nat → Prop) (U : State) (H : Heap) : Prop :=
  vx_Zq Bundle.tN "UNASSIGNED_STACK" Bundle.steD A U H ∧ vx_Zq Bundle.tN "SUPPRESSED_SENTINEL" Bundle.listD A U H ∧ va_Nw (.castable iae iae) U ∧ va_Nw (.declares (Bundle.initS "java/lang/RuntimeException")) U ∧ va_Nw (.declares (Bundle.initS "java/lang/Exception")) U ∧ va_Nw (.declares (Bundle.initS Bundle.tN)) U ∧
  (∃ a, vk_R "FloatUnit" 95 "no such register" a U) ∧ (∃ a, vk_R "FloatUnit" 26 "no such mode" a U) ∧ ∃ a, vk_R "FloatUnit" 31 "no such operation" a U
theorem xm_warm {A : Nat → Prop} {u U : State} {H : Heap} (hW : u.WarmedH U.vm) (h : XM A u H) : XM A U H := by
  obtain ⟨h1, h2, h3, h4, h5, h6, ⟨a, h7⟩, ⟨b, h8⟩, ⟨c, h9⟩⟩ := h
  exact ⟨vx_Zq.moved hW.alike h1, vx_Zq.moved hW.alike h2, va_Nw.warmC hW h3, va_Nw.warmD hW h4, va_Nw.warmD hW h5, va_Nw.warmD hW h6, ⟨a, vk_R.warm hW h7⟩, ⟨b, vk_R.warm hW h8⟩, ⟨c, vk_R.warm hW h9⟩⟩
theorem xm_same {A : Nat → Prop} {u U : State} {H : Heap} (hvm : u.vm = U.vm) (h : XM A u H) : XM A U H := by
  obtain ⟨h1, h2, h3, h4, h5, h6, ⟨a, h7⟩, ⟨b, h8⟩, ⟨c, h9⟩⟩ := h
  have ha : u.vm.Alike U.vm := hvm ▸ Vm.Alike.refl u.vm
  exact ⟨vx_Zq.moved ha h1, vx_Zq.moved ha h2, va_Nw.same rfl hvm h3, va_Nw.same rfl hvm h4, va_Nw.same rfl hvm h5, va_Nw.same rfl hvm h6, ⟨a, vk_R.same hvm.symm h7⟩, ⟨b, vk_R.same hvm.symm h8⟩, ⟨c, vk_R.same hvm.symm h9⟩⟩
theorem xm_kept {A : Nat → Prop} {U : State} {H H1 : Heap} (h : XM A U H) (hq : ∀ a : Nat, a < H.size → ¬ A a → H1[a]? = H[a]?) : XM A U H1 := ⟨vx_Zq.kept h.1 hq, vx_Zq.kept h.2.1 hq, h.2.2⟩
theorem xm_narrow {A B : Nat → Prop} {U : State} {H : Heap} (h : XM A U H) (hAB : ∀ q, B q → A q) : XM B U H := ⟨vx_Zq.narrow h.1 hAB, vx_Zq.narrow h.2.1 hAB, h.2.2⟩
def xXC : String → State → State → Prop := fun E st t => E = iae ∧ va_F nA st t
def TxM (l : Launch) (ad : Nat → Nat) (y : MethodName) (ws : List Cond) (rm : Room) (av : List Value) : Prop :=
  vx_Met l y ws rm (va_Pc av (fun U => XM nA U U.heap ∧ FM ad nA U U.heap)) (fun _ _ _ _ => False) xXC 1 6 nA
theorem xat_good : ((vx_atS "FloatUnit" 28 iae iaeN).filter goodWord).all (fun w => decide (w ∈ bigW)) = true := by decide +kernel
theorem xat_rest : ∀ w ∈ (vx_atS "FloatUnit" 28 iae iaeN).filter (fun w => !goodWord w), w ∈ xB := by decide +kernel
theorem xat_ot : ∀ w ∈ Cond.classLink "FloatUnit" 24 iae :: Cond.initialized iae :: vx_atS "FloatUnit" 28 iae iaeN, vx_ot w = true := by decide +kernel
theorem xat {args : Array Value} {s : State} {w0 : Cond} {A : Nat → Prop} {H : Heap} (hts : ∀ w ∈ (w0 :: bigW), w.before args s = true) (hX : XM A s H) : ∀ w ∈ vx_atS "FloatUnit" 28 iae iaeN, w.before args s = true :=
  vx_hat (fun w hw => hts w (List.mem_cons_of_mem _ (of_decide_eq_true (List.all_eq_true.mp xat_good w hw)))) xat_rest
    (vx_c (va_Nw.use rfl hX.2.2.1) (vx_c (va_Nw.use rfl hX.2.2.2.1) (vx_c (va_Nw.use rfl hX.2.2.2.2.1) (vx_c (va_Nw.use rfl hX.2.2.2.2.2.1) vx_n))))
