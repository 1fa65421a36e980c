/-! The two constructors. -/
def iA (h0 sz : Nat) : Nat → Prop := fun q => q = h0 ∨ sz ≤ q
abbrev rmU_init : Room := { frames := 1, cells := 1, slots := 16, locals := 20 }
set_option maxRecDepth 100000 in
set_option maxHeartbeats 4000000 in
theorem c_U_init (l : Launch) (D : va_G) (h0 sz : Nat) (hsz0 : h0 < sz) : Met l yU_init (wsM yU_init cU_init 1 none) rmU_init (va_Pc [.ref h0] (fun U => U.heap.size = sz ∧ va_P D clW [(h0, .inr (0, [.null, .int 0, .int 0]))] U.heap ∧ va_K D clW [] U))
    (fun _ st oc t => oc = .returned none ∧ (∃ (r0 : Nat) (cA : ClassId), sz ≤ r0 ∧ FUw D cA h0 r0 0 0 (fun _ => 0) t t.heap) ∧ va_F (iA h0 sz) st t) 1 16 (iA h0 sz) := by
  refine Met.ofW (cc := cU_init) (maxL := 1) (ret := none) (by decide) rfl ?_
  intro p e s m args below meth c s₁ B hml hv
  obtain ⟨rfl, hsz, hP, hK⟩ := hv
  have hx := B.exec
  have hb := B.bytes
  have hr := B.returns
  have hts : ∀ w ∈ (Cond.code yU_init cU_init 1 none :: bigW), w.before _ s = true := atoms_spec (ws := wsM yU_init cU_init 1 none) B.pre
  have hown : s.vm.findClass "FloatUnit" = some m.cls := findClass_of_methodNamed B.named
  have hlocks := B.notSynchronized
  have hin : meth.name = "<init>" := (name_of_methodNamed B.named B.method).1
  subst hsz
  have hA : ∀ q : Nat, s.heap.size ≤ q → iA h0 s.heap.size q := fun q h => Or.inr h
  have hD : va_D (iA h0 s.heap.size) [(h0, .inr (0, [.null, .int 0, .int 0]))] := ⟨fun i j a b ha hb _ => by
    rcases i with _ | i <;> rcases j with _ | j <;> first | rfl | (cases ha; done) | (cases hb; done), fun k q hk => by
    rcases k with _ | k
    · cases hk
      exact Or.inl rfl
    · cases hk⟩
  have hS : va_S (iA h0 s.heap.size) s.heap s.heap [] := va_S.rf
  have hl := lv_entry ([.ref h0]) (n := 1) (Nat.le_of_ble_eq_true rfl)
  rw [lg_entry_eq]
  generalize (lg_sl ([.ref h0]) ++ List.replicate (1 - (lg_sl ([.ref h0])).length) Slot.unset).toArray = ls at hl ⊢
  have hl : lv_has ls 1 [(0, .ref h0)] := hl
  refine lv_aload_n (pc := 0) hx hb dU_init_0 rfl (lv_at hl 0 rfl) ?_
  refine W.objInit hx hb hown (hts _ (List.mem_cons_of_mem _ w_15)) (hts _ (List.mem_cons_of_mem _ w_16)) (hts _ (List.mem_cons_of_mem _ w_17)) rfl (by rw [hml]; exact hl.1) rfl dU_init_1 (Nat.le_of_ble_eq_true rfl) (Nat.le_of_ble_eq_true rfl) ?_
  refine W.eq (g2 := F0 m 4 ls []) rfl ?_
  refine lv_aload_n (pc := 4) hx hb dU_init_4 rfl (lv_at hl 0 rfl) ?_
  refine lv_bipush (v := 16) (pc := 5) hx hb dU_init_5 (by decide) ?_
  refine va_newa (pc := 7) (atype := .long) (D := D) (cl := clW) (a0 := (16, .inr (.inl (fun _ => 0)))) (ty := .long) (N' := 16) hx hb (hts _ (List.mem_cons_of_mem _ w_28)) rfl hK hP hD hS hA (fun _ => rfl) (by decide) (by decide) (by decide) (by decide) (by decide) dU_init_7 (fun q cA H hK hP hD hS => ?_)
  have hP : va_P D clW [(h0, .inr (0, [.null, .int 0, .int 0])), (q, .inl (cA, 16, .inr (.inl (fun _ => 0))))] H := hP
  have hD : va_D (iA h0 s.heap.size) [(h0, .inr (0, [.null, .int 0, .int 0])), (q, .inl (cA, 16, .inr (.inl (fun _ => 0))))] := hD
  have hK : va_K D clW [(cA, .long)] s := hK
  refine va_putF (pc := 9) (D := D) (ci := 0) (v := .ref q) (ty := .array .long) (C := "FloatUnit") (T := TU) (N := 3) hx hb hts uwU tyU tyU_ok nmU hown hK hP hD hS 0 rfl rfl 0 (by decide) (hts _ (List.mem_cons_of_mem _ w_18)) (fun _ h9 => h9) rfl hin rfl (by decide +kernel) rfl rfl (Nat.le_of_ble_eq_true rfl) dU_init_9 (fun H locs hP hD hS => ?_)
  have hP : va_P D clW [(h0, .inr (0, [.ref q, .int 0, .int 0])), (q, .inl (cA, 16, .inr (.inl (fun _ => 0))))] H := hP
  have hD : va_D (iA h0 s.heap.size) [(h0, .inr (0, [.ref q, .int 0, .int 0])), (q, .inl (cA, 16, .inr (.inl (fun _ => 0))))] := hD
  refine lv_aload_n (pc := 12) hx hb dU_init_12 rfl (lv_at hl 0 rfl) ?_
  refine lv_iconst (v := 0) (pc := 13) hx hb dU_init_13 (by decide) ?_
  refine va_put (pc := 14) (D := D) (ci := 0) (v := .int 0) (ty := .int) (C := "FloatUnit") (T := TU) (N := 3) hx hb hts uwU tyU tyU_ok nmU hown hK hP hD hS 0 rfl rfl 1 (by decide) (hts _ (List.mem_cons_of_mem _ w_19)) (fun _ h9 => h9) rfl (by decide +kernel) rfl rfl (Nat.le_of_ble_eq_true rfl) dU_init_14 (fun H locs hP hD hS => ?_)
  have hP : va_P D clW [(h0, .inr (0, [.ref q, .int 0, .int 0])), (q, .inl (cA, 16, .inr (.inl (fun _ => 0))))] H := hP
  have hD : va_D (iA h0 s.heap.size) [(h0, .inr (0, [.ref q, .int 0, .int 0])), (q, .inl (cA, 16, .inr (.inl (fun _ => 0))))] := hD
  refine lv_aload_n (pc := 17) hx hb dU_init_17 rfl (lv_at hl 0 rfl) ?_
  refine lv_iconst (v := 0) (pc := 18) hx hb dU_init_18 (by decide) ?_
  refine va_put (pc := 19) (D := D) (ci := 0) (v := .int 0) (ty := .int) (C := "FloatUnit") (T := TU) (N := 3) hx hb hts uwU tyU tyU_ok nmU hown hK hP hD hS 0 rfl rfl 2 (by decide) (hts _ (List.mem_cons_of_mem _ w_20)) (fun _ h9 => h9) rfl (by decide +kernel) rfl rfl (Nat.le_of_ble_eq_true rfl) dU_init_19 (fun H locs hP hD hS => ?_)
  have hP : va_P D clW (FUc h0 q cA 0 0 (fun _ => 0)) H := hP
  have hD : va_D (iA h0 s.heap.size) (FUc h0 q cA 0 0 (fun _ => 0)) := hD
  have hne : ¬ h0 = q := fun g => absurd (hD.1 0 1 _ _ rfl rfl g) (by decide)
  have hq : s.heap.size ≤ q := by
    rcases hD.2 1 _ rfl with g | g
    · exact absurd g.symm hne
    · exact g
  have hD2 : va_D (fA h0 q) (FUc h0 q cA 0 0 (fun _ => 0)) := ⟨hD.1, fun k r hk => by
    rcases k with _ | _ | k
    · cases hk
      exact Or.inl rfl
    · cases hk
      exact Or.inr rfl
    · cases hk⟩
  exact W.vret (pc := 22) hx hb hr (fun t ht hW => ⟨rfl, ⟨q, cA, hq, by rw [ht]; exact hP, va_K.moved hW.alike hK, hD2⟩, hS.F ht⟩) hS.2.2 dU_init_22 hlocks
theorem cwU_init {R : Room} {s : State} {args : Array Value} {w0 : Cond} {own : String} {idx : Nat} (hts : ∀ w ∈ (w0 :: bigW), w.before args s = true) (hl : Cond.methodLink own idx yU_init ∈ bigW) (hR : rmU_init.frames + 1 ≤ R.frames ∧ 8 + (1 + 11) + rmU_init.locals ≤ R.locals) : CallB R s args own idx yU_init cU_init 1 none (wsM yU_init cU_init 1 none) rmU_init 1 16 0 ∧ yU_init.name = "<init>" ∧ (Cond.instanceMethod yU_init).before args s = true :=
  cwI 0 hts (big_M w_14) rfl rfl rfl (hts _ (List.mem_cons_of_mem _ w_1)) (hts _ (List.mem_cons_of_mem _ hl)) (hts _ (List.mem_cons_of_mem _ w_13)) rfl ⟨by decide, by decide, by decide +kernel⟩ hR
abbrev rmM_init : Room := { frames := 1, cells := 3, slots := 4416, locals := 20 }
set_option maxRecDepth 100000 in
set_option maxHeartbeats 8000000 in
theorem c_M_init (l : Launch) (D : va_G) (m0 sz : Nat) (hsz0 : m0 < sz) : Met l yM_init (wsM yM_init cM_init 1 none) rmM_init (va_Pc [.ref m0] (fun U => U.heap.size = sz ∧ va_P D clW [(m0, .inr (1, [.null, .null, .null, .int 0, .int 0, .int 0, .int 0, .int 0, .int 0, .int 0, .int 0, .int 0, .long 0, .long 0, .int 0, .int 0]))] U.heap ∧ va_K D clW [] U))
    (fun _ st oc t => oc = .returned none ∧ (∃ (ra rb rc : Nat) (cI cL : ClassId), sz ≤ ra ∧ sz ≤ rb ∧ sz ≤ rc ∧ MOw D cI cL m0 ra rb rc ((0, 0, 0, 0, 0, 0, 0, 0, 0), (0, 0), (0, 0), (fun _ => 0), (fun _ => 0), (fun _ => 0)) t t.heap) ∧ va_F (iA m0 sz) st t) 3 4416 (iA m0 sz) := by
  refine Met.ofW (cc := cM_init) (maxL := 1) (ret := none) (by decide) rfl ?_
  intro p e s m args below meth c s₁ B hml hv
  obtain ⟨rfl, hsz, hP, hK⟩ := hv
  have hx := B.exec
  have hb := B.bytes
  have hr := B.returns
  have hts : ∀ w ∈ (Cond.code yM_init cM_init 1 none :: bigW), w.before _ s = true := atoms_spec (ws := wsM yM_init cM_init 1 none) B.pre
  have hown : s.vm.findClass "FloatUnitModel" = some m.cls := findClass_of_methodNamed B.named
  have hlocks := B.notSynchronized
  have hin : meth.name = "<init>" := (name_of_methodNamed B.named B.method).1
  subst hsz
  have hA : ∀ q : Nat, s.heap.size ≤ q → iA m0 s.heap.size q := fun q h => Or.inr h
  have hD : va_D (iA m0 s.heap.size) [(m0, .inr (1, [.null, .null, .null, .int 0, .int 0, .int 0, .int 0, .int 0, .int 0, .int 0, .int 0, .int 0, .long 0, .long 0, .int 0, .int 0]))] := ⟨fun i j a b ha hb _ => by
    rcases i with _ | i <;> rcases j with _ | j <;> first | rfl | (cases ha; done) | (cases hb; done), fun k q hk => by
    rcases k with _ | k
    · cases hk
      exact Or.inl rfl
    · cases hk⟩
  have hS : va_S (iA m0 s.heap.size) s.heap s.heap [] := va_S.rf
  have hl := lv_entry ([.ref m0]) (n := 1) (Nat.le_of_ble_eq_true rfl)
  rw [lg_entry_eq]
  generalize (lg_sl ([.ref m0]) ++ List.replicate (1 - (lg_sl ([.ref m0])).length) Slot.unset).toArray = ls at hl ⊢
  have hl : lv_has ls 1 [(0, .ref m0)] := hl
  refine lv_aload_n (pc := 0) hx hb dM_init_0 rfl (lv_at hl 0 rfl) ?_
  refine W.objInit hx hb hown (hts _ (List.mem_cons_of_mem _ w_355)) (hts _ (List.mem_cons_of_mem _ w_16)) (hts _ (List.mem_cons_of_mem _ w_17)) rfl (by rw [hml]; exact hl.1) rfl dM_init_1 (Nat.le_of_ble_eq_true rfl) (Nat.le_of_ble_eq_true rfl) ?_
  refine W.eq (g2 := F0 m 4 ls []) rfl ?_
  refine lv_aload_n (pc := 4) hx hb dM_init_4 rfl (lv_at hl 0 rfl) ?_
  refine lv_sipush (v := 2200) (pc := 5) hx hb dM_init_5 (by decide) ?_
  refine va_newa (pc := 8) (atype := .int) (D := D) (cl := clW) (a0 := (2200, .inl (fun _ => 0))) (ty := .int) (N' := 2200) hx hb (hts _ (List.mem_cons_of_mem _ w_405)) rfl hK hP hD hS hA (fun _ => rfl) (by decide) (by decide) (by decide) (by decide) (by decide) dM_init_8 (fun qa cA H hK hP hD hS => ?_)
  have hP : va_P D clW [(m0, .inr (1, [.null, .null, .null, .int 0, .int 0, .int 0, .int 0, .int 0, .int 0, .int 0, .int 0, .int 0, .long 0, .long 0, .int 0, .int 0])), (qa, .inl (cA, 2200, .inl (fun _ => 0)))] H := hP
  have hD : va_D (iA m0 s.heap.size) [(m0, .inr (1, [.null, .null, .null, .int 0, .int 0, .int 0, .int 0, .int 0, .int 0, .int 0, .int 0, .int 0, .long 0, .long 0, .int 0, .int 0])), (qa, .inl (cA, 2200, .inl (fun _ => 0)))] := hD
  have hK : va_K D clW [(cA, .int)] s := hK
  refine va_putF (pc := 10) (D := D) (ci := 1) (v := .ref qa) (ty := .array .int) (C := "FloatUnitModel") (T := TM) (N := 16) hx hb hts uwM tyM tyM_ok nmM hown hK hP hD hS 0 rfl rfl 0 (by decide) (hts _ (List.mem_cons_of_mem _ w_356)) (fun _ h9 => h9) rfl hin rfl (by decide +kernel) rfl rfl (Nat.le_of_ble_eq_true rfl) dM_init_10 (fun H locs hP hD hS => ?_)
  have hP : va_P D clW [(m0, .inr (1, [.ref qa, .null, .null, .int 0, .int 0, .int 0, .int 0, .int 0, .int 0, .int 0, .int 0, .int 0, .long 0, .long 0, .int 0, .int 0])), (qa, .inl (cA, 2200, .inl (fun _ => 0)))] H := hP
  have hD : va_D (iA m0 s.heap.size) [(m0, .inr (1, [.ref qa, .null, .null, .int 0, .int 0, .int 0, .int 0, .int 0, .int 0, .int 0, .int 0, .int 0, .long 0, .long 0, .int 0, .int 0])), (qa, .inl (cA, 2200, .inl (fun _ => 0)))] := hD
  refine lv_aload_n (pc := 13) hx hb dM_init_13 rfl (lv_at hl 0 rfl) ?_
  refine lv_sipush (v := 2200) (pc := 14) hx hb dM_init_14 (by decide) ?_
  refine va_newa (pc := 17) (atype := .int) (D := D) (cl := clW) (a0 := (2200, .inl (fun _ => 0))) (ty := .int) (N' := 2200) hx hb (hts _ (List.mem_cons_of_mem _ w_405)) rfl hK hP hD hS hA (fun _ => rfl) (by decide) (by decide) (by decide) (by decide) (by decide) dM_init_17 (fun qb cB H hK hP hD hS => ?_)
  have hP : va_P D clW [(m0, .inr (1, [.ref qa, .null, .null, .int 0, .int 0, .int 0, .int 0, .int 0, .int 0, .int 0, .int 0, .int 0, .long 0, .long 0, .int 0, .int 0])), (qa, .inl (cA, 2200, .inl (fun _ => 0))), (qb, .inl (cB, 2200, .inl (fun _ => 0)))] H := hP
  have hD : va_D (iA m0 s.heap.size) [(m0, .inr (1, [.ref qa, .null, .null, .int 0, .int 0, .int 0, .int 0, .int 0, .int 0, .int 0, .int 0, .int 0, .long 0, .long 0, .int 0, .int 0])), (qa, .inl (cA, 2200, .inl (fun _ => 0))), (qb, .inl (cB, 2200, .inl (fun _ => 0)))] := hD
  have hK : va_K D clW [(cA, .int), (cB, .int)] s := hK
  refine va_putF (pc := 19) (D := D) (ci := 1) (v := .ref qb) (ty := .array .int) (C := "FloatUnitModel") (T := TM) (N := 16) hx hb hts uwM tyM tyM_ok nmM hown hK hP hD hS 0 rfl rfl 1 (by decide) (hts _ (List.mem_cons_of_mem _ w_357)) (fun _ h9 => h9) rfl hin rfl (by decide +kernel) rfl rfl (Nat.le_of_ble_eq_true rfl) dM_init_19 (fun H locs hP hD hS => ?_)
  have hP : va_P D clW [(m0, .inr (1, [.ref qa, .ref qb, .null, .int 0, .int 0, .int 0, .int 0, .int 0, .int 0, .int 0, .int 0, .int 0, .long 0, .long 0, .int 0, .int 0])), (qa, .inl (cA, 2200, .inl (fun _ => 0))), (qb, .inl (cB, 2200, .inl (fun _ => 0)))] H := hP
  have hD : va_D (iA m0 s.heap.size) [(m0, .inr (1, [.ref qa, .ref qb, .null, .int 0, .int 0, .int 0, .int 0, .int 0, .int 0, .int 0, .int 0, .int 0, .long 0, .long 0, .int 0, .int 0])), (qa, .inl (cA, 2200, .inl (fun _ => 0))), (qb, .inl (cB, 2200, .inl (fun _ => 0)))] := hD
  refine lv_aload_n (pc := 22) hx hb dM_init_22 rfl (lv_at hl 0 rfl) ?_
  refine lv_bipush (v := 16) (pc := 23) hx hb dM_init_23 (by decide) ?_
  refine va_newa (pc := 25) (atype := .long) (D := D) (cl := clW) (a0 := (16, .inr (.inl (fun _ => 0)))) (ty := .long) (N' := 16) hx hb (hts _ (List.mem_cons_of_mem _ w_28)) rfl hK hP hD hS hA (fun _ => rfl) (by decide) (by decide) (by decide) (by decide) (by decide) dM_init_25 (fun qc cC H hK hP hD hS => ?_)
  have hP : va_P D clW [(m0, .inr (1, [.ref qa, .ref qb, .null, .int 0, .int 0, .int 0, .int 0, .int 0, .int 0, .int 0, .int 0, .int 0, .long 0, .long 0, .int 0, .int 0])), (qa, .inl (cA, 2200, .inl (fun _ => 0))), (qb, .inl (cB, 2200, .inl (fun _ => 0))), (qc, .inl (cC, 16, .inr (.inl (fun _ => 0))))] H := hP
  have hD : va_D (iA m0 s.heap.size) [(m0, .inr (1, [.ref qa, .ref qb, .null, .int 0, .int 0, .int 0, .int 0, .int 0, .int 0, .int 0, .int 0, .int 0, .long 0, .long 0, .int 0, .int 0])), (qa, .inl (cA, 2200, .inl (fun _ => 0))), (qb, .inl (cB, 2200, .inl (fun _ => 0))), (qc, .inl (cC, 16, .inr (.inl (fun _ => 0))))] := hD
  have hK : va_K D clW [(cA, .int), (cB, .int), (cC, .long)] s := hK
  refine va_putF (pc := 27) (D := D) (ci := 1) (v := .ref qc) (ty := .array .long) (C := "FloatUnitModel") (T := TM) (N := 16) hx hb hts uwM tyM tyM_ok nmM hown hK hP hD hS 0 rfl rfl 2 (by decide) (hts _ (List.mem_cons_of_mem _ w_358)) (fun _ h9 => h9) rfl hin rfl (by decide +kernel) rfl rfl (Nat.le_of_ble_eq_true rfl) dM_init_27 (fun H locs hP hD hS => ?_)
  have hP : va_P D clW [(m0, .inr (1, [.ref qa, .ref qb, .ref qc, .int 0, .int 0, .int 0, .int 0, .int 0, .int 0, .int 0, .int 0, .int 0, .long 0, .long 0, .int 0, .int 0])), (qa, .inl (cA, 2200, .inl (fun _ => 0))), (qb, .inl (cB, 2200, .inl (fun _ => 0))), (qc, .inl (cC, 16, .inr (.inl (fun _ => 0))))] H := hP
  have hD : va_D (iA m0 s.heap.size) [(m0, .inr (1, [.ref qa, .ref qb, .ref qc, .int 0, .int 0, .int 0, .int 0, .int 0, .int 0, .int 0, .int 0, .int 0, .long 0, .long 0, .int 0, .int 0])), (qa, .inl (cA, 2200, .inl (fun _ => 0))), (qb, .inl (cB, 2200, .inl (fun _ => 0))), (qc, .inl (cC, 16, .inr (.inl (fun _ => 0))))] := hD
  have n01 : ¬ m0 = qa := fun g => absurd (hD.1 0 1 _ _ rfl rfl g) (by decide)
  have n02 : ¬ m0 = qb := fun g => absurd (hD.1 0 2 _ _ rfl rfl g) (by decide)
  have n03 : ¬ m0 = qc := fun g => absurd (hD.1 0 3 _ _ rfl rfl g) (by decide)
  have g1 : s.heap.size ≤ qa := (hD.2 1 _ rfl).elim (fun g => absurd g.symm n01) id
  have g2 : s.heap.size ≤ qb := (hD.2 2 _ rfl).elim (fun g => absurd g.symm n02) id
  have g3 : s.heap.size ≤ qc := (hD.2 3 _ rfl).elim (fun g => absurd g.symm n03) id
  have hcI : cB = cA := by
    have a1 := (hK.2 0 _ rfl).2
    have a2 := (hK.2 1 _ rfl).2
    exact Option.some.inj (a2.symm.trans a1)
  subst hcI
  have hD2 : va_D (mA m0 qa qb qc) (MOc m0 qa qb qc cB cC ((0, 0, 0, 0, 0, 0, 0, 0, 0), (0, 0), (0, 0), (fun _ => 0), (fun _ => 0), (fun _ => 0))) := ⟨hD.1, fun k r hk => by
    rcases k with _ | _ | _ | _ | k
    · cases hk
      exact Or.inl rfl
    · cases hk
      exact Or.inr (Or.inl rfl)
    · cases hk
      exact Or.inr (Or.inr (Or.inl rfl))
    · cases hk
      exact Or.inr (Or.inr (Or.inr rfl))
    · cases hk⟩
  have hK2 : va_K D clW [(cB, .int), (cC, .long)] s := hK.sub [0, 2] rfl
  exact W.vret (pc := 30) hx hb hr (fun t ht hW => ⟨rfl, ⟨qa, qb, qc, cB, cC, g1, g2, g3, by rw [ht]; exact hP, va_K.moved hW.alike hK2, hD2⟩, hS.F ht⟩) hS.2.2 dM_init_30 hlocks
theorem cwM_init {R : Room} {s : State} {args : Array Value} {w0 : Cond} {own : String} {idx : Nat} (hts : ∀ w ∈ (w0 :: bigW), w.before args s = true) (hl : Cond.methodLink own idx yM_init ∈ bigW) (hR : rmM_init.frames + 1 ≤ R.frames ∧ 8 + (1 + 11) + rmM_init.locals ≤ R.locals) : CallB R s args own idx yM_init cM_init 1 none (wsM yM_init cM_init 1 none) rmM_init 3 4416 0 ∧ yM_init.name = "<init>" ∧ (Cond.instanceMethod yM_init).before args s = true :=
  cwI 0 hts (big_M w_354) rfl rfl rfl (hts _ (List.mem_cons_of_mem _ w_2)) (hts _ (List.mem_cons_of_mem _ hl)) (hts _ (List.mem_cons_of_mem _ w_353)) rfl ⟨by decide, by decide, by decide +kernel⟩ hR
