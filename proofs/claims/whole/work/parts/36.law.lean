/-! The law's world: the unit, 'out', the reference; calls out of it. -/
def LWw (A : Nat → Prop) (D : va_G) (cA cI cL : ClassId) (h0 r0 o0 m0 ra rb rc : Nat) (md fl : Int32) (rg f : Nat → Int64) (S : MS) (U : State) (H : Heap) : Prop :=
  WUw D cA h0 r0 o0 md fl rg f U H ∧ MOw D cI cL m0 ra rb rc S U H ∧ (∀ q, wA h0 r0 o0 q → ¬ mA m0 ra rb rc q) ∧ (∀ q, wA h0 r0 o0 q → A q) ∧ ∀ q, mA m0 ra rb rc q → A q
section LW
variable {p : Program} {l : Launch} {e : Env} {R : Room} {s : State} {m : MethodId} {args : Array Value} {below : List Frame} {meth : Method} {c : Code} {H : Heap} {locs : List Loc} {cells slots : Nat} {Q : State → Prop}
variable {w0 : Cond} {Ts ws ws' : List Cond} {cc bytes : ByteArray} {nL maxL index n : Nat} {own : String} {y : MethodName} {ret : Option FieldType} {rm : Room} {As av rest st : List Value} {pc : Nat} {ls : Array Slot} {ad : Nat → Nat} {A : Nat → Prop}
variable {D : va_G} {cA cI cL : ClassId} {h0 r0 o0 m0 ra rb rc : Nat} {md fl md1 fl1 r : Int32} {rg rg1 f f1 : Nat → Int64} {ov : Option Value} {S S1 : MS} {hh : List (Nat × Nat × Nat × Nat)}
theorem mo_kept {H1 : Heap} (h : MOw D cI cL m0 ra rb rc S s H) (e0 : ∀ q : Nat, q < H.size → mA m0 ra rb rc q → H1[q]? = H[q]?) : MOw D cI cL m0 ra rb rc S s H1 := by
  obtain ⟨⟨a1, a2, a3, a4, a5, a6, a7, a8, a9⟩, ⟨b1, b2⟩, ⟨c1, c2⟩, d1, d2, d3⟩ := S
  refine ⟨va_P.kept h.1 (fun k q hk => e0 _ ((h.1 k q hk).lt) (h.2.2.2 k q hk)), h.2⟩
theorem wu_in (hw : WUw D cA h0 r0 o0 md fl rg f s H) {H1 : Heap} (hk : ∀ q : Nat, q < H.size → wA h0 r0 o0 q → H1[q]? = H[q]?) : WUw D cA h0 r0 o0 md fl rg f s H1 :=
  ⟨fu_kept hw.1 (hk _ (fu_lt hw.1).1 (Or.inl rfl)) (hk _ (fu_lt hw.1).2 (Or.inr (Or.inl rfl))), by rw [hk _ (Array.getElem?_eq_some_iff.mp hw.2.1).1 (Or.inr (Or.inr rfl))]; exact hw.2.1, hw.2.2⟩
/-- a call of the reference's method -/
theorem gm_V (F : CallFix p m c cc nL s args Ts own) (hM : MoM l D cI cL m0 ra rb rc y ws rm As S ov S1) (cw : CallW R s args own "FloatUnitModel" index y bytes maxL ret ws rm 0 0 n) (hw : LWw A D cA cI cL h0 r0 o0 m0 ra rb rc md fl rg f S s H) (hS : va_S A s.heap H locs)
    (hn : As.length = n) (hsize : ls.size = nL) (hstack : st = As.reverse ++ .ref m0 :: rest) (hW : (rest.map fun v => v.category).sum ≤ 8) (hdg : decode cc pc = .ok (.invokevirtual index, 3)) (hf : cells ≤ R.cells ∧ slots ≤ R.slots)
    (kk : ∀ (H1 : Heap) (locs1 : List Loc), LWw A D cA cI cL h0 r0 o0 m0 ra rb rc md fl rg f S1 s H1 → va_S A s.heap H1 locs1 → W p l e R s m args below meth c H1 locs1 cells slots Q (F0 m (pc + 3) ls (ov.toList ++ rest))) : W p l e R s m args below meth c H locs cells slots Q (F0 m pc ls st) := by
  have hr := va_runV (g := F0 m pc ls st) (cells := cells) (slots := slots) (locs := locs) (H := H) (rest := rest) (e := e) (below := below) (meth := meth) (mc := 0) (ms := 0) F hM cw
    ⟨fun a U g mk q => ⟨q.1, mow_moved (u := U) (U := U.calling g mk a) (Vm.Alike.refl U.vm) q.2⟩, mo_recv hw.2.1,
      fun U hU hWm => ⟨rfl, by show MOw D cI cL m0 ra rb rc S U U.heap; rw [hU]; exact mow_moved hWm.alike hw.2.1⟩⟩ rfl hn hsize hstack (lv_room hW) hdg hf
  intro T hT X
  obtain ⟨v, st₀, t, T', L, g0, X', hL, e1, e2, ⟨hv, hw1, hz, hk⟩, sg⟩ := hr T hT X
  cases hv
  rw [g0] at hz hk
  have ha : s.vm.Alike t.vm := by rw [← e2]; exact X'.warmed.alike
  obtain ⟨t2, a1, b1⟩ := kk T'.heap (locs ++ L) ⟨wu_in hw.1 (fun q h1 h2 => by rw [e1]; exact hk q h1 (hw.2.2.1 q h2)), by rw [e1]; exact mow_moved ha.symm hw1, hw.2.2⟩
    ⟨Nat.le_trans hS.1 (by rw [e1]; exact hz), fun q h1 h2 => by rw [e1, hk q (Nat.lt_of_lt_of_le h1 hS.1) (fun z => h2 (hw.2.2.2.2 q z))]; exact hS.2.1 q h1 h2, fun q hq => by
      rcases List.mem_append.mp hq with h | h
      · exact hS.2.2 q h
      · exact hw.2.2.2.2 _ (hL q h)⟩ T' rfl X'
  exact ⟨t2, sg t2 a1, b1⟩
/-- a call of one of the law's small methods -/
theorem gw_S (F : CallFix p m c cc nL s args Ts own) (hM : WrM l ad D cA h0 r0 o0 y ws rm As md fl rg f r md1 fl1 rg1 f1) (cw : vx_CSW R s args own index y bytes maxL ret hh ws rm 1 6 n) (hX : XM A s s.heap) (hF : FM ad A s s.heap) (hw : LWw A D cA cI cL h0 r0 o0 m0 ra rb rc md fl rg f S s H) (hS : va_S A s.heap H locs)
    (hn : As.length = n) (hsize : ls.size = nL) (hstack : st = As.reverse ++ rest) (hW : (rest.map fun v => v.category).sum ≤ 8) (hdg : decode cc pc = .ok (.invokestatic index, 3)) (hf : cells + 1 ≤ R.cells ∧ slots + 6 ≤ R.slots)
    (kk : ∀ (H1 : Heap) (locs1 : List Loc), LWw A D cA cI cL h0 r0 o0 m0 ra rb rc md1 fl1 rg1 f1 S s H1 → va_S A s.heap H1 locs1 → W p l e R s m args below meth c H1 locs1 (cells + 1) (slots + 6) Q (F0 m (pc + 3) ls (.int r :: rest))) : W p l e R s m args below meth c H locs cells slots Q (F0 m pc ls st) := by
  have hr := vx_runSW (g := F0 m pc ls st) (cells := cells) (slots := slots) (locs := locs) (H := H) (rest := rest) (e := e) (below := below) (meth := meth) (mc := 1) (ms := 6) F hM cw
    ⟨fun a U g mk q => ⟨q.1, wu_moved (u := U) (U := U.calling g mk a) (Vm.Alike.refl U.vm) q.2.1, xm_same (u := U) (U := U.calling g mk a) rfl q.2.2.1, fm_same (u := U) (U := U.calling g mk a) rfl q.2.2.2⟩,
      fun U hU hWm => ⟨rfl, by rw [hU]; exact wu_moved hWm.alike hw.1, by rw [hU]; exact xm_warm hWm (xm_narrow (xm_kept hX hS.2.1) hw.2.2.2.1), by rw [hU]; exact fm_warm hWm (fm_narrow (fm_kept hF hS.2.1) hw.2.2.2.1)⟩⟩ rfl hn hsize hstack (lv_room hW) hdg hf
  intro T hT X
  obtain ⟨v, st₀, t, T', L, g0, X', hL, e1, e2, ⟨hv, hw1, hz, hk⟩, sg⟩ := hr T hT X
  cases hv
  rw [g0] at hz hk
  have ha : s.vm.Alike t.vm := by rw [← e2]; exact X'.warmed.alike
  obtain ⟨t2, a1, b1⟩ := kk T'.heap (locs ++ L) ⟨by rw [e1]; exact wu_moved ha.symm hw1, mo_kept hw.2.1 (fun q h1 h2 => by rw [e1]; exact hk q h1 (fun z => hw.2.2.1 q z h2)), hw.2.2⟩
    ⟨Nat.le_trans hS.1 (by rw [e1]; exact hz), fun q h1 h2 => by rw [e1, hk q (Nat.lt_of_lt_of_le h1 hS.1) (fun z => h2 (hw.2.2.2.1 q z))]; exact hS.2.1 q h1 h2, fun q hq => by
      rcases List.mem_append.mp hq with h | h
      · exact hS.2.2 q h
      · exact hw.2.2.2.1 _ (hL q h)⟩ T' rfl X'
  exact ⟨t2, sg t2 a1, b1⟩
/-- the unit's own call, the rest as it was -/
theorem lw_unit {H1 : Heap} (hw : LWw A D cA cI cL h0 r0 o0 m0 ra rb rc md fl rg f S s H) (h1 : FUw D cA h0 r0 md1 fl1 rg1 s H1) (hk : ∀ q : Nat, q < H.size → ¬ fA h0 r0 q → H1[q]? = H[q]?) : LWw A D cA cI cL h0 r0 o0 m0 ra rb rc md1 fl1 rg1 f S s H1 :=
  ⟨wu_join hw.1 h1 hk, mo_kept hw.2.1 (fun q g1 g2 => hk q g1 (fun z => hw.2.2.1 q (z.elim Or.inl (fun z => Or.inr (Or.inl z))) g2)), hw.2.2⟩
theorem lw_out (hx : p.tables.exec = Jvm.exec) (hb : c.code = cc) (hw : LWw A D cA cI cL h0 r0 o0 m0 ra rb rc md fl rg f S s H) (hdg : decode cc pc = .ok (.laload, 1))
    (kk : W p l e R s m args below meth c H locs cells slots Q (F0 m (pc + 1) ls (.long (f 0) :: rest))) : W p l e R s m args below meth c H locs cells slots Q (F0 m pc ls (.int 0 :: .ref o0 :: rest)) := by
  have hP : va_P D clW [(o0, .inl (cA, 1, .inr (.inl f)))] H := fun k q hk => by
    rcases k with _ | k
    · cases hk
      exact hw.1.2.1
    · cases hk
  exact va_lald (D := D) (cl := clW) hx hb hw.1.1.2.1 hP 0 0 rfl rfl (i := 0) (vp_in_iff.2 (by decide)) hdg kk
end LW
