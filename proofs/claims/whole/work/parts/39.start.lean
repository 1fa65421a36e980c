/-! The law's entry: what holds at the start, the two makings, 'out'; then the loop. -/
section GI
variable {p : Program} {l : Launch} {e : Env} {R : Room} {s : State} {m : MethodId} {args : Array Value} {below : List Frame} {meth : Method} {c : Code} {H : Heap} {locs : List Loc} {cells slots : Nat} {Q : State → Prop}
variable {Ts : List Cond} {cc : ByteArray} {nL index : Nat} {own : String} {rest : List Value} {pc : Nat} {ls : Array Slot} {D : va_G} {h0 m0 : Nat}
theorem gi_U (F : CallFix p m c cc nL s args Ts own) (cw : CallB R s args own index yU_init cU_init 1 none (wsM yU_init cU_init 1 none) rmU_init 1 16 0 ∧ yU_init.name = "<init>" ∧ (Cond.instanceMethod yU_init).before args s = true) (hP : va_P D clW [(h0, .inr (0, [.null, .int 0, .int 0]))] H) (hK : va_K D clW [] s) (hS : s.heap.size ≤ H.size ∧ ∀ q : Nat, q < s.heap.size → H[q]? = s.heap[q]?) (hh : s.heap.size ≤ h0) (hlt : h0 < H.size)
    (hsize : ls.size = nL) (hW : (rest.map fun v => v.category).sum ≤ 8) (hdg : decode cc pc = .ok (.invokespecial index, 3)) (hf : cells + 1 ≤ R.cells ∧ slots + 16 ≤ R.slots)
    (kk : ∀ (r0 : Nat) (cA : ClassId) (H1 : Heap), H.size ≤ r0 → FUw D cA h0 r0 0 0 (fun _ => 0) s H1 → H.size ≤ H1.size → (∀ q : Nat, q < H.size → ¬ q = h0 → H1[q]? = H[q]?) → W p l e R s m args below meth c H1 [] (cells + 1) (slots + 16) Q (F0 m (pc + 3) ls rest)) : W p l e R s m args below meth c H [] cells slots Q (F0 m pc ls (.ref h0 :: rest)) := by
  have hr := va_runI (g := F0 m pc ls (.ref h0 :: rest)) (b := h0) (As := []) (cells := cells) (slots := slots) (locs := []) (H := H) (rest := rest) (e := e) (below := below) (meth := meth) (mc := 1) (ms := 16) F (c_U_init l D h0 H.size hlt) cw
    ⟨fun a U g mk q => ⟨q.1, q.2.1, q.2.2.1, va_K.moved (u := U) (U := U.calling g mk a) (Vm.Alike.refl U.vm) q.2.2.2⟩,
      fun U hU hWm => ⟨rfl, by rw [hU], by rw [hU]; exact hP, va_K.moved hWm.alike hK⟩⟩ rfl rfl hsize rfl (lv_room hW) hdg hf
  intro T hT X
  obtain ⟨v, st₀, t, T', L, g0, X', hL, e1, e2, ⟨hv, ⟨r0, cA, hr0, hw1⟩, hz, hk⟩, sg⟩ := hr T hT X
  cases hv
  rw [g0] at hz hk
  have ha : s.vm.Alike t.vm := by rw [← e2]; exact X'.warmed.alike
  obtain ⟨t2, a1, b1⟩ := va_forget (locs := [] ++ L) (fun q hq => by
      rcases hL q (by simpa using hq) with h | h
      · rw [h]; exact hh
      · exact Nat.le_trans hS.1 h) (kk r0 cA T'.heap hr0 (by rw [e1]; exact fuw_moved ha.symm hw1) (by rw [e1]; exact hz) (fun q h1 h2 => by rw [e1]; exact hk q h1 (fun z => z.elim h2 (fun z => absurd h1 (Nat.not_lt.2 z))))) T' rfl X'
  exact ⟨t2, sg t2 a1, b1⟩
theorem gi_M (F : CallFix p m c cc nL s args Ts own) (cw : CallB R s args own index yM_init cM_init 1 none (wsM yM_init cM_init 1 none) rmM_init 3 4416 0 ∧ yM_init.name = "<init>" ∧ (Cond.instanceMethod yM_init).before args s = true) (hP : va_P D clW [(m0, .inr (1, [.null, .null, .null, .int 0, .int 0, .int 0, .int 0, .int 0, .int 0, .int 0, .int 0, .int 0, .long 0, .long 0, .int 0, .int 0]))] H) (hK : va_K D clW [] s) (hS : s.heap.size ≤ H.size ∧ ∀ q : Nat, q < s.heap.size → H[q]? = s.heap[q]?) (hh : s.heap.size ≤ m0) (hlt : m0 < H.size)
    (hsize : ls.size = nL) (hW : (rest.map fun v => v.category).sum ≤ 8) (hdg : decode cc pc = .ok (.invokespecial index, 3)) (hf : cells + 3 ≤ R.cells ∧ slots + 4416 ≤ R.slots)
    (kk : ∀ (ra rb rc : Nat) (cI cL : ClassId) (H1 : Heap), H.size ≤ ra → H.size ≤ rb → H.size ≤ rc → MOw D cI cL m0 ra rb rc ((0, 0, 0, 0, 0, 0, 0, 0, 0), (0, 0), (0, 0), (fun _ => 0), (fun _ => 0), (fun _ => 0)) s H1 → H.size ≤ H1.size → (∀ q : Nat, q < H.size → ¬ q = m0 → H1[q]? = H[q]?) → W p l e R s m args below meth c H1 [] (cells + 3) (slots + 4416) Q (F0 m (pc + 3) ls rest)) : W p l e R s m args below meth c H [] cells slots Q (F0 m pc ls (.ref m0 :: rest)) := by
  have hr := va_runI (g := F0 m pc ls (.ref m0 :: rest)) (b := m0) (As := []) (cells := cells) (slots := slots) (locs := []) (H := H) (rest := rest) (e := e) (below := below) (meth := meth) (mc := 3) (ms := 4416) F (c_M_init l D m0 H.size hlt) cw
    ⟨fun a U g mk q => ⟨q.1, q.2.1, q.2.2.1, va_K.moved (u := U) (U := U.calling g mk a) (Vm.Alike.refl U.vm) q.2.2.2⟩,
      fun U hU hWm => ⟨rfl, by rw [hU], by rw [hU]; exact hP, va_K.moved hWm.alike hK⟩⟩ rfl rfl hsize rfl (lv_room hW) hdg hf
  intro T hT X
  obtain ⟨v, st₀, t, T', L, g0, X', hL, e1, e2, ⟨hv, ⟨ra, rb, rc, cI, cL, g1, g2, g3, hw1⟩, hz, hk⟩, sg⟩ := hr T hT X
  cases hv
  rw [g0] at hz hk
  have ha : s.vm.Alike t.vm := by rw [← e2]; exact X'.warmed.alike
  obtain ⟨t2, a1, b1⟩ := va_forget (locs := [] ++ L) (fun q hq => by
      rcases hL q (by simpa using hq) with h | h
      · rw [h]; exact hh
      · exact Nat.le_trans hS.1 h) (kk ra rb rc cI cL T'.heap g1 g2 g3 (by rw [e1]; exact mow_moved ha.symm hw1) (by rw [e1]; exact hz) (fun q h1 h2 => by rw [e1]; exact hk q h1 (fun z => z.elim h2 (fun z => absurd h1 (Nat.not_lt.2 z))))) T' rfl X'
  exact ⟨t2, sg t2 a1, b1⟩
end GI
/-- what the start says of exceptions -/
theorem st_X {s : State} {b : Nat} (htb : ∀ w ∈ lw_tbl, w.before #[Value.ref b] s = true) (hfl : ∀ w ∈ flatC (Jvm.Cond.and given_1 narrow_1), w.before #[Value.ref b] s = true) : XM (fun q => s.heap.size ≤ q) s s.heap := by
  have hA : ∀ a : Nat, a < s.heap.size → ¬ (s.heap.size ≤ a) := fun a h g => by omega
  have t1 : ∃ a, vk_R "FloatUnit" 95 "no such register" a s := by
    obtain ⟨a, c, cell, k, q1, -⟩ := Cond.exactly_spec (hfl (Cond.exactly (.string "FloatUnit" 95) "java/lang/String") (by decide +kernel))
    exact ⟨a, vk_R.of (htb _ (by decide +kernel)) q1⟩
  have t2 : ∃ a, vk_R "FloatUnit" 26 "no such mode" a s := by
    obtain ⟨a, c, cell, k, q1, -⟩ := Cond.exactly_spec (hfl (Cond.exactly (.string "FloatUnit" 26) "java/lang/String") (by decide +kernel))
    exact ⟨a, vk_R.of (htb _ (by decide +kernel)) q1⟩
  have t3 : ∃ a, vk_R "FloatUnit" 31 "no such operation" a s := by
    obtain ⟨a, c, cell, k, q1, -⟩ := Cond.exactly_spec (hfl (Cond.exactly (.string "FloatUnit" 31) "java/lang/String") (by decide +kernel))
    exact ⟨a, vk_R.of (htb _ (by decide +kernel)) q1⟩
  exact ⟨vx_Zqof (htb _ (by decide +kernel)) (htb _ (by decide +kernel)) (hfl _ (by decide +kernel)) hA, vx_Zqof (htb _ (by decide +kernel)) (htb _ (by decide +kernel)) (hfl _ (by decide +kernel)) hA, va_Nw.of rfl (htb _ (by decide +kernel)), va_Nw.of rfl (htb _ (by decide +kernel)), va_Nw.of rfl (htb _ (by decide +kernel)), va_Nw.of rfl (htb _ (by decide +kernel)), t1, t2, t3⟩
theorem st_F {s : State} {b : Nat} (htb : ∀ w ∈ lw_tbl, w.before #[Value.ref b] s = true) (hfl : ∀ w ∈ flatC (Jvm.Cond.and given_1 narrow_1), w.before #[Value.ref b] s = true) : ∃ ad : Nat → Nat, FM ad (fun q => s.heap.size ≤ q) s s.heap := by
  have hA : ∀ a : Nat, a < s.heap.size → ¬ (s.heap.size ≤ a) := fun a h g => by omega
  obtain ⟨ad, hEn, hev⟩ := va_Enof2 (args := #[Value.ref b]) (s := s) (E := fE) (d := "LFloatUnit$Format;") (nm := ["WIDE", "NARROW"]) (F := []) (A := fun q => s.heap.size ≤ q)
    (fun i hi => match i, hi with
      | 0, _ => htb _ (by decide +kernel)
      | 1, _ => htb _ (by decide +kernel)
      | n + 2, h => absurd h (by simp))
    (htb _ (by decide +kernel))
    (fun i hi => match i, hi with
      | 0, _ => hfl _ (by decide +kernel)
      | 1, _ => hfl _ (by decide +kernel)
      | n + 2, h => absurd h (by simp))
    (fun q hq => nomatch hq)
    (fun i j hi hj hn => match i, j, hi, hj, hn with
      | 0, 0, _, _, h => absurd rfl h
      | 0, 1, _, _, _ => Or.inr (hfl _ (by decide +kernel))
      | 1, 0, _, _, _ => Or.inl (hfl _ (by decide +kernel))
      | 1, 1, _, _, h => absurd rfl h
      | n + 2, _, h, _, _ => absurd h (by simp)
      | 0, n + 2, _, h, _ => absurd h (by simp)
      | 1, n + 2, _, h, _ => absurd h (by simp)) hA
  have ef : ∀ (n d : String) (v : Nat → Value) (tm : Nat → Term), Cond.eq (.field (.static fE "WIDE" "LFloatUnit$Format;") fE n d) (tm 0) ∈ flatC (Jvm.Cond.and given_1 narrow_1) → Cond.eq (.field (.static fE "NARROW" "LFloatUnit$Format;") fE n d) (tm 1) ∈ flatC (Jvm.Cond.and given_1 narrow_1) → (∀ i, i < 2 → (tm i).eval #[Value.ref b] s none [] s = some (v i)) → va_Ef 2 fE n d v ad (fun q => s.heap.size ≤ q) s s.heap := fun n d v tm h0 h1 hv =>
    va_Efof (E := fE) (d0 := "LFloatUnit$Format;") (nm := ["WIDE", "NARROW"]) (tm := tm) (fun i hi => hev i hi) (fun i hi => match i, hi with
      | 0, _ => hfl _ h0
      | 1, _ => hfl _ h1
      | n + 2, h => absurd h (by simp)) hv hA
  exact ⟨ad, hEn, ef "precision" "I" _ (fun i => .int (fPr i)) (by decide +kernel) (by decide +kernel) (fun i _ => rfl), ef "bias" "I" _ (fun i => .int (fBi i)) (by decide +kernel) (by decide +kernel) (fun i _ => rfl),
    ef "sign" "J" _ (fun i => .long (fSg i)) (by decide +kernel) (by decide +kernel) (fun i _ => rfl), ef "leading" "J" _ (fun i => .long (fLe i)) (by decide +kernel) (by decide +kernel) (fun i _ => rfl), ef "endless" "J" _ (fun i => .long (fEn i)) (by decide +kernel) (by decide +kernel) (fun i _ => rfl), va_Nw.of rfl (htb _ (by decide +kernel))⟩
set_option maxRecDepth 100000 in
set_option maxHeartbeats 4000000 in
theorem start_of {p : Program} {e : Env} {s : State} {m : MethodId} {below : List Frame} {meth : Method} {c : Code} (l : Launch) (hpr : PRall l) {b L : Nat} {xs : Nat → Int32} (hL : L ≤ 3072) (C0 : lw_At p s m meth c b L xs) : W p l e room_1 s m #[Value.ref b] below meth c s.heap [] 0 0 (lw_Z below #[Value.ref b] s) (entryFrame m ([Value.ref b] : List Value).toArray 8) := by
  obtain ⟨hx, hb, hr, hml, hown, htb, hZ, hbl, hlocks, hgv⟩ := C0
  have hfl := flat_of_before _ hgv
  have hts : ∀ w ∈ (Cond.initialized "FloatUnitLaw" :: bigW), w.before #[Value.ref b] s = true := fun w hw => by
    rcases List.mem_cons.1 hw with rfl | h
    · exact htb _ (List.mem_filter.1 w_0).1
    · exact htb _ (List.mem_filter.1 h).1
  have hX := st_X htb hfl
  obtain ⟨ad, hF⟩ := st_F htb hfl
  obtain ⟨D, hK⟩ : ∃ D : va_G, va_K D clW [] s := by
    obtain ⟨c1, i1, k1⟩ := u_known hts uwU (hts _ (List.mem_cons_of_mem _ w_11))
    obtain ⟨c2, i2, k2⟩ := u_known hts uwM (hts _ (List.mem_cons_of_mem _ w_351))
    refine ⟨(fun c => if c = 0 then c1 else c2, fun c => if c = 0 then i1 else i2), fun c q hq => ?_, fun k q hk => by cases hk⟩
    rcases c with _ | _ | c
    · cases hq
      exact k1
    · cases hq
      exact k2
    · cases hq
  have hP0 : ∀ H : Heap, va_P D clW [] H := fun H k q hk => by cases hk
  have hD0 : ∀ A : Nat → Prop, va_D A [] := fun A => ⟨fun i j a b h => (by cases h), fun k q h => (by cases h)⟩
  have hl := lv_entry ([.ref b]) (n := 8) (Nat.le_of_ble_eq_true rfl)
  rw [lg_entry_eq]
  generalize (lg_sl ([.ref b]) ++ List.replicate (8 - (lg_sl ([.ref b])).length) Slot.unset).toArray = ls at hl ⊢
  have hl : lv_has ls 8 [(0, .ref b)] := hl
  refine va_new (pc := 0) (A := fun q => s.heap.size ≤ q) (H0 := s.heap) (ws := []) (D := D) (cl := clW) (ci := 0) (C := "FloatUnit") (T := TU) (N := 3) (fs := [.null, .int 0, .int 0]) hx hb hts uwU tyU tyU_ok hown (hts _ (List.mem_cons_of_mem _ w_10)) (hts _ (List.mem_cons_of_mem _ w_11)) (hts _ (List.mem_cons_of_mem _ w_1)) hK (hP0 _) (hD0 _) va_S.rf (fun _ h => h) rfl (fun j hj => by
    rcases j with _ | _ | _ | j <;> first | rfl | omega) (by decide) (by decide) dL_law_0 (fun h0 H hP hD hS => ?_)
  have hh0 : s.heap.size ≤ h0 := hD.2 0 _ rfl
  have hS1 : s.heap.size ≤ H.size ∧ ∀ q : Nat, q < s.heap.size → H[q]? = s.heap[q]? := ⟨hS.1, fun q h => hS.2.1 q h (by omega)⟩
  refine lv_dup (pc := 3) hx hb dL_law_3 rfl ?_
  refine gi_U (pc := 4) ⟨hx, hb, hml, hown, hts⟩ (cwU_init hts w_12 ⟨by decide, by decide⟩) hP hK hS1 hh0 (hP 0 _ rfl).lt hl.1 (Nat.le_of_ble_eq_true rfl) dL_law_4 ⟨by decide, by decide⟩ (fun r0 cA H2 hr0 hu hz hk => ?_)
  have hS2 : s.heap.size ≤ H2.size ∧ ∀ q : Nat, q < s.heap.size → H2[q]? = s.heap[q]? := ⟨Nat.le_trans hS1.1 hz, fun q h => by rw [hk q (Nat.lt_of_lt_of_le h hS1.1) (by omega)]; exact hS1.2 q h⟩
  refine lv_astore_n (lv' := [(1, .ref h0), (0, .ref b)]) (pc := 7) hx hb dL_law_7 rfl hl (by decide) rfl (fun ls hl => ?_)
  refine va_new (pc := 8) (A := fun q => H2.size ≤ q) (H0 := H2) (ws := []) (D := D) (cl := clW) (ci := 1) (C := "FloatUnitModel") (T := TM) (N := 16) (fs := [.null, .null, .null, .int 0, .int 0, .int 0, .int 0, .int 0, .int 0, .int 0, .int 0, .int 0, .long 0, .long 0, .int 0, .int 0]) hx hb hts uwM tyM tyM_ok hown (hts _ (List.mem_cons_of_mem _ w_350)) (hts _ (List.mem_cons_of_mem _ w_351)) (hts _ (List.mem_cons_of_mem _ w_2)) hK (hP0 _) (hD0 _) va_S.rf (fun _ h => h) rfl (fun j hj => by
    rcases j with _ | _ | _ | _ | _ | _ | _ | _ | _ | _ | _ | _ | _ | _ | _ | _ | j <;> first | rfl | omega) (by decide) (by decide) dL_law_8 (fun m0 H3 hP hD hS => ?_)
  have hm0 : H2.size ≤ m0 := hD.2 0 _ rfl
  have hu3 := fu_kept hu (hS.2.1 _ (fu_lt hu).1 (Nat.not_le.2 (fu_lt hu).1)) (hS.2.1 _ (fu_lt hu).2 (Nat.not_le.2 (fu_lt hu).2))
  have hb2 := fu_lt hu
  have hS3 : s.heap.size ≤ H3.size ∧ ∀ q : Nat, q < s.heap.size → H3[q]? = s.heap[q]? := ⟨Nat.le_trans hS2.1 hS.1, fun q h => by rw [hS.2.1 q (Nat.lt_of_lt_of_le h hS2.1) (by omega)]; exact hS2.2 q h⟩
  have h23 : H2.size ≤ H3.size := hS.1
  refine lv_dup (pc := 11) hx hb dL_law_11 rfl ?_
  refine gi_M (pc := 12) ⟨hx, hb, hml, hown, hts⟩ (cwM_init hts w_352 ⟨by decide, by decide⟩) hP hK hS3 (by omega) (hP 0 _ rfl).lt hl.1 (Nat.le_of_ble_eq_true rfl) dL_law_12 ⟨by decide, by decide⟩ (fun ra rb rc cI cL H4 g1 g2 g3 hm hz4 hk4 => ?_)
  have hu4 := fu_kept hu3 (hk4 _ (by omega) (by omega)) (hk4 _ (by omega) (by omega))
  have hS4 : s.heap.size ≤ H4.size ∧ ∀ q : Nat, q < s.heap.size → H4[q]? = s.heap[q]? := ⟨Nat.le_trans hS3.1 hz4, fun q h => by rw [hk4 q (Nat.lt_of_lt_of_le h hS3.1) (by omega)]; exact hS3.2 q h⟩
  refine lv_astore_n (lv' := [(2, .ref m0), (1, .ref h0), (0, .ref b)]) (pc := 15) hx hb dL_law_15 rfl hl (by decide) rfl (fun ls hl => ?_)
  refine lv_iconst (v := 1) (pc := 16) hx hb dL_law_16 (by decide) ?_
  refine va_newa (pc := 17) (A := fun q => H4.size ≤ q) (H0 := H4) (ws := []) (atype := .long) (D := D) (cl := clW) (a0 := (1, .inr (.inl (fun _ => 0)))) (ty := .long) (N' := 1) hx hb (hts _ (List.mem_cons_of_mem _ w_28)) rfl hu4.2.1 (hP0 _) (hD0 _) va_S.rf (fun _ h => h) (fun _ => rfl) (by decide) (by decide) (by decide) (by decide) (by decide) dL_law_17 (fun o0 cO H5 hK5 hP5 hD5 hS5 => ?_)
  have ho0 : H4.size ≤ o0 := hD5.2 0 _ rfl
  have hcO : cO = cA := by
    have h1 := (hK5.2 0 _ rfl).2
    have h2 := (hK5.2 1 _ rfl).2
    exact Option.some.inj (h2.symm.trans h1)
  subst hcO
  have hlt4 := fu_lt hu4
  have hu5 := fu_kept hu4 (hS5.2.1 _ hlt4.1 (Nat.not_le.2 hlt4.1)) (hS5.2.1 _ hlt4.2 (Nat.not_le.2 hlt4.2))
  have hm5 := mo_kept hm (fun q h1 _ => hS5.2.1 q h1 (Nat.not_le.2 h1))
  have k0 := (hm.1 0 _ rfl).lt
  have k1 := (hm.1 1 _ rfl).lt
  have k2 := (hm.1 2 _ rfl).lt
  have k3 := (hm.1 3 _ rfl).lt
  refine lv_astore_n (lv' := [(3, .ref o0), (2, .ref m0), (1, .ref h0), (0, .ref b)]) (pc := 19) hx hb dL_law_19 rfl hl (by decide) rfl (fun ls hl => ?_)
  refine lv_iconst (v := 0) (pc := 20) hx hb dL_law_20 (by decide) ?_
  refine lv_istore (lv' := [(4, .int 0), (3, .ref o0), (2, .ref m0), (1, .ref h0), (0, .ref b)]) (pc := 21) hx hb dL_law_21 hl (by decide) rfl (fun ls hl => ?_)
  refine law_loop (ad := ad) (D := D) (cA := cO) (cI := cI) (cL := cL) (h0 := h0) (r0 := r0) (o0 := o0) (m0 := m0) (ra := ra) (rb := rb) (rc := rc) hpr hx hb hr hlocks hml hown hts hZ hbl hX hF hL 512 0 (by decide) (by decide) _ _ 0 0 (fun _ => 0) (fun _ => 0) ((0, 0, 0, 0, 0, 0, 0, 0, 0), (0, 0), (0, 0), (fun _ => 0), (fun _ => 0), (fun _ => 0)) H5 [] ls (by decide) (by decide) ⟨by decide, by decide⟩ ⟨rfl, rfl, rfl⟩ ⟨⟨hu5, hP5 0 _ rfl, by omega, by omega⟩, hm5, ?_, ?_, ?_⟩ ⟨Nat.le_trans hS4.1 hS5.1, fun q h _ => by rw [hS5.2.1 q (Nat.lt_of_lt_of_le h hS4.1) (by have := hS4.1; omega)]; exact hS4.2 q h, fun q hq => by cases hq⟩ (lv_sub hl [0, 4, 3, 2, 1] rfl)
  · intro q hq hm'
    rcases hq with rfl | rfl | rfl <;> rcases hm' with h | h | h | h <;> omega
  · intro q hq
    rcases hq with rfl | rfl | rfl
    · exact hh0
    · have := hS1.1; omega
    · have := hS4.1; omega
  · intro q hq
    have := hS2.1
    have := hS3.1
    rcases hq with rfl | rfl | rfl | rfl <;> omega
