/-! The law's loop. -/
def R_law : String := "FloatUnitLaw"
def lw_P (b : Addr) (xs : List Int32) (args : Array Value) (s : State) : Prop := args = #[.ref b] ∧ s.IntsAt b xs ∧ xs.length ≤ 3072 ∧ (Jvm.Cond.and given_1 narrow_1).before args s = true
def lw_Q (_ : Array Value) (s : State) (o : Outcome) (t : State) : Prop := o = .returned (some (.int 1)) ∧ Framed s o t [] 1034 12662
def lw_Z (below : List Frame) (a : Array Value) (s : State) : State → Prop := fun t => ∃ o, t.status = .running ∧ Ended t below o ∧ lw_Q a s o t
/-- the law's own end, with 1 on the stack, nothing written that was there before, its room as the claim has it -/
theorem lw_ret {p : Program} {l : Launch} {e : Env} {s : State} {m : MethodId} {below : List Frame} {meth : Method} {c : Code} {b : Nat} (hx : p.tables.exec = Jvm.exec) (hb : c.code = code) (hr : meth.sig.returnType = ret) (hlocks : meth.locks = false) {pc : Nat} {H : Heap} {ls : Array Slot} (hdg : decode code pc = .ok (.ireturn, 1)) : W p l e room_1 s m #[Value.ref b] below meth c H [] 1034 12662 (lw_Z below #[Value.ref b] s) (F0 m pc ls [.int 1]) := by
  intro T hT X
  obtain ⟨fs, hret, hrun, hended, hW, hframe⟩ := X.leave (v := some (.int 1)) (hlocks := hlocks) (fun h => by rw [hr] at h; cases h)
  have hmeth' : T.vm.method? m = some meth := X.method'
  refine ⟨T.setFrames fs, ?_, .returned (some (.int 1)), hrun, hended, rfl, ⟨_, rfl⟩, hW, hframe⟩
  jvm_step X.here [X.here.top, hx, hb, hdg, hmeth', hr, ret, narrow_b1]
  (try refine ⟨rfl, ?_⟩); (try refine ⟨rfl, ?_⟩)
  first | (intro acts; rw [hret _ acts rfl rfl rfl]) | rw [hret _ _ rfl rfl rfl]
  exact Steps.refl _
/-- what holds at the law's entry: the machine, the code, the tables' words (any of lw_tbl by 'hts w (by decide +kernel)'), the script of L ints xs at the cell b, what the Statement gives of the start (any of its parts by flat_of_before) -/
def lw_At (p : Program) (s : State) (m : MethodId) (meth : Method) (c : Code) (b L : Nat) (xs : Nat → Int32) : Prop :=
  p.tables.exec = Jvm.exec ∧ c.code = code ∧ meth.sig.returnType = ret ∧ c.maxLocals = 8 ∧ s.vm.findClass R_law = some m.cls ∧ (∀ w ∈ lw_tbl, w.before #[Value.ref b] s = true) ∧ va_X b L xs s s.heap ∧ b < s.heap.size ∧ meth.locks = false ∧ (Jvm.Cond.and given_1 narrow_1).before #[Value.ref b] s = true
def PRall (l : Launch) : Prop := PR_put l ∧ PR_bits l ∧ PR_mode l ∧ PR_flags l ∧ PR_work l ∧ PR_compare l ∧ PR_of l ∧ PR_whole l ∧ PR_turn l ∧ PR_kind l ∧ PR_negate l
theorem ix_in {k L : Nat} (j : Nat) (hj : j < 6) (h : 6 * k + 6 ≤ L) (hL : L ≤ 3072) : vp_in (nI (6 * k) + nI j) L := by
  rw [vp_in_iff, iI_nI, iI_nI, iI_add, iI_toInt ⟨by omega, by omega⟩]
  omega
theorem ix_go {k L : Nat} (hk : k ≤ 512) (hL : L ≤ 3072) (h : ¬ (Int32.ofNat L - 6 < nI (6 * k))) : 6 * k + 6 ≤ L := by
  have e1 : Int32.ofNat L - 6 = iI ((L : Int) - 6) := by
    rw [← iI_sub, ← iI_nI]; rfl
  rw [e1, iI_nI, iI_lt ⟨by omega, by omega⟩ ⟨by omega, by omega⟩] at h
  omega
theorem ix_st (k : Nat) : nI (6 * k) + Int32.ofInt 6 = nI (6 * (k + 1)) := by
  rw [iI_nI, iI_nI]
  show iI _ + iI 6 = _
  rw [iI_add]; congr 1
set_option maxRecDepth 100000 in
set_option maxHeartbeats 4000000 in
theorem law_loop {p : Program} {l : Launch} {e : Env} {s : State} {m : MethodId} {below : List Frame} {meth : Method} {c : Code} {w0 : Cond} {ad : Nat → Nat} {D : va_G} {cA cI cL : ClassId} {h0 r0 o0 m0 ra rb rc b L : Nat} {xs : Nat → Int32}
    (hp : PRall l) (hx : p.tables.exec = Jvm.exec) (hb : c.code = code) (hr : meth.sig.returnType = ret) (hlocks : meth.locks = false) (hml : c.maxLocals = 8) (hown : s.vm.findClass "FloatUnitLaw" = some m.cls) (hts : ∀ w ∈ (w0 :: bigW), w.before #[Value.ref b] s = true) (hZ : va_X b L xs s s.heap) (hbl : b < s.heap.size) (hX : XM (fun q => s.heap.size ≤ q) s s.heap) (hF : FM ad (fun q => s.heap.size ≤ q) s s.heap) (hL : L ≤ 3072) :
    ∀ (n k : Nat), 512 ≤ k + n → k ≤ 512 → ∀ (cells slots : Nat) (md fl : Int32) (rg f : Nat → Int64) (S : MS) (H : Heap) (locs : List Loc) (ls : Array Slot), cells ≤ 7 + k → slots ≤ 4452 + 6 * k → MK md → CPL md fl rg S → LWw (fun q => s.heap.size ≤ q) D cA cI cL h0 r0 o0 m0 ra rb rc md fl rg f S s H → va_S (fun q => s.heap.size ≤ q) s.heap H locs → lv_has ls 8 [(4, .int (nI (6 * k))), (0, .ref b), (1, .ref h0), (2, .ref m0), (3, .ref o0)] →
      W p l e room_1 s m #[Value.ref b] below meth c H locs cells slots (lw_Z below #[Value.ref b] s) (F0 m 23 ls []) := by
  have hbA : ¬ s.heap.size ≤ b := by omega
  intro n
  induction n with
  | zero =>
    intro k hn hk5 cells slots md fl rg f S H locs ls hce hsl hk hc hw hS hl
    refine lv_iload (pc := 23) hx hb dL_law_23 (lv_at hl 0 rfl) ?_
    refine lv_aload_n (pc := 25) hx hb dL_law_25 rfl (lv_at hl 1 rfl) ?_
    refine va_slen (pc := 26) hx hb hZ hbl hbA hS dL_law_26 ?_
    refine lv_bipush (v := 6) (pc := 27) hx hb dL_law_27 (by decide) ?_
    refine lv_isub (pc := 29) hx hb dL_law_29 ?_
    refine lv_icmp_gt (tgt := 1080) (pc := 30) hx hb dL_law_30 (by decide) (fun _ => ?_) (fun g => ?_)
    · refine lv_iconst (v := 1) (pc := 1080) hx hb dL_law_1080 (by decide) ?_
      refine va_forget hS.2.2 ?_
      refine W.widen (k := 1034) (n := 12662) (by omega) (by omega) ?_
      exact lw_ret hx hb hr hlocks dL_law_1081
    have hgo := ix_go hk5 hL g
    exact absurd hgo (by omega)
  | succ n ih =>
    intro k hn hk5 cells slots md fl rg f S H locs ls hce hsl hk hc hw hS hl
    refine lv_iload (pc := 23) hx hb dL_law_23 (lv_at hl 0 rfl) ?_
    refine lv_aload_n (pc := 25) hx hb dL_law_25 rfl (lv_at hl 1 rfl) ?_
    refine va_slen (pc := 26) hx hb hZ hbl hbA hS dL_law_26 ?_
    refine lv_bipush (v := 6) (pc := 27) hx hb dL_law_27 (by decide) ?_
    refine lv_isub (pc := 29) hx hb dL_law_29 ?_
    refine lv_icmp_gt (tgt := 1080) (pc := 30) hx hb dL_law_30 (by decide) (fun _ => ?_) (fun g => ?_)
    · refine lv_iconst (v := 1) (pc := 1080) hx hb dL_law_1080 (by decide) ?_
      refine va_forget hS.2.2 ?_
      refine W.widen (k := 1034) (n := 12662) (by omega) (by omega) ?_
      exact lw_ret hx hb hr hlocks dL_law_1081
    have hgo := ix_go hk5 hL g
    have K : ∀ (md1 fl1 : Int32) (rg1 f1 : Nat → Int64) (S1 : MS) (H1 : Heap) (locs1 : List Loc) (ls1 : Array Slot), MK md1 → CPL md1 fl1 rg1 S1 → LWw (fun q => s.heap.size ≤ q) D cA cI cL h0 r0 o0 m0 ra rb rc md1 fl1 rg1 f1 S1 s H1 → va_S (fun q => s.heap.size ≤ q) s.heap H1 locs1 → lv_has ls1 8 [(4, .int (nI (6 * k))), (0, .ref b), (1, .ref h0), (2, .ref m0), (3, .ref o0)] → W p l e room_1 s m #[Value.ref b] below meth c H1 locs1 (cells + 1) (slots + 6) (lw_Z below #[Value.ref b] s) (F0 m 1074 ls1 []) := by
      intro md1 fl1 rg1 f1 S1 H1 locs1 ls1 hk hc hw hS hl
      refine lv_iinc (k := 0) (v := nI (6 * (k + 1))) (lv' := [(4, .int (nI (6 * (k + 1)))), (0, .ref b), (1, .ref h0), (2, .ref m0), (3, .ref o0)]) (pc := 1074) hx hb dL_law_1074 hl rfl (ix_st k) (by decide) rfl (fun ls hl => ?_)
      refine lv_goto (tgt := 23) (pc := 1077) hx hb dL_law_1077 (by decide) ?_
      exact ih (k + 1) (by omega) (by omega) (cells + 1) (slots + 6) md1 fl1 rg1 f1 S1 H1 locs1 ls (by omega) (by omega) hk hc hw hS hl
    refine lv_aload_n (pc := 33) hx hb dL_law_33 rfl (lv_at hl 1 rfl) ?_
    refine lv_iload (pc := 34) hx hb dL_law_34 (lv_at hl 0 rfl) ?_
    refine va_sld (pc := 36) hx hb hZ hbl hbA hS (by have h := ix_in 0 (by decide) hgo hL; rwa [show nI (6 * k) + nI 0 = nI (6 * k) from by rw [iI_nI, iI_nI, iI_add]; congr 1] at h) dL_law_36 ?_
    refine lv_bipush (v := 15) (pc := 37) hx hb dL_law_37 (by decide) ?_
    refine lv_iand (pc := 39) hx hb dL_law_39 ?_
    generalize xs (nI (6 * k)).toNatClampNeg &&& 15 = z
    have hfr : 11 ≤ room_1.frames ∧ 444 ≤ room_1.locals := by decide
    have hf : cells + 1 ≤ room_1.cells ∧ slots + 6 ≤ room_1.slots := by
      constructor
      · show cells + 1 ≤ 1034; omega
      · show slots + 6 ≤ 12662; omega
    by_cases hz : z.toInt < 0 ∨ 10 < z.toInt
    · refine lv_tableOut (tgt := 1074) (pc := 40) hx hb dL_law_40 hz (by decide) ?_
      refine W.widen (k := cells + 1) (n := slots + 6) (by omega) (by omega) ?_
      exact K md fl rg f S H locs ls hk hc hw hS hl
    have hz2 : z.toInt = 0 ∨ z.toInt = 1 ∨ z.toInt = 2 ∨ z.toInt = 3 ∨ z.toInt = 4 ∨ z.toInt = 5 ∨ z.toInt = 6 ∨ z.toInt = 7 ∨ z.toInt = 8 ∨ z.toInt = 9 ∨ z.toInt = 10 := by omega
    rcases hz2 with hz2 | hz2 | hz2 | hz2 | hz2 | hz2 | hz2 | hz2 | hz2 | hz2 | hz2
    · refine lv_tableIn (off := 60) (tgt := 100) (pc := 40) hx hb dL_law_40 (by omega) (by omega) (by rw [hz2]; rfl) (by decide) ?_
      exact law_put hp.1 hx hb hml hown hts hZ hbl hbA hX hF hfr hf hk hc hw hS hl (ix_in 1 (by decide) hgo hL) (ix_in 2 (by decide) hgo hL) (ix_in 3 (by decide) hgo hL) (ix_in 4 (by decide) hgo hL) (ix_in 5 (by decide) hgo hL) K
    · refine lv_tableIn (off := 159) (tgt := 199) (pc := 40) hx hb dL_law_40 (by omega) (by omega) (by rw [hz2]; rfl) (by decide) ?_
      exact law_bits hp.2.1 hx hb hml hown hts hZ hbl hbA hX hF hfr hf hk hc hw hS hl (ix_in 1 (by decide) hgo hL) (ix_in 2 (by decide) hgo hL) (ix_in 3 (by decide) hgo hL) (ix_in 4 (by decide) hgo hL) (ix_in 5 (by decide) hgo hL) K
    · refine lv_tableIn (off := 214) (tgt := 254) (pc := 40) hx hb dL_law_40 (by omega) (by omega) (by rw [hz2]; rfl) (by decide) ?_
      exact law_mode hp.2.2.1 hx hb hml hown hts hZ hbl hbA hX hF hfr hf hk hc hw hS hl (ix_in 1 (by decide) hgo hL) (ix_in 2 (by decide) hgo hL) (ix_in 3 (by decide) hgo hL) (ix_in 4 (by decide) hgo hL) (ix_in 5 (by decide) hgo hL) K
    · refine lv_tableIn (off := 270) (tgt := 310) (pc := 40) hx hb dL_law_40 (by omega) (by omega) (by rw [hz2]; rfl) (by decide) ?_
      exact law_flags hp.2.2.2.1 hx hb hml hown hts hZ hbl hbA hX hF hfr hf hk hc hw hS hl (ix_in 1 (by decide) hgo hL) (ix_in 2 (by decide) hgo hL) (ix_in 3 (by decide) hgo hL) (ix_in 4 (by decide) hgo hL) (ix_in 5 (by decide) hgo hL) K
    · refine lv_tableIn (off := 295) (tgt := 335) (pc := 40) hx hb dL_law_40 (by omega) (by omega) (by rw [hz2]; rfl) (by decide) ?_
      exact law_work hp.2.2.2.2.1 hx hb hml hown hts hZ hbl hbA hX hF hfr hf hk hc hw hS hl (ix_in 1 (by decide) hgo hL) (ix_in 2 (by decide) hgo hL) (ix_in 3 (by decide) hgo hL) (ix_in 4 (by decide) hgo hL) (ix_in 5 (by decide) hgo hL) K
    · refine lv_tableIn (off := 414) (tgt := 454) (pc := 40) hx hb dL_law_40 (by omega) (by omega) (by rw [hz2]; rfl) (by decide) ?_
      exact law_compare hp.2.2.2.2.2.1 hx hb hml hown hts hZ hbl hbA hX hF hfr hf hk hc hw hS hl (ix_in 1 (by decide) hgo hL) (ix_in 2 (by decide) hgo hL) (ix_in 3 (by decide) hgo hL) (ix_in 4 (by decide) hgo hL) (ix_in 5 (by decide) hgo hL) K
    · refine lv_tableIn (off := 522) (tgt := 562) (pc := 40) hx hb dL_law_40 (by omega) (by omega) (by rw [hz2]; rfl) (by decide) ?_
      exact law_of hp.2.2.2.2.2.2.1 hx hb hml hown hts hZ hbl hbA hX hF hfr hf hk hc hw hS hl (ix_in 1 (by decide) hgo hL) (ix_in 2 (by decide) hgo hL) (ix_in 3 (by decide) hgo hL) (ix_in 4 (by decide) hgo hL) (ix_in 5 (by decide) hgo hL) K
    · refine lv_tableIn (off := 649) (tgt := 689) (pc := 40) hx hb dL_law_40 (by omega) (by omega) (by rw [hz2]; rfl) (by decide) ?_
      exact law_whole hp.2.2.2.2.2.2.2.1 hx hb hml hown hts hZ hbl hbA hX hF hfr hf hk hc hw hS hl (ix_in 1 (by decide) hgo hL) (ix_in 2 (by decide) hgo hL) (ix_in 3 (by decide) hgo hL) (ix_in 4 (by decide) hgo hL) (ix_in 5 (by decide) hgo hL) K
    · refine lv_tableIn (off := 760) (tgt := 800) (pc := 40) hx hb dL_law_40 (by omega) (by omega) (by rw [hz2]; rfl) (by decide) ?_
      exact law_turn hp.2.2.2.2.2.2.2.2.1 hx hb hml hown hts hZ hbl hbA hX hF hfr hf hk hc hw hS hl (ix_in 1 (by decide) hgo hL) (ix_in 2 (by decide) hgo hL) (ix_in 3 (by decide) hgo hL) (ix_in 4 (by decide) hgo hL) (ix_in 5 (by decide) hgo hL) K
    · refine lv_tableIn (off := 855) (tgt := 895) (pc := 40) hx hb dL_law_40 (by omega) (by omega) (by rw [hz2]; rfl) (by decide) ?_
      exact law_kind hp.2.2.2.2.2.2.2.2.2.1 hx hb hml hown hts hZ hbl hbA hX hF hfr hf hk hc hw hS hl (ix_in 1 (by decide) hgo hL) (ix_in 2 (by decide) hgo hL) (ix_in 3 (by decide) hgo hL) (ix_in 4 (by decide) hgo hL) (ix_in 5 (by decide) hgo hL) K
    · refine lv_tableIn (off := 939) (tgt := 979) (pc := 40) hx hb dL_law_40 (by omega) (by omega) (by rw [hz2]; rfl) (by decide) ?_
      exact law_negate hp.2.2.2.2.2.2.2.2.2.2 hx hb hml hown hts hZ hbl hbA hX hF hfr hf hk hc hw hS hl (ix_in 1 (by decide) hgo hL) (ix_in 2 (by decide) hgo hL) (ix_in 3 (by decide) hgo hL) (ix_in 4 (by decide) hgo hL) (ix_in 5 (by decide) hgo hL) K
