/-! The law's cases. PRl, PRi: a call answers alike on both sides; the walk of a case stands on that alone. -/
def MK (md : Int32) : Prop := ¬ md < 0 ∧ md ≤ 3
def CPL (md fl : Int32) (rg : Nat → Int64) (S : MS) : Prop := S.1.1 = md ∧ S.1.2.1 = fl ∧ S.2.2.2.2.2 = rg
def PRl (l : Launch) (yL : MethodName) (wL : List Cond) (rL : Room) (yM : MethodName) (wM : List Cond) (rM : Room) (as : List Value) : Prop :=
  ∀ (ad : Nat → Nat) (D : va_G) (cA cI cL : ClassId) (h0 r0 o0 m0 ra rb rc : Nat) (md fl : Int32) (rg f : Nat → Int64) (S : MS), MK md → CPL md fl rg S →
    ∃ (r md1 fl1 : Int32) (rg1 f1 : Nat → Int64) (v : Int64) (S1 : MS), WrM l ad D cA h0 r0 o0 yL wL rL (.ref h0 :: (as ++ [.ref o0])) md fl rg f r md1 fl1 rg1 f1 ∧ MoM l D cI cL m0 ra rb rc yM wM rM as S (some (.long v)) S1 ∧ S1.1.2.2.1 = r ∧ (r = 0 → f1 0 = v) ∧ MK md1 ∧ CPL md1 fl1 rg1 S1
def PRi (l : Launch) (yL : MethodName) (wL : List Cond) (rL : Room) (yM : MethodName) (wM : List Cond) (rM : Room) (as : List Value) : Prop :=
  ∀ (ad : Nat → Nat) (D : va_G) (cA cI cL : ClassId) (h0 r0 o0 m0 ra rb rc : Nat) (md fl : Int32) (rg f : Nat → Int64) (S : MS), MK md → CPL md fl rg S →
    ∃ (r md1 fl1 : Int32) (rg1 f1 : Nat → Int64) (v : Int32) (S1 : MS), WrM l ad D cA h0 r0 o0 yL wL rL (.ref h0 :: (as ++ [.ref o0])) md fl rg f r md1 fl1 rg1 f1 ∧ MoM l D cI cL m0 ra rb rc yM wM rM as S (some (.int v)) S1 ∧ S1.1.2.2.1 = r ∧ (r = 0 → f1 0 = v.toInt64) ∧ MK md1 ∧ CPL md1 fl1 rg1 S1
def PRf (l : Launch) (as : List Value) : Prop :=
  ∀ (ad : Nat → Nat) (D : va_G) (cA cI cL : ClassId) (h0 r0 m0 ra rb rc : Nat) (md fl : Int32) (rg : Nat → Int64) (S : MS), MK md → CPL md fl rg S →
    ∃ (v fl1 : Int32) (S1 : MS), FuM l ad D cA h0 r0 yU_flags (wsM yU_flags cU_flags 3 (some .int)) rmU_flags as md fl rg (some (.int v)) md fl1 rg ∧ MoM l D cI cL m0 ra rb rc yM_flags (wsM yM_flags cM_flags 3 (some .int)) rmM_flags as S (some (.int v)) S1 ∧ CPL md fl1 rg S1
def lawL (a b : Int32) : Int64 := a.toInt64 <<< ((32 : Int32).toInt64 &&& 63) ||| (b.toInt64 &&& 4294967295)
theorem c_M_thr (l : Launch) (D : va_G) (cI cL : ClassId) (m0 ra rb rc : Nat) (S : MS) : MoM l D cI cL m0 ra rb rc yM_thrown (wsM yM_thrown cM_thrown 1 (some .int)) rmM_thrown [] S (some (.int S.1.2.2.1)) S := by
  obtain ⟨⟨a1, a2, a3, a4, a5, a6, a7, a8, a9⟩, ⟨b1, b2⟩, ⟨c1, c2⟩, d1, d2, d3⟩ := S
  exact c_M_thrown l D cI cL m0 ra rb rc a1 a2 a3 a4 a5 a6 a7 a8 a9 b1 b2 c1 c2 d1 d2 d3
section LC
variable {p : Program} {l : Launch} {e : Env} {R : Room} {s : State} {m : MethodId} {args : Array Value} {below : List Frame} {meth : Method} {c : Code} {H : Heap} {locs : List Loc} {cells slots : Nat} {Q : State → Prop}
variable {w0 : Cond} {cc : ByteArray} {rest : List Value} {pc : Nat} {ls : Array Slot} {ad : Nat → Nat} {A : Nat → Prop}
variable {D : va_G} {cA cI cL : ClassId} {h0 r0 o0 m0 ra rb rc : Nat} {md fl : Int32} {rg f : Nat → Int64} {S : MS} {b L : Nat} {xs : Nat → Int32} {i : Int32}
theorem lr_read (hx : p.tables.exec = Jvm.exec) (hb : c.code = cc) (hZ : va_X b L xs s s.heap) (hbl : b < s.heap.size) (hbA : ¬ A b) (hS : va_S A s.heap H locs) (h0 : ls[0]? = some (.val (.ref b))) (h4 : ls[4]? = some (.val (.int i))) {j : Int} {v : Int32} (d0 : decode cc pc = .ok (.aload_n 0, 1)) (d1 : decode cc (pc + 1) = .ok (.iload 4, 2)) (d2 : decode cc (pc + 1 + 2) = .ok (.iconst j, 1)) (d3 : decode cc (pc + 1 + 2 + 1) = .ok (.iadd, 1)) (d4 : decode cc (pc + 1 + 2 + 1 + 1) = .ok (.iaload, 1)) (hj : Int32.ofInt j = v) (hin : vp_in (i + v) L)
    (kk : W p l e R s m args below meth c H locs cells slots Q (F0 m (pc + 1 + 2 + 1 + 1 + 1) ls (.int (xs (i + v).toNatClampNeg) :: rest))) : W p l e R s m args below meth c H locs cells slots Q (F0 m pc ls rest) := by
  refine lv_aload_n hx hb d0 rfl h0 ?_
  refine lv_iload hx hb d1 h4 ?_
  refine lv_iconst hx hb d2 hj ?_
  refine lv_iadd hx hb d3 ?_
  exact va_sld hx hb hZ hbl hbA hS hin d4 kk
theorem lb_bool (hx : p.tables.exec = Jvm.exec) (hb : c.code = cc) {v : Int32} (d0 : decode cc pc = .ok (.ifCond .eq 7, 3)) (d1 : decode cc (pc + 3) = .ok (.iconst 1, 1)) (d2 : decode cc (pc + 3 + 1) = .ok (.goto 4, 3)) (d3 : decode cc (pc + 7) = .ok (.iconst 0, 1))
    (kk : W p l e R s m args below meth c H locs cells slots Q (F0 m (pc + 8) ls (.int (bI (decide (v ≠ 0))) :: rest))) : W p l e R s m args below meth c H locs cells slots Q (F0 m pc ls (.int v :: rest)) := by
  refine lv_if_eq (tgt := pc + 7) hx hb d0 (by omega) (fun h => ?_) (fun h => ?_)
  · have e1 : bI (decide (v ≠ 0)) = 0 := by rw [decide_eq_false (fun g => g h)]; rfl
    rw [e1] at kk
    exact lv_iconst (v := 0) hx hb d3 rfl kk
  · have e1 : bI (decide (v ≠ 0)) = 1 := by rw [decide_eq_true h]; rfl
    rw [e1] at kk
    refine lv_iconst (v := 1) hx hb d1 rfl ?_
    exact lv_goto (tgt := pc + 8) hx hb d2 (by omega) kk
def PR_put (l : Launch) : Prop := ∀ (a0 : Int32) (a1 : Int64), PRl l yL_put (wsW yL_put cL_put 6 [(0, 10, 13, 13)]) rmL_put yM_put (wsM yM_put cM_put 6 (some .long)) rmM_put [.int a0, .long a1]
set_option maxRecDepth 100000 in
set_option maxHeartbeats 4000000 in
theorem law_put (hp : PR_put l) (hx : p.tables.exec = Jvm.exec) (hb : c.code = code) (hml : c.maxLocals = 8) (hown : s.vm.findClass "FloatUnitLaw" = some m.cls) (hts : ∀ w ∈ (w0 :: bigW), w.before args s = true) (hZ : va_X b L xs s s.heap) (hbl : b < s.heap.size) (hbA : ¬ A b) (hX : XM A s s.heap) (hF : FM ad A s s.heap) (hfr : 11 ≤ R.frames ∧ 444 ≤ R.locals) (hf : cells + 1 ≤ R.cells ∧ slots + 6 ≤ R.slots) (hk : MK md) (hc : CPL md fl rg S) (hw : LWw A D cA cI cL h0 r0 o0 m0 ra rb rc md fl rg f S s H) (hS : va_S A s.heap H locs) (hl : lv_has ls 8 [(4, .int i), (0, .ref b), (1, .ref h0), (2, .ref m0), (3, .ref o0)]) (h_1 : vp_in (i + 1) L) (h_2 : vp_in (i + 2) L) (h_3 : vp_in (i + 3) L) (h_4 : vp_in (i + 4) L) (h_5 : vp_in (i + 5) L) (kk : ∀ (md1 fl1 : Int32) (rg1 f1 : Nat → Int64) (S1 : MS) (H1 : Heap) (locs1 : List Loc) (ls1 : Array Slot), MK md1 → CPL md1 fl1 rg1 S1 → LWw A D cA cI cL h0 r0 o0 m0 ra rb rc md1 fl1 rg1 f1 S1 s H1 → va_S A s.heap H1 locs1 → lv_has ls1 8 [(4, .int i), (0, .ref b), (1, .ref h0), (2, .ref m0), (3, .ref o0)] → W p l e R s m args below meth c H1 locs1 (cells + 1) (slots + 6) Q (F0 m 1074 ls1 [])) : W p l e R s m args below meth c H locs cells slots Q (F0 m 100 ls []) := by
  obtain ⟨r, md1, fl1, rg1, f1, v, S1, hu, hm, he, hv, hk, hc⟩ := hp (xs (i + 1).toNatClampNeg) (lawL (xs (i + 2).toNatClampNeg) (xs (i + 3).toNatClampNeg)) ad D cA cI cL h0 r0 o0 m0 ra rb rc md fl rg f S hk hc
  refine lv_aload_n (pc := 100) hx hb dL_law_100 rfl (lv_at hl 2 rfl) ?_
  refine lr_read (pc := 101) (v := 1) hx hb hZ hbl hbA hS (lv_at hl 1 rfl) (lv_at hl 0 rfl) dL_law_101 dL_law_102 dL_law_104 dL_law_105 dL_law_106 (by decide) h_1 ?_
  refine lr_read (pc := 107) (v := 2) hx hb hZ hbl hbA hS (lv_at hl 1 rfl) (lv_at hl 0 rfl) dL_law_107 dL_law_108 dL_law_110 dL_law_111 dL_law_112 (by decide) h_2 ?_
  refine lv_i2l (v := (xs (i + 2).toNatClampNeg).toInt64) (pc := 113) hx hb dL_law_113 rfl ?_
  refine lv_bipush (v := 32) (pc := 114) hx hb dL_law_114 (by decide) ?_
  refine lv_lshl (pc := 116) hx hb dL_law_116 rfl ?_
  refine lr_read (pc := 117) (v := 3) hx hb hZ hbl hbA hS (lv_at hl 1 rfl) (lv_at hl 0 rfl) dL_law_117 dL_law_118 dL_law_120 dL_law_121 dL_law_122 (by decide) h_3 ?_
  refine lv_i2l (v := (xs (i + 3).toNatClampNeg).toInt64) (pc := 123) hx hb dL_law_123 rfl ?_
  refine lv_ldc2 (v := 4294967295) (pc := 124) hx hb hown (hts _ (List.mem_cons_of_mem _ w_527)) dL_law_124 ?_
  refine lv_land (pc := 127) hx hb dL_law_127 ?_
  refine lv_lor (pc := 128) hx hb dL_law_128 ?_
  refine lv_aload_n (pc := 129) hx hb dL_law_129 rfl (lv_at hl 4 rfl) ?_
  refine gw_S (pc := 130) (rest := []) ⟨hx, hb, hml, hown, hts⟩ hu (cwL_put hts w_33 ⟨Nat.le_trans (Nat.le_of_ble_eq_true rfl) hfr.1, Nat.le_trans (Nat.le_of_ble_eq_true rfl) hfr.2⟩) hX hF hw hS rfl hl.1 rfl (Nat.le_of_ble_eq_true rfl) dL_law_130 hf (fun H locs hw hS => ?_)
  refine lv_istore (lv' := [(5, .int r), (4, .int i), (0, .ref b), (1, .ref h0), (2, .ref m0), (3, .ref o0)]) (pc := 133) hx hb dL_law_133 hl (by decide) rfl (fun ls hl => ?_)
  refine lv_aload_n (pc := 135) hx hb dL_law_135 rfl (lv_at hl 4 rfl) ?_
  refine lr_read (pc := 136) (v := 1) hx hb hZ hbl hbA hS (lv_at hl 2 rfl) (lv_at hl 1 rfl) dL_law_136 dL_law_137 dL_law_139 dL_law_140 dL_law_141 (by decide) h_1 ?_
  refine lr_read (pc := 142) (v := 2) hx hb hZ hbl hbA hS (lv_at hl 2 rfl) (lv_at hl 1 rfl) dL_law_142 dL_law_143 dL_law_145 dL_law_146 dL_law_147 (by decide) h_2 ?_
  refine lv_i2l (v := (xs (i + 2).toNatClampNeg).toInt64) (pc := 148) hx hb dL_law_148 rfl ?_
  refine lv_bipush (v := 32) (pc := 149) hx hb dL_law_149 (by decide) ?_
  refine lv_lshl (pc := 151) hx hb dL_law_151 rfl ?_
  refine lr_read (pc := 152) (v := 3) hx hb hZ hbl hbA hS (lv_at hl 2 rfl) (lv_at hl 1 rfl) dL_law_152 dL_law_153 dL_law_155 dL_law_156 dL_law_157 (by decide) h_3 ?_
  refine lv_i2l (v := (xs (i + 3).toNatClampNeg).toInt64) (pc := 158) hx hb dL_law_158 rfl ?_
  refine lv_ldc2 (v := 4294967295) (pc := 159) hx hb hown (hts _ (List.mem_cons_of_mem _ w_527)) dL_law_159 ?_
  refine lv_land (pc := 162) hx hb dL_law_162 ?_
  refine lv_lor (pc := 163) hx hb dL_law_163 ?_
  refine gm_V (pc := 164) (rest := []) ⟨hx, hb, hml, hown, hts⟩ hm (cwM_put hts w_410 ⟨Nat.le_trans (Nat.le_of_ble_eq_true rfl) hfr.1, Nat.le_trans (Nat.le_of_ble_eq_true rfl) hfr.2⟩) hw hS rfl hl.1 rfl (Nat.le_of_ble_eq_true rfl) dL_law_164 hf (fun H locs hw hS => ?_)
  refine W.eq (g2 := F0 m 167 ls [.long v]) rfl ?_
  refine lv_lstore (lv' := [(6, .long v), (5, .int r), (4, .int i), (0, .ref b), (1, .ref h0), (2, .ref m0), (3, .ref o0)]) (pc := 167) hx hb dL_law_167 hl (by decide) rfl (fun ls hl => ?_)
  refine lv_aload_n (pc := 169) hx hb dL_law_169 rfl (lv_at hl 5 rfl) ?_
  refine gm_V (pc := 170) (rest := []) ⟨hx, hb, hml, hown, hts⟩ (c_M_thr l D cI cL m0 ra rb rc S1) (cwM_thrown hts w_406 ⟨Nat.le_trans (Nat.le_of_ble_eq_true rfl) hfr.1, Nat.le_trans (Nat.le_of_ble_eq_true rfl) hfr.2⟩) hw hS rfl hl.1 rfl (Nat.le_of_ble_eq_true rfl) dL_law_170 hf (fun H locs hw hS => ?_)
  refine W.eq (g2 := F0 m 173 ls [.int S1.1.2.2.1]) rfl ?_
  refine lv_iload (pc := 173) hx hb dL_law_173 (lv_at hl 1 rfl) ?_
  refine lv_icmp_eq (tgt := 180) (pc := 175) hx hb dL_law_175 (by decide) (fun _ => ?_) (fun g => absurd he g)
  refine lv_iload (pc := 180) hx hb dL_law_180 (lv_at hl 1 rfl) ?_
  have hend : W p l e R s m args below meth c H locs (cells + 1) (slots + 6) Q (F0 m 196 ls []) := by
    refine lv_goto (tgt := 1074) (pc := 196) hx hb dL_law_196 (by decide) ?_
    exact kk md1 fl1 rg1 f1 S1 H locs ls hk hc hw hS (lv_sub hl [2, 3, 4, 5, 6] rfl)
  refine lv_if_ne (tgt := 196) (pc := 182) hx hb dL_law_182 (by decide) (fun _ => hend) (fun g => ?_)
  refine lv_aload_n (pc := 185) hx hb dL_law_185 rfl (lv_at hl 6 rfl) ?_
  refine lv_iconst (v := 0) (pc := 186) hx hb dL_law_186 (by decide) ?_
  refine lw_out (pc := 187) hx hb hw dL_law_187 ?_
  refine lv_lload (pc := 188) hx hb dL_law_188 (lv_at hl 0 rfl) ?_
  refine W.lcmp (pc := 190) hx hb dL_law_190 ?_
  exact lv_if_eq (tgt := 196) (pc := 191) hx hb dL_law_191 (by decide) (fun _ => hend) (fun g2 => absurd ((lg_cmp_eq _ _).2 (hv g)) g2)
def PR_bits (l : Launch) : Prop := ∀ (a0 : Int32), PRl l yL_bits (wsW yL_bits cL_bits 4 [(0, 8, 11, 13)]) rmL_bits yM_bits (wsM yM_bits cM_bits 2 (some .long)) rmM_bits [.int a0]
set_option maxRecDepth 100000 in
set_option maxHeartbeats 4000000 in
theorem law_bits (hp : PR_bits l) (hx : p.tables.exec = Jvm.exec) (hb : c.code = code) (hml : c.maxLocals = 8) (hown : s.vm.findClass "FloatUnitLaw" = some m.cls) (hts : ∀ w ∈ (w0 :: bigW), w.before args s = true) (hZ : va_X b L xs s s.heap) (hbl : b < s.heap.size) (hbA : ¬ A b) (hX : XM A s s.heap) (hF : FM ad A s s.heap) (hfr : 11 ≤ R.frames ∧ 444 ≤ R.locals) (hf : cells + 1 ≤ R.cells ∧ slots + 6 ≤ R.slots) (hk : MK md) (hc : CPL md fl rg S) (hw : LWw A D cA cI cL h0 r0 o0 m0 ra rb rc md fl rg f S s H) (hS : va_S A s.heap H locs) (hl : lv_has ls 8 [(4, .int i), (0, .ref b), (1, .ref h0), (2, .ref m0), (3, .ref o0)]) (h_1 : vp_in (i + 1) L) (h_2 : vp_in (i + 2) L) (h_3 : vp_in (i + 3) L) (h_4 : vp_in (i + 4) L) (h_5 : vp_in (i + 5) L) (kk : ∀ (md1 fl1 : Int32) (rg1 f1 : Nat → Int64) (S1 : MS) (H1 : Heap) (locs1 : List Loc) (ls1 : Array Slot), MK md1 → CPL md1 fl1 rg1 S1 → LWw A D cA cI cL h0 r0 o0 m0 ra rb rc md1 fl1 rg1 f1 S1 s H1 → va_S A s.heap H1 locs1 → lv_has ls1 8 [(4, .int i), (0, .ref b), (1, .ref h0), (2, .ref m0), (3, .ref o0)] → W p l e R s m args below meth c H1 locs1 (cells + 1) (slots + 6) Q (F0 m 1074 ls1 [])) : W p l e R s m args below meth c H locs cells slots Q (F0 m 199 ls []) := by
  obtain ⟨r, md1, fl1, rg1, f1, v, S1, hu, hm, he, hv, hk, hc⟩ := hp (xs (i + 1).toNatClampNeg) ad D cA cI cL h0 r0 o0 m0 ra rb rc md fl rg f S hk hc
  refine lv_aload_n (pc := 199) hx hb dL_law_199 rfl (lv_at hl 2 rfl) ?_
  refine lr_read (pc := 200) (v := 1) hx hb hZ hbl hbA hS (lv_at hl 1 rfl) (lv_at hl 0 rfl) dL_law_200 dL_law_201 dL_law_203 dL_law_204 dL_law_205 (by decide) h_1 ?_
  refine lv_aload_n (pc := 206) hx hb dL_law_206 rfl (lv_at hl 4 rfl) ?_
  refine gw_S (pc := 207) (rest := []) ⟨hx, hb, hml, hown, hts⟩ hu (cwL_bits hts w_110 ⟨Nat.le_trans (Nat.le_of_ble_eq_true rfl) hfr.1, Nat.le_trans (Nat.le_of_ble_eq_true rfl) hfr.2⟩) hX hF hw hS rfl hl.1 rfl (Nat.le_of_ble_eq_true rfl) dL_law_207 hf (fun H locs hw hS => ?_)
  refine lv_istore (lv' := [(5, .int r), (4, .int i), (0, .ref b), (1, .ref h0), (2, .ref m0), (3, .ref o0)]) (pc := 210) hx hb dL_law_210 hl (by decide) rfl (fun ls hl => ?_)
  refine lv_aload_n (pc := 212) hx hb dL_law_212 rfl (lv_at hl 4 rfl) ?_
  refine lr_read (pc := 213) (v := 1) hx hb hZ hbl hbA hS (lv_at hl 2 rfl) (lv_at hl 1 rfl) dL_law_213 dL_law_214 dL_law_216 dL_law_217 dL_law_218 (by decide) h_1 ?_
  refine gm_V (pc := 219) (rest := []) ⟨hx, hb, hml, hown, hts⟩ hm (cwM_bits hts w_421 ⟨Nat.le_trans (Nat.le_of_ble_eq_true rfl) hfr.1, Nat.le_trans (Nat.le_of_ble_eq_true rfl) hfr.2⟩) hw hS rfl hl.1 rfl (Nat.le_of_ble_eq_true rfl) dL_law_219 hf (fun H locs hw hS => ?_)
  refine W.eq (g2 := F0 m 222 ls [.long v]) rfl ?_
  refine lv_lstore (lv' := [(6, .long v), (5, .int r), (4, .int i), (0, .ref b), (1, .ref h0), (2, .ref m0), (3, .ref o0)]) (pc := 222) hx hb dL_law_222 hl (by decide) rfl (fun ls hl => ?_)
  refine lv_aload_n (pc := 224) hx hb dL_law_224 rfl (lv_at hl 5 rfl) ?_
  refine gm_V (pc := 225) (rest := []) ⟨hx, hb, hml, hown, hts⟩ (c_M_thr l D cI cL m0 ra rb rc S1) (cwM_thrown hts w_406 ⟨Nat.le_trans (Nat.le_of_ble_eq_true rfl) hfr.1, Nat.le_trans (Nat.le_of_ble_eq_true rfl) hfr.2⟩) hw hS rfl hl.1 rfl (Nat.le_of_ble_eq_true rfl) dL_law_225 hf (fun H locs hw hS => ?_)
  refine W.eq (g2 := F0 m 228 ls [.int S1.1.2.2.1]) rfl ?_
  refine lv_iload (pc := 228) hx hb dL_law_228 (lv_at hl 1 rfl) ?_
  refine lv_icmp_eq (tgt := 235) (pc := 230) hx hb dL_law_230 (by decide) (fun _ => ?_) (fun g => absurd he g)
  refine lv_iload (pc := 235) hx hb dL_law_235 (lv_at hl 1 rfl) ?_
  have hend : W p l e R s m args below meth c H locs (cells + 1) (slots + 6) Q (F0 m 251 ls []) := by
    refine lv_goto (tgt := 1074) (pc := 251) hx hb dL_law_251 (by decide) ?_
    exact kk md1 fl1 rg1 f1 S1 H locs ls hk hc hw hS (lv_sub hl [2, 3, 4, 5, 6] rfl)
  refine lv_if_ne (tgt := 251) (pc := 237) hx hb dL_law_237 (by decide) (fun _ => hend) (fun g => ?_)
  refine lv_aload_n (pc := 240) hx hb dL_law_240 rfl (lv_at hl 6 rfl) ?_
  refine lv_iconst (v := 0) (pc := 241) hx hb dL_law_241 (by decide) ?_
  refine lw_out (pc := 242) hx hb hw dL_law_242 ?_
  refine lv_lload (pc := 243) hx hb dL_law_243 (lv_at hl 0 rfl) ?_
  refine W.lcmp (pc := 245) hx hb dL_law_245 ?_
  exact lv_if_eq (tgt := 251) (pc := 246) hx hb dL_law_246 (by decide) (fun _ => hend) (fun g2 => absurd ((lg_cmp_eq _ _).2 (hv g)) g2)
def PR_mode (l : Launch) : Prop := ∀ (a0 : Int32), PRi l yL_mode (wsW yL_mode cL_mode 4 [(0, 9, 12, 13)]) rmL_mode yM_mode (wsM yM_mode cM_mode 3 (some .int)) rmM_mode [.int a0]
set_option maxRecDepth 100000 in
set_option maxHeartbeats 4000000 in
theorem law_mode (hp : PR_mode l) (hx : p.tables.exec = Jvm.exec) (hb : c.code = code) (hml : c.maxLocals = 8) (hown : s.vm.findClass "FloatUnitLaw" = some m.cls) (hts : ∀ w ∈ (w0 :: bigW), w.before args s = true) (hZ : va_X b L xs s s.heap) (hbl : b < s.heap.size) (hbA : ¬ A b) (hX : XM A s s.heap) (hF : FM ad A s s.heap) (hfr : 11 ≤ R.frames ∧ 444 ≤ R.locals) (hf : cells + 1 ≤ R.cells ∧ slots + 6 ≤ R.slots) (hk : MK md) (hc : CPL md fl rg S) (hw : LWw A D cA cI cL h0 r0 o0 m0 ra rb rc md fl rg f S s H) (hS : va_S A s.heap H locs) (hl : lv_has ls 8 [(4, .int i), (0, .ref b), (1, .ref h0), (2, .ref m0), (3, .ref o0)]) (h_1 : vp_in (i + 1) L) (h_2 : vp_in (i + 2) L) (h_3 : vp_in (i + 3) L) (h_4 : vp_in (i + 4) L) (h_5 : vp_in (i + 5) L) (kk : ∀ (md1 fl1 : Int32) (rg1 f1 : Nat → Int64) (S1 : MS) (H1 : Heap) (locs1 : List Loc) (ls1 : Array Slot), MK md1 → CPL md1 fl1 rg1 S1 → LWw A D cA cI cL h0 r0 o0 m0 ra rb rc md1 fl1 rg1 f1 S1 s H1 → va_S A s.heap H1 locs1 → lv_has ls1 8 [(4, .int i), (0, .ref b), (1, .ref h0), (2, .ref m0), (3, .ref o0)] → W p l e R s m args below meth c H1 locs1 (cells + 1) (slots + 6) Q (F0 m 1074 ls1 [])) : W p l e R s m args below meth c H locs cells slots Q (F0 m 254 ls []) := by
  obtain ⟨r, md1, fl1, rg1, f1, v, S1, hu, hm, he, hv, hk, hc⟩ := hp (xs (i + 1).toNatClampNeg) ad D cA cI cL h0 r0 o0 m0 ra rb rc md fl rg f S hk hc
  refine lv_aload_n (pc := 254) hx hb dL_law_254 rfl (lv_at hl 2 rfl) ?_
  refine lr_read (pc := 255) (v := 1) hx hb hZ hbl hbA hS (lv_at hl 1 rfl) (lv_at hl 0 rfl) dL_law_255 dL_law_256 dL_law_258 dL_law_259 dL_law_260 (by decide) h_1 ?_
  refine lv_aload_n (pc := 261) hx hb dL_law_261 rfl (lv_at hl 4 rfl) ?_
  refine gw_S (pc := 262) (rest := []) ⟨hx, hb, hml, hown, hts⟩ hu (cwL_mode hts w_117 ⟨Nat.le_trans (Nat.le_of_ble_eq_true rfl) hfr.1, Nat.le_trans (Nat.le_of_ble_eq_true rfl) hfr.2⟩) hX hF hw hS rfl hl.1 rfl (Nat.le_of_ble_eq_true rfl) dL_law_262 hf (fun H locs hw hS => ?_)
  refine lv_istore (lv' := [(5, .int r), (4, .int i), (0, .ref b), (1, .ref h0), (2, .ref m0), (3, .ref o0)]) (pc := 265) hx hb dL_law_265 hl (by decide) rfl (fun ls hl => ?_)
  refine lv_aload_n (pc := 267) hx hb dL_law_267 rfl (lv_at hl 4 rfl) ?_
  refine lr_read (pc := 268) (v := 1) hx hb hZ hbl hbA hS (lv_at hl 2 rfl) (lv_at hl 1 rfl) dL_law_268 dL_law_269 dL_law_271 dL_law_272 dL_law_273 (by decide) h_1 ?_
  refine gm_V (pc := 274) (rest := []) ⟨hx, hb, hml, hown, hts⟩ hm (cwM_mode hts w_425 ⟨Nat.le_trans (Nat.le_of_ble_eq_true rfl) hfr.1, Nat.le_trans (Nat.le_of_ble_eq_true rfl) hfr.2⟩) hw hS rfl hl.1 rfl (Nat.le_of_ble_eq_true rfl) dL_law_274 hf (fun H locs hw hS => ?_)
  refine W.eq (g2 := F0 m 277 ls [.int v]) rfl ?_
  refine lv_istore (lv' := [(6, .int v), (5, .int r), (4, .int i), (0, .ref b), (1, .ref h0), (2, .ref m0), (3, .ref o0)]) (pc := 277) hx hb dL_law_277 hl (by decide) rfl (fun ls hl => ?_)
  refine lv_aload_n (pc := 279) hx hb dL_law_279 rfl (lv_at hl 5 rfl) ?_
  refine gm_V (pc := 280) (rest := []) ⟨hx, hb, hml, hown, hts⟩ (c_M_thr l D cI cL m0 ra rb rc S1) (cwM_thrown hts w_406 ⟨Nat.le_trans (Nat.le_of_ble_eq_true rfl) hfr.1, Nat.le_trans (Nat.le_of_ble_eq_true rfl) hfr.2⟩) hw hS rfl hl.1 rfl (Nat.le_of_ble_eq_true rfl) dL_law_280 hf (fun H locs hw hS => ?_)
  refine W.eq (g2 := F0 m 283 ls [.int S1.1.2.2.1]) rfl ?_
  refine lv_iload (pc := 283) hx hb dL_law_283 (lv_at hl 1 rfl) ?_
  refine lv_icmp_eq (tgt := 290) (pc := 285) hx hb dL_law_285 (by decide) (fun _ => ?_) (fun g => absurd he g)
  refine lv_iload (pc := 290) hx hb dL_law_290 (lv_at hl 1 rfl) ?_
  have hend : W p l e R s m args below meth c H locs (cells + 1) (slots + 6) Q (F0 m 307 ls []) := by
    refine lv_goto (tgt := 1074) (pc := 307) hx hb dL_law_307 (by decide) ?_
    exact kk md1 fl1 rg1 f1 S1 H locs ls hk hc hw hS (lv_sub hl [2, 3, 4, 5, 6] rfl)
  refine lv_if_ne (tgt := 307) (pc := 292) hx hb dL_law_292 (by decide) (fun _ => hend) (fun g => ?_)
  refine lv_aload_n (pc := 295) hx hb dL_law_295 rfl (lv_at hl 6 rfl) ?_
  refine lv_iconst (v := 0) (pc := 296) hx hb dL_law_296 (by decide) ?_
  refine lw_out (pc := 297) hx hb hw dL_law_297 ?_
  refine lv_iload (pc := 298) hx hb dL_law_298 (lv_at hl 0 rfl) ?_
  refine lv_i2l (v := v.toInt64) (pc := 300) hx hb dL_law_300 rfl ?_
  refine W.lcmp (pc := 301) hx hb dL_law_301 ?_
  exact lv_if_eq (tgt := 307) (pc := 302) hx hb dL_law_302 (by decide) (fun _ => hend) (fun g2 => absurd ((lg_cmp_eq _ _).2 (hv g)) g2)
def PR_flags (l : Launch) : Prop := ∀ a0 : Int32, PRf l [.int a0]
set_option maxRecDepth 100000 in
set_option maxHeartbeats 4000000 in
theorem law_flags (hp : PR_flags l) (hx : p.tables.exec = Jvm.exec) (hb : c.code = code) (hml : c.maxLocals = 8) (hown : s.vm.findClass "FloatUnitLaw" = some m.cls) (hts : ∀ w ∈ (w0 :: bigW), w.before args s = true) (hZ : va_X b L xs s s.heap) (hbl : b < s.heap.size) (hbA : ¬ A b) (hX : XM A s s.heap) (hF : FM ad A s s.heap) (hfr : 11 ≤ R.frames ∧ 444 ≤ R.locals) (hf : cells + 1 ≤ R.cells ∧ slots + 6 ≤ R.slots) (hk : MK md) (hc : CPL md fl rg S) (hw : LWw A D cA cI cL h0 r0 o0 m0 ra rb rc md fl rg f S s H) (hS : va_S A s.heap H locs) (hl : lv_has ls 8 [(4, .int i), (0, .ref b), (1, .ref h0), (2, .ref m0), (3, .ref o0)]) (h_1 : vp_in (i + 1) L) (h_2 : vp_in (i + 2) L) (h_3 : vp_in (i + 3) L) (h_4 : vp_in (i + 4) L) (h_5 : vp_in (i + 5) L) (kk : ∀ (md1 fl1 : Int32) (rg1 f1 : Nat → Int64) (S1 : MS) (H1 : Heap) (locs1 : List Loc) (ls1 : Array Slot), MK md1 → CPL md1 fl1 rg1 S1 → LWw A D cA cI cL h0 r0 o0 m0 ra rb rc md1 fl1 rg1 f1 S1 s H1 → va_S A s.heap H1 locs1 → lv_has ls1 8 [(4, .int i), (0, .ref b), (1, .ref h0), (2, .ref m0), (3, .ref o0)] → W p l e R s m args below meth c H1 locs1 (cells + 1) (slots + 6) Q (F0 m 1074 ls1 [])) : W p l e R s m args below meth c H locs cells slots Q (F0 m 310 ls []) := by
  obtain ⟨v, fl1, S1, hu, hm, hc⟩ := hp (xs (i + 1).toNatClampNeg) ad D cA cI cL h0 r0 m0 ra rb rc md fl rg S hk hc
  refine lv_aload_n (pc := 310) hx hb dL_law_310 rfl (lv_at hl 2 rfl) ?_
  refine lr_read (pc := 311) (v := 1) hx hb hZ hbl hbA hS (lv_at hl 1 rfl) (lv_at hl 0 rfl) dL_law_311 dL_law_312 dL_law_314 dL_law_315 dL_law_316 (by decide) h_1 ?_
  refine gu_V (pc := 317) (rest := []) ⟨hx, hb, hml, hown, hts⟩ hu (cwU_flags hts w_29 ⟨Nat.le_trans (Nat.le_of_ble_eq_true rfl) hfr.1, Nat.le_trans (Nat.le_of_ble_eq_true rfl) hfr.2⟩) hF (fun q g => hw.2.2.2.1 q (g.elim Or.inl (fun g => Or.inr (Or.inl g)))) hw.1.1 hS rfl hl.1 rfl (Nat.le_of_ble_eq_true rfl) dL_law_317 ⟨by omega, by omega⟩ (fun H1 locs h1 hz hq hS => ?_)
  have hw := lw_unit hw h1 hq
  refine W.eq (g2 := F0 m 320 ls [.int v]) rfl ?_
  refine lv_aload_n (pc := 320) hx hb dL_law_320 rfl (lv_at hl 3 rfl) ?_
  refine lr_read (pc := 321) (v := 1) hx hb hZ hbl hbA hS (lv_at hl 1 rfl) (lv_at hl 0 rfl) dL_law_321 dL_law_322 dL_law_324 dL_law_325 dL_law_326 (by decide) h_1 ?_
  refine gm_V (pc := 327) (rest := [.int v]) ⟨hx, hb, hml, hown, hts⟩ hm (cwM_flags hts w_429 ⟨Nat.le_trans (Nat.le_of_ble_eq_true rfl) hfr.1, Nat.le_trans (Nat.le_of_ble_eq_true rfl) hfr.2⟩) hw hS rfl hl.1 rfl (Nat.le_of_ble_eq_true rfl) dL_law_327 ⟨by omega, by omega⟩ (fun H locs hw hS => ?_)
  refine W.eq (g2 := F0 m 330 ls [.int v, .int v]) rfl ?_
  refine lv_icmp_eq (tgt := 1074) (pc := 330) hx hb dL_law_330 (by decide) (fun _ => ?_) (fun g => absurd rfl g)
  refine W.widen (k := cells + 1) (n := slots + 6) (by omega) (by omega) ?_
  exact kk md fl1 rg f S1 H locs ls hk hc hw hS hl
def PR_work (l : Launch) : Prop := ∀ (a0 : Int32) (a1 : Bool) (a2 : Int32) (a3 : Int32) (a4 : Int32), PRl l yL_work (wsW yL_work cL_work 8 [(0, 15, 18, 13)]) rmL_work yM_work (wsM yM_work cM_work 8 (some .long)) rmM_work [.int a0, .int (bI a1), .int a2, .int a3, .int a4]
set_option maxRecDepth 100000 in
set_option maxHeartbeats 4000000 in
theorem law_work (hp : PR_work l) (hx : p.tables.exec = Jvm.exec) (hb : c.code = code) (hml : c.maxLocals = 8) (hown : s.vm.findClass "FloatUnitLaw" = some m.cls) (hts : ∀ w ∈ (w0 :: bigW), w.before args s = true) (hZ : va_X b L xs s s.heap) (hbl : b < s.heap.size) (hbA : ¬ A b) (hX : XM A s s.heap) (hF : FM ad A s s.heap) (hfr : 11 ≤ R.frames ∧ 444 ≤ R.locals) (hf : cells + 1 ≤ R.cells ∧ slots + 6 ≤ R.slots) (hk : MK md) (hc : CPL md fl rg S) (hw : LWw A D cA cI cL h0 r0 o0 m0 ra rb rc md fl rg f S s H) (hS : va_S A s.heap H locs) (hl : lv_has ls 8 [(4, .int i), (0, .ref b), (1, .ref h0), (2, .ref m0), (3, .ref o0)]) (h_1 : vp_in (i + 1) L) (h_2 : vp_in (i + 2) L) (h_3 : vp_in (i + 3) L) (h_4 : vp_in (i + 4) L) (h_5 : vp_in (i + 5) L) (kk : ∀ (md1 fl1 : Int32) (rg1 f1 : Nat → Int64) (S1 : MS) (H1 : Heap) (locs1 : List Loc) (ls1 : Array Slot), MK md1 → CPL md1 fl1 rg1 S1 → LWw A D cA cI cL h0 r0 o0 m0 ra rb rc md1 fl1 rg1 f1 S1 s H1 → va_S A s.heap H1 locs1 → lv_has ls1 8 [(4, .int i), (0, .ref b), (1, .ref h0), (2, .ref m0), (3, .ref o0)] → W p l e R s m args below meth c H1 locs1 (cells + 1) (slots + 6) Q (F0 m 1074 ls1 [])) : W p l e R s m args below meth c H locs cells slots Q (F0 m 335 ls []) := by
  obtain ⟨r, md1, fl1, rg1, f1, v, S1, hu, hm, he, hv, hk, hc⟩ := hp (xs (i + 1).toNatClampNeg) (decide ((xs (i + 2).toNatClampNeg) ≠ 0)) (xs (i + 3).toNatClampNeg) (xs (i + 4).toNatClampNeg) (xs (i + 5).toNatClampNeg) ad D cA cI cL h0 r0 o0 m0 ra rb rc md fl rg f S hk hc
  refine lv_aload_n (pc := 335) hx hb dL_law_335 rfl (lv_at hl 2 rfl) ?_
  refine lr_read (pc := 336) (v := 1) hx hb hZ hbl hbA hS (lv_at hl 1 rfl) (lv_at hl 0 rfl) dL_law_336 dL_law_337 dL_law_339 dL_law_340 dL_law_341 (by decide) h_1 ?_
  refine lr_read (pc := 342) (v := 2) hx hb hZ hbl hbA hS (lv_at hl 1 rfl) (lv_at hl 0 rfl) dL_law_342 dL_law_343 dL_law_345 dL_law_346 dL_law_347 (by decide) h_2 ?_
  refine lb_bool (pc := 348) hx hb dL_law_348 dL_law_351 dL_law_352 dL_law_355 ?_
  refine lr_read (pc := 356) (v := 3) hx hb hZ hbl hbA hS (lv_at hl 1 rfl) (lv_at hl 0 rfl) dL_law_356 dL_law_357 dL_law_359 dL_law_360 dL_law_361 (by decide) h_3 ?_
  refine lr_read (pc := 362) (v := 4) hx hb hZ hbl hbA hS (lv_at hl 1 rfl) (lv_at hl 0 rfl) dL_law_362 dL_law_363 dL_law_365 dL_law_366 dL_law_367 (by decide) h_4 ?_
  refine lr_read (pc := 368) (v := 5) hx hb hZ hbl hbA hS (lv_at hl 1 rfl) (lv_at hl 0 rfl) dL_law_368 dL_law_369 dL_law_371 dL_law_372 dL_law_373 (by decide) h_5 ?_
  refine lv_aload_n (pc := 374) hx hb dL_law_374 rfl (lv_at hl 4 rfl) ?_
  refine gw_S (pc := 375) (rest := []) ⟨hx, hb, hml, hown, hts⟩ hu (cwL_work hts w_125 ⟨Nat.le_trans (Nat.le_of_ble_eq_true rfl) hfr.1, Nat.le_trans (Nat.le_of_ble_eq_true rfl) hfr.2⟩) hX hF hw hS rfl hl.1 rfl (Nat.le_of_ble_eq_true rfl) dL_law_375 hf (fun H locs hw hS => ?_)
  refine lv_istore (lv' := [(5, .int r), (4, .int i), (0, .ref b), (1, .ref h0), (2, .ref m0), (3, .ref o0)]) (pc := 378) hx hb dL_law_378 hl (by decide) rfl (fun ls hl => ?_)
  refine lv_aload_n (pc := 380) hx hb dL_law_380 rfl (lv_at hl 4 rfl) ?_
  refine lr_read (pc := 381) (v := 1) hx hb hZ hbl hbA hS (lv_at hl 2 rfl) (lv_at hl 1 rfl) dL_law_381 dL_law_382 dL_law_384 dL_law_385 dL_law_386 (by decide) h_1 ?_
  refine lr_read (pc := 387) (v := 2) hx hb hZ hbl hbA hS (lv_at hl 2 rfl) (lv_at hl 1 rfl) dL_law_387 dL_law_388 dL_law_390 dL_law_391 dL_law_392 (by decide) h_2 ?_
  refine lb_bool (pc := 393) hx hb dL_law_393 dL_law_396 dL_law_397 dL_law_400 ?_
  refine lr_read (pc := 401) (v := 3) hx hb hZ hbl hbA hS (lv_at hl 2 rfl) (lv_at hl 1 rfl) dL_law_401 dL_law_402 dL_law_404 dL_law_405 dL_law_406 (by decide) h_3 ?_
  refine lr_read (pc := 407) (v := 4) hx hb hZ hbl hbA hS (lv_at hl 2 rfl) (lv_at hl 1 rfl) dL_law_407 dL_law_408 dL_law_410 dL_law_411 dL_law_412 (by decide) h_4 ?_
  refine lr_read (pc := 413) (v := 5) hx hb hZ hbl hbA hS (lv_at hl 2 rfl) (lv_at hl 1 rfl) dL_law_413 dL_law_414 dL_law_416 dL_law_417 dL_law_418 (by decide) h_5 ?_
  refine gm_V (pc := 419) (rest := []) ⟨hx, hb, hml, hown, hts⟩ hm (cwM_work hts w_433 ⟨Nat.le_trans (Nat.le_of_ble_eq_true rfl) hfr.1, Nat.le_trans (Nat.le_of_ble_eq_true rfl) hfr.2⟩) hw hS rfl hl.1 rfl (Nat.le_of_ble_eq_true rfl) dL_law_419 hf (fun H locs hw hS => ?_)
  refine W.eq (g2 := F0 m 422 ls [.long v]) rfl ?_
  refine lv_lstore (lv' := [(6, .long v), (5, .int r), (4, .int i), (0, .ref b), (1, .ref h0), (2, .ref m0), (3, .ref o0)]) (pc := 422) hx hb dL_law_422 hl (by decide) rfl (fun ls hl => ?_)
  refine lv_aload_n (pc := 424) hx hb dL_law_424 rfl (lv_at hl 5 rfl) ?_
  refine gm_V (pc := 425) (rest := []) ⟨hx, hb, hml, hown, hts⟩ (c_M_thr l D cI cL m0 ra rb rc S1) (cwM_thrown hts w_406 ⟨Nat.le_trans (Nat.le_of_ble_eq_true rfl) hfr.1, Nat.le_trans (Nat.le_of_ble_eq_true rfl) hfr.2⟩) hw hS rfl hl.1 rfl (Nat.le_of_ble_eq_true rfl) dL_law_425 hf (fun H locs hw hS => ?_)
  refine W.eq (g2 := F0 m 428 ls [.int S1.1.2.2.1]) rfl ?_
  refine lv_iload (pc := 428) hx hb dL_law_428 (lv_at hl 1 rfl) ?_
  refine lv_icmp_eq (tgt := 435) (pc := 430) hx hb dL_law_430 (by decide) (fun _ => ?_) (fun g => absurd he g)
  refine lv_iload (pc := 435) hx hb dL_law_435 (lv_at hl 1 rfl) ?_
  have hend : W p l e R s m args below meth c H locs (cells + 1) (slots + 6) Q (F0 m 451 ls []) := by
    refine lv_goto (tgt := 1074) (pc := 451) hx hb dL_law_451 (by decide) ?_
    exact kk md1 fl1 rg1 f1 S1 H locs ls hk hc hw hS (lv_sub hl [2, 3, 4, 5, 6] rfl)
  refine lv_if_ne (tgt := 451) (pc := 437) hx hb dL_law_437 (by decide) (fun _ => hend) (fun g => ?_)
  refine lv_aload_n (pc := 440) hx hb dL_law_440 rfl (lv_at hl 6 rfl) ?_
  refine lv_iconst (v := 0) (pc := 441) hx hb dL_law_441 (by decide) ?_
  refine lw_out (pc := 442) hx hb hw dL_law_442 ?_
  refine lv_lload (pc := 443) hx hb dL_law_443 (lv_at hl 0 rfl) ?_
  refine W.lcmp (pc := 445) hx hb dL_law_445 ?_
  exact lv_if_eq (tgt := 451) (pc := 446) hx hb dL_law_446 (by decide) (fun _ => hend) (fun g2 => absurd ((lg_cmp_eq _ _).2 (hv g)) g2)
def PR_compare (l : Launch) : Prop := ∀ (a0 : Bool) (a1 : Int32) (a2 : Int32) (a3 : Int32), PRi l yL_compare (wsW yL_compare cL_compare 7 [(0, 14, 17, 13)]) rmL_compare yM_compare (wsM yM_compare cM_compare 11 (some .int)) rmM_compare [.int (bI a0), .int a1, .int a2, .int a3]
set_option maxRecDepth 100000 in
set_option maxHeartbeats 4000000 in
theorem law_compare (hp : PR_compare l) (hx : p.tables.exec = Jvm.exec) (hb : c.code = code) (hml : c.maxLocals = 8) (hown : s.vm.findClass "FloatUnitLaw" = some m.cls) (hts : ∀ w ∈ (w0 :: bigW), w.before args s = true) (hZ : va_X b L xs s s.heap) (hbl : b < s.heap.size) (hbA : ¬ A b) (hX : XM A s s.heap) (hF : FM ad A s s.heap) (hfr : 11 ≤ R.frames ∧ 444 ≤ R.locals) (hf : cells + 1 ≤ R.cells ∧ slots + 6 ≤ R.slots) (hk : MK md) (hc : CPL md fl rg S) (hw : LWw A D cA cI cL h0 r0 o0 m0 ra rb rc md fl rg f S s H) (hS : va_S A s.heap H locs) (hl : lv_has ls 8 [(4, .int i), (0, .ref b), (1, .ref h0), (2, .ref m0), (3, .ref o0)]) (h_1 : vp_in (i + 1) L) (h_2 : vp_in (i + 2) L) (h_3 : vp_in (i + 3) L) (h_4 : vp_in (i + 4) L) (h_5 : vp_in (i + 5) L) (kk : ∀ (md1 fl1 : Int32) (rg1 f1 : Nat → Int64) (S1 : MS) (H1 : Heap) (locs1 : List Loc) (ls1 : Array Slot), MK md1 → CPL md1 fl1 rg1 S1 → LWw A D cA cI cL h0 r0 o0 m0 ra rb rc md1 fl1 rg1 f1 S1 s H1 → va_S A s.heap H1 locs1 → lv_has ls1 8 [(4, .int i), (0, .ref b), (1, .ref h0), (2, .ref m0), (3, .ref o0)] → W p l e R s m args below meth c H1 locs1 (cells + 1) (slots + 6) Q (F0 m 1074 ls1 [])) : W p l e R s m args below meth c H locs cells slots Q (F0 m 454 ls []) := by
  obtain ⟨r, md1, fl1, rg1, f1, v, S1, hu, hm, he, hv, hk, hc⟩ := hp (decide ((xs (i + 1).toNatClampNeg) ≠ 0)) (xs (i + 2).toNatClampNeg) (xs (i + 3).toNatClampNeg) (xs (i + 4).toNatClampNeg) ad D cA cI cL h0 r0 o0 m0 ra rb rc md fl rg f S hk hc
  refine lv_aload_n (pc := 454) hx hb dL_law_454 rfl (lv_at hl 2 rfl) ?_
  refine lr_read (pc := 455) (v := 1) hx hb hZ hbl hbA hS (lv_at hl 1 rfl) (lv_at hl 0 rfl) dL_law_455 dL_law_456 dL_law_458 dL_law_459 dL_law_460 (by decide) h_1 ?_
  refine lb_bool (pc := 461) hx hb dL_law_461 dL_law_464 dL_law_465 dL_law_468 ?_
  refine lr_read (pc := 469) (v := 2) hx hb hZ hbl hbA hS (lv_at hl 1 rfl) (lv_at hl 0 rfl) dL_law_469 dL_law_470 dL_law_472 dL_law_473 dL_law_474 (by decide) h_2 ?_
  refine lr_read (pc := 475) (v := 3) hx hb hZ hbl hbA hS (lv_at hl 1 rfl) (lv_at hl 0 rfl) dL_law_475 dL_law_476 dL_law_478 dL_law_479 dL_law_480 (by decide) h_3 ?_
  refine lr_read (pc := 481) (v := 4) hx hb hZ hbl hbA hS (lv_at hl 1 rfl) (lv_at hl 0 rfl) dL_law_481 dL_law_482 dL_law_484 dL_law_485 dL_law_486 (by decide) h_4 ?_
  refine lv_aload_n (pc := 487) hx hb dL_law_487 rfl (lv_at hl 4 rfl) ?_
  refine gw_S (pc := 488) (rest := []) ⟨hx, hb, hml, hown, hts⟩ hu (cwL_compare hts w_279 ⟨Nat.le_trans (Nat.le_of_ble_eq_true rfl) hfr.1, Nat.le_trans (Nat.le_of_ble_eq_true rfl) hfr.2⟩) hX hF hw hS rfl hl.1 rfl (Nat.le_of_ble_eq_true rfl) dL_law_488 hf (fun H locs hw hS => ?_)
  refine lv_istore (lv' := [(5, .int r), (4, .int i), (0, .ref b), (1, .ref h0), (2, .ref m0), (3, .ref o0)]) (pc := 491) hx hb dL_law_491 hl (by decide) rfl (fun ls hl => ?_)
  refine lv_aload_n (pc := 493) hx hb dL_law_493 rfl (lv_at hl 4 rfl) ?_
  refine lr_read (pc := 494) (v := 1) hx hb hZ hbl hbA hS (lv_at hl 2 rfl) (lv_at hl 1 rfl) dL_law_494 dL_law_495 dL_law_497 dL_law_498 dL_law_499 (by decide) h_1 ?_
  refine lb_bool (pc := 500) hx hb dL_law_500 dL_law_503 dL_law_504 dL_law_507 ?_
  refine lr_read (pc := 508) (v := 2) hx hb hZ hbl hbA hS (lv_at hl 2 rfl) (lv_at hl 1 rfl) dL_law_508 dL_law_509 dL_law_511 dL_law_512 dL_law_513 (by decide) h_2 ?_
  refine lr_read (pc := 514) (v := 3) hx hb hZ hbl hbA hS (lv_at hl 2 rfl) (lv_at hl 1 rfl) dL_law_514 dL_law_515 dL_law_517 dL_law_518 dL_law_519 (by decide) h_3 ?_
  refine lr_read (pc := 520) (v := 4) hx hb hZ hbl hbA hS (lv_at hl 2 rfl) (lv_at hl 1 rfl) dL_law_520 dL_law_521 dL_law_523 dL_law_524 dL_law_525 (by decide) h_4 ?_
  refine gm_V (pc := 526) (rest := []) ⟨hx, hb, hml, hown, hts⟩ hm (cwM_compare hts w_498 ⟨Nat.le_trans (Nat.le_of_ble_eq_true rfl) hfr.1, Nat.le_trans (Nat.le_of_ble_eq_true rfl) hfr.2⟩) hw hS rfl hl.1 rfl (Nat.le_of_ble_eq_true rfl) dL_law_526 hf (fun H locs hw hS => ?_)
  refine W.eq (g2 := F0 m 529 ls [.int v]) rfl ?_
  refine lv_istore (lv' := [(6, .int v), (5, .int r), (4, .int i), (0, .ref b), (1, .ref h0), (2, .ref m0), (3, .ref o0)]) (pc := 529) hx hb dL_law_529 hl (by decide) rfl (fun ls hl => ?_)
  refine lv_aload_n (pc := 531) hx hb dL_law_531 rfl (lv_at hl 5 rfl) ?_
  refine gm_V (pc := 532) (rest := []) ⟨hx, hb, hml, hown, hts⟩ (c_M_thr l D cI cL m0 ra rb rc S1) (cwM_thrown hts w_406 ⟨Nat.le_trans (Nat.le_of_ble_eq_true rfl) hfr.1, Nat.le_trans (Nat.le_of_ble_eq_true rfl) hfr.2⟩) hw hS rfl hl.1 rfl (Nat.le_of_ble_eq_true rfl) dL_law_532 hf (fun H locs hw hS => ?_)
  refine W.eq (g2 := F0 m 535 ls [.int S1.1.2.2.1]) rfl ?_
  refine lv_iload (pc := 535) hx hb dL_law_535 (lv_at hl 1 rfl) ?_
  refine lv_icmp_eq (tgt := 542) (pc := 537) hx hb dL_law_537 (by decide) (fun _ => ?_) (fun g => absurd he g)
  refine lv_iload (pc := 542) hx hb dL_law_542 (lv_at hl 1 rfl) ?_
  have hend : W p l e R s m args below meth c H locs (cells + 1) (slots + 6) Q (F0 m 559 ls []) := by
    refine lv_goto (tgt := 1074) (pc := 559) hx hb dL_law_559 (by decide) ?_
    exact kk md1 fl1 rg1 f1 S1 H locs ls hk hc hw hS (lv_sub hl [2, 3, 4, 5, 6] rfl)
  refine lv_if_ne (tgt := 559) (pc := 544) hx hb dL_law_544 (by decide) (fun _ => hend) (fun g => ?_)
  refine lv_aload_n (pc := 547) hx hb dL_law_547 rfl (lv_at hl 6 rfl) ?_
  refine lv_iconst (v := 0) (pc := 548) hx hb dL_law_548 (by decide) ?_
  refine lw_out (pc := 549) hx hb hw dL_law_549 ?_
  refine lv_iload (pc := 550) hx hb dL_law_550 (lv_at hl 0 rfl) ?_
  refine lv_i2l (v := v.toInt64) (pc := 552) hx hb dL_law_552 rfl ?_
  refine W.lcmp (pc := 553) hx hb dL_law_553 ?_
  exact lv_if_eq (tgt := 559) (pc := 554) hx hb dL_law_554 (by decide) (fun _ => hend) (fun g2 => absurd ((lg_cmp_eq _ _).2 (hv g)) g2)
def PR_of (l : Launch) : Prop := ∀ (a0 : Bool) (a1 : Int32) (a2 : Int64), PRl l yL_of (wsW yL_of cL_of 7 [(0, 11, 14, 13)]) rmL_of yM_of (wsM yM_of cM_of 7 (some .long)) rmM_of [.int (bI a0), .int a1, .long a2]
set_option maxRecDepth 100000 in
set_option maxHeartbeats 4000000 in
theorem law_of (hp : PR_of l) (hx : p.tables.exec = Jvm.exec) (hb : c.code = code) (hml : c.maxLocals = 8) (hown : s.vm.findClass "FloatUnitLaw" = some m.cls) (hts : ∀ w ∈ (w0 :: bigW), w.before args s = true) (hZ : va_X b L xs s s.heap) (hbl : b < s.heap.size) (hbA : ¬ A b) (hX : XM A s s.heap) (hF : FM ad A s s.heap) (hfr : 11 ≤ R.frames ∧ 444 ≤ R.locals) (hf : cells + 1 ≤ R.cells ∧ slots + 6 ≤ R.slots) (hk : MK md) (hc : CPL md fl rg S) (hw : LWw A D cA cI cL h0 r0 o0 m0 ra rb rc md fl rg f S s H) (hS : va_S A s.heap H locs) (hl : lv_has ls 8 [(4, .int i), (0, .ref b), (1, .ref h0), (2, .ref m0), (3, .ref o0)]) (h_1 : vp_in (i + 1) L) (h_2 : vp_in (i + 2) L) (h_3 : vp_in (i + 3) L) (h_4 : vp_in (i + 4) L) (h_5 : vp_in (i + 5) L) (kk : ∀ (md1 fl1 : Int32) (rg1 f1 : Nat → Int64) (S1 : MS) (H1 : Heap) (locs1 : List Loc) (ls1 : Array Slot), MK md1 → CPL md1 fl1 rg1 S1 → LWw A D cA cI cL h0 r0 o0 m0 ra rb rc md1 fl1 rg1 f1 S1 s H1 → va_S A s.heap H1 locs1 → lv_has ls1 8 [(4, .int i), (0, .ref b), (1, .ref h0), (2, .ref m0), (3, .ref o0)] → W p l e R s m args below meth c H1 locs1 (cells + 1) (slots + 6) Q (F0 m 1074 ls1 [])) : W p l e R s m args below meth c H locs cells slots Q (F0 m 562 ls []) := by
  obtain ⟨r, md1, fl1, rg1, f1, v, S1, hu, hm, he, hv, hk, hc⟩ := hp (decide ((xs (i + 1).toNatClampNeg) ≠ 0)) (xs (i + 2).toNatClampNeg) (lawL (xs (i + 3).toNatClampNeg) (xs (i + 4).toNatClampNeg)) ad D cA cI cL h0 r0 o0 m0 ra rb rc md fl rg f S hk hc
  refine lv_aload_n (pc := 562) hx hb dL_law_562 rfl (lv_at hl 2 rfl) ?_
  refine lr_read (pc := 563) (v := 1) hx hb hZ hbl hbA hS (lv_at hl 1 rfl) (lv_at hl 0 rfl) dL_law_563 dL_law_564 dL_law_566 dL_law_567 dL_law_568 (by decide) h_1 ?_
  refine lb_bool (pc := 569) hx hb dL_law_569 dL_law_572 dL_law_573 dL_law_576 ?_
  refine lr_read (pc := 577) (v := 2) hx hb hZ hbl hbA hS (lv_at hl 1 rfl) (lv_at hl 0 rfl) dL_law_577 dL_law_578 dL_law_580 dL_law_581 dL_law_582 (by decide) h_2 ?_
  refine lr_read (pc := 583) (v := 3) hx hb hZ hbl hbA hS (lv_at hl 1 rfl) (lv_at hl 0 rfl) dL_law_583 dL_law_584 dL_law_586 dL_law_587 dL_law_588 (by decide) h_3 ?_
  refine lv_i2l (v := (xs (i + 3).toNatClampNeg).toInt64) (pc := 589) hx hb dL_law_589 rfl ?_
  refine lv_bipush (v := 32) (pc := 590) hx hb dL_law_590 (by decide) ?_
  refine lv_lshl (pc := 592) hx hb dL_law_592 rfl ?_
  refine lr_read (pc := 593) (v := 4) hx hb hZ hbl hbA hS (lv_at hl 1 rfl) (lv_at hl 0 rfl) dL_law_593 dL_law_594 dL_law_596 dL_law_597 dL_law_598 (by decide) h_4 ?_
  refine lv_i2l (v := (xs (i + 4).toNatClampNeg).toInt64) (pc := 599) hx hb dL_law_599 rfl ?_
  refine lv_ldc2 (v := 4294967295) (pc := 600) hx hb hown (hts _ (List.mem_cons_of_mem _ w_527)) dL_law_600 ?_
  refine lv_land (pc := 603) hx hb dL_law_603 ?_
  refine lv_lor (pc := 604) hx hb dL_law_604 ?_
  refine lv_aload_n (pc := 605) hx hb dL_law_605 rfl (lv_at hl 4 rfl) ?_
  refine gw_S (pc := 606) (rest := []) ⟨hx, hb, hml, hown, hts⟩ hu (cwL_of hts w_291 ⟨Nat.le_trans (Nat.le_of_ble_eq_true rfl) hfr.1, Nat.le_trans (Nat.le_of_ble_eq_true rfl) hfr.2⟩) hX hF hw hS rfl hl.1 rfl (Nat.le_of_ble_eq_true rfl) dL_law_606 hf (fun H locs hw hS => ?_)
  refine lv_istore (lv' := [(5, .int r), (4, .int i), (0, .ref b), (1, .ref h0), (2, .ref m0), (3, .ref o0)]) (pc := 609) hx hb dL_law_609 hl (by decide) rfl (fun ls hl => ?_)
  refine lv_aload_n (pc := 611) hx hb dL_law_611 rfl (lv_at hl 4 rfl) ?_
  refine lr_read (pc := 612) (v := 1) hx hb hZ hbl hbA hS (lv_at hl 2 rfl) (lv_at hl 1 rfl) dL_law_612 dL_law_613 dL_law_615 dL_law_616 dL_law_617 (by decide) h_1 ?_
  refine lb_bool (pc := 618) hx hb dL_law_618 dL_law_621 dL_law_622 dL_law_625 ?_
  refine lr_read (pc := 626) (v := 2) hx hb hZ hbl hbA hS (lv_at hl 2 rfl) (lv_at hl 1 rfl) dL_law_626 dL_law_627 dL_law_629 dL_law_630 dL_law_631 (by decide) h_2 ?_
  refine lr_read (pc := 632) (v := 3) hx hb hZ hbl hbA hS (lv_at hl 2 rfl) (lv_at hl 1 rfl) dL_law_632 dL_law_633 dL_law_635 dL_law_636 dL_law_637 (by decide) h_3 ?_
  refine lv_i2l (v := (xs (i + 3).toNatClampNeg).toInt64) (pc := 638) hx hb dL_law_638 rfl ?_
  refine lv_bipush (v := 32) (pc := 639) hx hb dL_law_639 (by decide) ?_
  refine lv_lshl (pc := 641) hx hb dL_law_641 rfl ?_
  refine lr_read (pc := 642) (v := 4) hx hb hZ hbl hbA hS (lv_at hl 2 rfl) (lv_at hl 1 rfl) dL_law_642 dL_law_643 dL_law_645 dL_law_646 dL_law_647 (by decide) h_4 ?_
  refine lv_i2l (v := (xs (i + 4).toNatClampNeg).toInt64) (pc := 648) hx hb dL_law_648 rfl ?_
  refine lv_ldc2 (v := 4294967295) (pc := 649) hx hb hown (hts _ (List.mem_cons_of_mem _ w_527)) dL_law_649 ?_
  refine lv_land (pc := 652) hx hb dL_law_652 ?_
  refine lv_lor (pc := 653) hx hb dL_law_653 ?_
  refine gm_V (pc := 654) (rest := []) ⟨hx, hb, hml, hown, hts⟩ hm (cwM_of hts w_505 ⟨Nat.le_trans (Nat.le_of_ble_eq_true rfl) hfr.1, Nat.le_trans (Nat.le_of_ble_eq_true rfl) hfr.2⟩) hw hS rfl hl.1 rfl (Nat.le_of_ble_eq_true rfl) dL_law_654 hf (fun H locs hw hS => ?_)
  refine W.eq (g2 := F0 m 657 ls [.long v]) rfl ?_
  refine lv_lstore (lv' := [(6, .long v), (5, .int r), (4, .int i), (0, .ref b), (1, .ref h0), (2, .ref m0), (3, .ref o0)]) (pc := 657) hx hb dL_law_657 hl (by decide) rfl (fun ls hl => ?_)
  refine lv_aload_n (pc := 659) hx hb dL_law_659 rfl (lv_at hl 5 rfl) ?_
  refine gm_V (pc := 660) (rest := []) ⟨hx, hb, hml, hown, hts⟩ (c_M_thr l D cI cL m0 ra rb rc S1) (cwM_thrown hts w_406 ⟨Nat.le_trans (Nat.le_of_ble_eq_true rfl) hfr.1, Nat.le_trans (Nat.le_of_ble_eq_true rfl) hfr.2⟩) hw hS rfl hl.1 rfl (Nat.le_of_ble_eq_true rfl) dL_law_660 hf (fun H locs hw hS => ?_)
  refine W.eq (g2 := F0 m 663 ls [.int S1.1.2.2.1]) rfl ?_
  refine lv_iload (pc := 663) hx hb dL_law_663 (lv_at hl 1 rfl) ?_
  refine lv_icmp_eq (tgt := 670) (pc := 665) hx hb dL_law_665 (by decide) (fun _ => ?_) (fun g => absurd he g)
  refine lv_iload (pc := 670) hx hb dL_law_670 (lv_at hl 1 rfl) ?_
  have hend : W p l e R s m args below meth c H locs (cells + 1) (slots + 6) Q (F0 m 686 ls []) := by
    refine lv_goto (tgt := 1074) (pc := 686) hx hb dL_law_686 (by decide) ?_
    exact kk md1 fl1 rg1 f1 S1 H locs ls hk hc hw hS (lv_sub hl [2, 3, 4, 5, 6] rfl)
  refine lv_if_ne (tgt := 686) (pc := 672) hx hb dL_law_672 (by decide) (fun _ => hend) (fun g => ?_)
  refine lv_aload_n (pc := 675) hx hb dL_law_675 rfl (lv_at hl 6 rfl) ?_
  refine lv_iconst (v := 0) (pc := 676) hx hb dL_law_676 (by decide) ?_
  refine lw_out (pc := 677) hx hb hw dL_law_677 ?_
  refine lv_lload (pc := 678) hx hb dL_law_678 (lv_at hl 0 rfl) ?_
  refine W.lcmp (pc := 680) hx hb dL_law_680 ?_
  exact lv_if_eq (tgt := 686) (pc := 681) hx hb dL_law_681 (by decide) (fun _ => hend) (fun g2 => absurd ((lg_cmp_eq _ _).2 (hv g)) g2)
def PR_whole (l : Launch) : Prop := ∀ (a0 : Bool) (a1 : Int32) (a2 : Bool), PRl l yL_whole (wsW yL_whole cL_whole 6 [(0, 11, 14, 13)]) rmL_whole yM_whole (wsM yM_whole cM_whole 15 (some .long)) rmM_whole [.int (bI a0), .int a1, .int (bI a2)]
set_option maxRecDepth 100000 in
set_option maxHeartbeats 4000000 in
theorem law_whole (hp : PR_whole l) (hx : p.tables.exec = Jvm.exec) (hb : c.code = code) (hml : c.maxLocals = 8) (hown : s.vm.findClass "FloatUnitLaw" = some m.cls) (hts : ∀ w ∈ (w0 :: bigW), w.before args s = true) (hZ : va_X b L xs s s.heap) (hbl : b < s.heap.size) (hbA : ¬ A b) (hX : XM A s s.heap) (hF : FM ad A s s.heap) (hfr : 11 ≤ R.frames ∧ 444 ≤ R.locals) (hf : cells + 1 ≤ R.cells ∧ slots + 6 ≤ R.slots) (hk : MK md) (hc : CPL md fl rg S) (hw : LWw A D cA cI cL h0 r0 o0 m0 ra rb rc md fl rg f S s H) (hS : va_S A s.heap H locs) (hl : lv_has ls 8 [(4, .int i), (0, .ref b), (1, .ref h0), (2, .ref m0), (3, .ref o0)]) (h_1 : vp_in (i + 1) L) (h_2 : vp_in (i + 2) L) (h_3 : vp_in (i + 3) L) (h_4 : vp_in (i + 4) L) (h_5 : vp_in (i + 5) L) (kk : ∀ (md1 fl1 : Int32) (rg1 f1 : Nat → Int64) (S1 : MS) (H1 : Heap) (locs1 : List Loc) (ls1 : Array Slot), MK md1 → CPL md1 fl1 rg1 S1 → LWw A D cA cI cL h0 r0 o0 m0 ra rb rc md1 fl1 rg1 f1 S1 s H1 → va_S A s.heap H1 locs1 → lv_has ls1 8 [(4, .int i), (0, .ref b), (1, .ref h0), (2, .ref m0), (3, .ref o0)] → W p l e R s m args below meth c H1 locs1 (cells + 1) (slots + 6) Q (F0 m 1074 ls1 [])) : W p l e R s m args below meth c H locs cells slots Q (F0 m 689 ls []) := by
  obtain ⟨r, md1, fl1, rg1, f1, v, S1, hu, hm, he, hv, hk, hc⟩ := hp (decide ((xs (i + 1).toNatClampNeg) ≠ 0)) (xs (i + 2).toNatClampNeg) (decide ((xs (i + 3).toNatClampNeg) ≠ 0)) ad D cA cI cL h0 r0 o0 m0 ra rb rc md fl rg f S hk hc
  refine lv_aload_n (pc := 689) hx hb dL_law_689 rfl (lv_at hl 2 rfl) ?_
  refine lr_read (pc := 690) (v := 1) hx hb hZ hbl hbA hS (lv_at hl 1 rfl) (lv_at hl 0 rfl) dL_law_690 dL_law_691 dL_law_693 dL_law_694 dL_law_695 (by decide) h_1 ?_
  refine lb_bool (pc := 696) hx hb dL_law_696 dL_law_699 dL_law_700 dL_law_703 ?_
  refine lr_read (pc := 704) (v := 2) hx hb hZ hbl hbA hS (lv_at hl 1 rfl) (lv_at hl 0 rfl) dL_law_704 dL_law_705 dL_law_707 dL_law_708 dL_law_709 (by decide) h_2 ?_
  refine lr_read (pc := 710) (v := 3) hx hb hZ hbl hbA hS (lv_at hl 1 rfl) (lv_at hl 0 rfl) dL_law_710 dL_law_711 dL_law_713 dL_law_714 dL_law_715 (by decide) h_3 ?_
  refine lb_bool (pc := 716) hx hb dL_law_716 dL_law_719 dL_law_720 dL_law_723 ?_
  refine lv_aload_n (pc := 724) hx hb dL_law_724 rfl (lv_at hl 4 rfl) ?_
  refine gw_S (pc := 725) (rest := []) ⟨hx, hb, hml, hown, hts⟩ hu (cwL_whole hts w_298 ⟨Nat.le_trans (Nat.le_of_ble_eq_true rfl) hfr.1, Nat.le_trans (Nat.le_of_ble_eq_true rfl) hfr.2⟩) hX hF hw hS rfl hl.1 rfl (Nat.le_of_ble_eq_true rfl) dL_law_725 hf (fun H locs hw hS => ?_)
  refine lv_istore (lv' := [(5, .int r), (4, .int i), (0, .ref b), (1, .ref h0), (2, .ref m0), (3, .ref o0)]) (pc := 728) hx hb dL_law_728 hl (by decide) rfl (fun ls hl => ?_)
  refine lv_aload_n (pc := 730) hx hb dL_law_730 rfl (lv_at hl 4 rfl) ?_
  refine lr_read (pc := 731) (v := 1) hx hb hZ hbl hbA hS (lv_at hl 2 rfl) (lv_at hl 1 rfl) dL_law_731 dL_law_732 dL_law_734 dL_law_735 dL_law_736 (by decide) h_1 ?_
  refine lb_bool (pc := 737) hx hb dL_law_737 dL_law_740 dL_law_741 dL_law_744 ?_
  refine lr_read (pc := 745) (v := 2) hx hb hZ hbl hbA hS (lv_at hl 2 rfl) (lv_at hl 1 rfl) dL_law_745 dL_law_746 dL_law_748 dL_law_749 dL_law_750 (by decide) h_2 ?_
  refine lr_read (pc := 751) (v := 3) hx hb hZ hbl hbA hS (lv_at hl 2 rfl) (lv_at hl 1 rfl) dL_law_751 dL_law_752 dL_law_754 dL_law_755 dL_law_756 (by decide) h_3 ?_
  refine lb_bool (pc := 757) hx hb dL_law_757 dL_law_760 dL_law_761 dL_law_764 ?_
  refine gm_V (pc := 765) (rest := []) ⟨hx, hb, hml, hown, hts⟩ hm (cwM_whole hts w_509 ⟨Nat.le_trans (Nat.le_of_ble_eq_true rfl) hfr.1, Nat.le_trans (Nat.le_of_ble_eq_true rfl) hfr.2⟩) hw hS rfl hl.1 rfl (Nat.le_of_ble_eq_true rfl) dL_law_765 hf (fun H locs hw hS => ?_)
  refine W.eq (g2 := F0 m 768 ls [.long v]) rfl ?_
  refine lv_lstore (lv' := [(6, .long v), (5, .int r), (4, .int i), (0, .ref b), (1, .ref h0), (2, .ref m0), (3, .ref o0)]) (pc := 768) hx hb dL_law_768 hl (by decide) rfl (fun ls hl => ?_)
  refine lv_aload_n (pc := 770) hx hb dL_law_770 rfl (lv_at hl 5 rfl) ?_
  refine gm_V (pc := 771) (rest := []) ⟨hx, hb, hml, hown, hts⟩ (c_M_thr l D cI cL m0 ra rb rc S1) (cwM_thrown hts w_406 ⟨Nat.le_trans (Nat.le_of_ble_eq_true rfl) hfr.1, Nat.le_trans (Nat.le_of_ble_eq_true rfl) hfr.2⟩) hw hS rfl hl.1 rfl (Nat.le_of_ble_eq_true rfl) dL_law_771 hf (fun H locs hw hS => ?_)
  refine W.eq (g2 := F0 m 774 ls [.int S1.1.2.2.1]) rfl ?_
  refine lv_iload (pc := 774) hx hb dL_law_774 (lv_at hl 1 rfl) ?_
  refine lv_icmp_eq (tgt := 781) (pc := 776) hx hb dL_law_776 (by decide) (fun _ => ?_) (fun g => absurd he g)
  refine lv_iload (pc := 781) hx hb dL_law_781 (lv_at hl 1 rfl) ?_
  have hend : W p l e R s m args below meth c H locs (cells + 1) (slots + 6) Q (F0 m 797 ls []) := by
    refine lv_goto (tgt := 1074) (pc := 797) hx hb dL_law_797 (by decide) ?_
    exact kk md1 fl1 rg1 f1 S1 H locs ls hk hc hw hS (lv_sub hl [2, 3, 4, 5, 6] rfl)
  refine lv_if_ne (tgt := 797) (pc := 783) hx hb dL_law_783 (by decide) (fun _ => hend) (fun g => ?_)
  refine lv_aload_n (pc := 786) hx hb dL_law_786 rfl (lv_at hl 6 rfl) ?_
  refine lv_iconst (v := 0) (pc := 787) hx hb dL_law_787 (by decide) ?_
  refine lw_out (pc := 788) hx hb hw dL_law_788 ?_
  refine lv_lload (pc := 789) hx hb dL_law_789 (lv_at hl 0 rfl) ?_
  refine W.lcmp (pc := 791) hx hb dL_law_791 ?_
  exact lv_if_eq (tgt := 797) (pc := 792) hx hb dL_law_792 (by decide) (fun _ => hend) (fun g2 => absurd ((lg_cmp_eq _ _).2 (hv g)) g2)
def PR_turn (l : Launch) : Prop := ∀ (a0 : Bool) (a1 : Int32) (a2 : Int32), PRl l yL_turn (wsW yL_turn cL_turn 6 [(0, 11, 14, 13)]) rmL_turn yM_turn (wsM yM_turn cM_turn 6 (some .long)) rmM_turn [.int (bI a0), .int a1, .int a2]
set_option maxRecDepth 100000 in
set_option maxHeartbeats 4000000 in
theorem law_turn (hp : PR_turn l) (hx : p.tables.exec = Jvm.exec) (hb : c.code = code) (hml : c.maxLocals = 8) (hown : s.vm.findClass "FloatUnitLaw" = some m.cls) (hts : ∀ w ∈ (w0 :: bigW), w.before args s = true) (hZ : va_X b L xs s s.heap) (hbl : b < s.heap.size) (hbA : ¬ A b) (hX : XM A s s.heap) (hF : FM ad A s s.heap) (hfr : 11 ≤ R.frames ∧ 444 ≤ R.locals) (hf : cells + 1 ≤ R.cells ∧ slots + 6 ≤ R.slots) (hk : MK md) (hc : CPL md fl rg S) (hw : LWw A D cA cI cL h0 r0 o0 m0 ra rb rc md fl rg f S s H) (hS : va_S A s.heap H locs) (hl : lv_has ls 8 [(4, .int i), (0, .ref b), (1, .ref h0), (2, .ref m0), (3, .ref o0)]) (h_1 : vp_in (i + 1) L) (h_2 : vp_in (i + 2) L) (h_3 : vp_in (i + 3) L) (h_4 : vp_in (i + 4) L) (h_5 : vp_in (i + 5) L) (kk : ∀ (md1 fl1 : Int32) (rg1 f1 : Nat → Int64) (S1 : MS) (H1 : Heap) (locs1 : List Loc) (ls1 : Array Slot), MK md1 → CPL md1 fl1 rg1 S1 → LWw A D cA cI cL h0 r0 o0 m0 ra rb rc md1 fl1 rg1 f1 S1 s H1 → va_S A s.heap H1 locs1 → lv_has ls1 8 [(4, .int i), (0, .ref b), (1, .ref h0), (2, .ref m0), (3, .ref o0)] → W p l e R s m args below meth c H1 locs1 (cells + 1) (slots + 6) Q (F0 m 1074 ls1 [])) : W p l e R s m args below meth c H locs cells slots Q (F0 m 800 ls []) := by
  obtain ⟨r, md1, fl1, rg1, f1, v, S1, hu, hm, he, hv, hk, hc⟩ := hp (decide ((xs (i + 1).toNatClampNeg) ≠ 0)) (xs (i + 2).toNatClampNeg) (xs (i + 3).toNatClampNeg) ad D cA cI cL h0 r0 o0 m0 ra rb rc md fl rg f S hk hc
  refine lv_aload_n (pc := 800) hx hb dL_law_800 rfl (lv_at hl 2 rfl) ?_
  refine lr_read (pc := 801) (v := 1) hx hb hZ hbl hbA hS (lv_at hl 1 rfl) (lv_at hl 0 rfl) dL_law_801 dL_law_802 dL_law_804 dL_law_805 dL_law_806 (by decide) h_1 ?_
  refine lb_bool (pc := 807) hx hb dL_law_807 dL_law_810 dL_law_811 dL_law_814 ?_
  refine lr_read (pc := 815) (v := 2) hx hb hZ hbl hbA hS (lv_at hl 1 rfl) (lv_at hl 0 rfl) dL_law_815 dL_law_816 dL_law_818 dL_law_819 dL_law_820 (by decide) h_2 ?_
  refine lr_read (pc := 821) (v := 3) hx hb hZ hbl hbA hS (lv_at hl 1 rfl) (lv_at hl 0 rfl) dL_law_821 dL_law_822 dL_law_824 dL_law_825 dL_law_826 (by decide) h_3 ?_
  refine lv_aload_n (pc := 827) hx hb dL_law_827 rfl (lv_at hl 4 rfl) ?_
  refine gw_S (pc := 828) (rest := []) ⟨hx, hb, hml, hown, hts⟩ hu (cwL_turn hts w_318 ⟨Nat.le_trans (Nat.le_of_ble_eq_true rfl) hfr.1, Nat.le_trans (Nat.le_of_ble_eq_true rfl) hfr.2⟩) hX hF hw hS rfl hl.1 rfl (Nat.le_of_ble_eq_true rfl) dL_law_828 hf (fun H locs hw hS => ?_)
  refine lv_istore (lv' := [(5, .int r), (4, .int i), (0, .ref b), (1, .ref h0), (2, .ref m0), (3, .ref o0)]) (pc := 831) hx hb dL_law_831 hl (by decide) rfl (fun ls hl => ?_)
  refine lv_aload_n (pc := 833) hx hb dL_law_833 rfl (lv_at hl 4 rfl) ?_
  refine lr_read (pc := 834) (v := 1) hx hb hZ hbl hbA hS (lv_at hl 2 rfl) (lv_at hl 1 rfl) dL_law_834 dL_law_835 dL_law_837 dL_law_838 dL_law_839 (by decide) h_1 ?_
  refine lb_bool (pc := 840) hx hb dL_law_840 dL_law_843 dL_law_844 dL_law_847 ?_
  refine lr_read (pc := 848) (v := 2) hx hb hZ hbl hbA hS (lv_at hl 2 rfl) (lv_at hl 1 rfl) dL_law_848 dL_law_849 dL_law_851 dL_law_852 dL_law_853 (by decide) h_2 ?_
  refine lr_read (pc := 854) (v := 3) hx hb hZ hbl hbA hS (lv_at hl 2 rfl) (lv_at hl 1 rfl) dL_law_854 dL_law_855 dL_law_857 dL_law_858 dL_law_859 (by decide) h_3 ?_
  refine gm_V (pc := 860) (rest := []) ⟨hx, hb, hml, hown, hts⟩ hm (cwM_turn hts w_515 ⟨Nat.le_trans (Nat.le_of_ble_eq_true rfl) hfr.1, Nat.le_trans (Nat.le_of_ble_eq_true rfl) hfr.2⟩) hw hS rfl hl.1 rfl (Nat.le_of_ble_eq_true rfl) dL_law_860 hf (fun H locs hw hS => ?_)
  refine W.eq (g2 := F0 m 863 ls [.long v]) rfl ?_
  refine lv_lstore (lv' := [(6, .long v), (5, .int r), (4, .int i), (0, .ref b), (1, .ref h0), (2, .ref m0), (3, .ref o0)]) (pc := 863) hx hb dL_law_863 hl (by decide) rfl (fun ls hl => ?_)
  refine lv_aload_n (pc := 865) hx hb dL_law_865 rfl (lv_at hl 5 rfl) ?_
  refine gm_V (pc := 866) (rest := []) ⟨hx, hb, hml, hown, hts⟩ (c_M_thr l D cI cL m0 ra rb rc S1) (cwM_thrown hts w_406 ⟨Nat.le_trans (Nat.le_of_ble_eq_true rfl) hfr.1, Nat.le_trans (Nat.le_of_ble_eq_true rfl) hfr.2⟩) hw hS rfl hl.1 rfl (Nat.le_of_ble_eq_true rfl) dL_law_866 hf (fun H locs hw hS => ?_)
  refine W.eq (g2 := F0 m 869 ls [.int S1.1.2.2.1]) rfl ?_
  refine lv_iload (pc := 869) hx hb dL_law_869 (lv_at hl 1 rfl) ?_
  refine lv_icmp_eq (tgt := 876) (pc := 871) hx hb dL_law_871 (by decide) (fun _ => ?_) (fun g => absurd he g)
  refine lv_iload (pc := 876) hx hb dL_law_876 (lv_at hl 1 rfl) ?_
  have hend : W p l e R s m args below meth c H locs (cells + 1) (slots + 6) Q (F0 m 892 ls []) := by
    refine lv_goto (tgt := 1074) (pc := 892) hx hb dL_law_892 (by decide) ?_
    exact kk md1 fl1 rg1 f1 S1 H locs ls hk hc hw hS (lv_sub hl [2, 3, 4, 5, 6] rfl)
  refine lv_if_ne (tgt := 892) (pc := 878) hx hb dL_law_878 (by decide) (fun _ => hend) (fun g => ?_)
  refine lv_aload_n (pc := 881) hx hb dL_law_881 rfl (lv_at hl 6 rfl) ?_
  refine lv_iconst (v := 0) (pc := 882) hx hb dL_law_882 (by decide) ?_
  refine lw_out (pc := 883) hx hb hw dL_law_883 ?_
  refine lv_lload (pc := 884) hx hb dL_law_884 (lv_at hl 0 rfl) ?_
  refine W.lcmp (pc := 886) hx hb dL_law_886 ?_
  exact lv_if_eq (tgt := 892) (pc := 887) hx hb dL_law_887 (by decide) (fun _ => hend) (fun g2 => absurd ((lg_cmp_eq _ _).2 (hv g)) g2)
def PR_kind (l : Launch) : Prop := ∀ (a0 : Bool) (a1 : Int32), PRi l yL_kind (wsW yL_kind cL_kind 5 [(0, 10, 13, 13)]) rmL_kind yM_kind (wsM yM_kind cM_kind 4 (some .int)) rmM_kind [.int (bI a0), .int a1]
set_option maxRecDepth 100000 in
set_option maxHeartbeats 4000000 in
theorem law_kind (hp : PR_kind l) (hx : p.tables.exec = Jvm.exec) (hb : c.code = code) (hml : c.maxLocals = 8) (hown : s.vm.findClass "FloatUnitLaw" = some m.cls) (hts : ∀ w ∈ (w0 :: bigW), w.before args s = true) (hZ : va_X b L xs s s.heap) (hbl : b < s.heap.size) (hbA : ¬ A b) (hX : XM A s s.heap) (hF : FM ad A s s.heap) (hfr : 11 ≤ R.frames ∧ 444 ≤ R.locals) (hf : cells + 1 ≤ R.cells ∧ slots + 6 ≤ R.slots) (hk : MK md) (hc : CPL md fl rg S) (hw : LWw A D cA cI cL h0 r0 o0 m0 ra rb rc md fl rg f S s H) (hS : va_S A s.heap H locs) (hl : lv_has ls 8 [(4, .int i), (0, .ref b), (1, .ref h0), (2, .ref m0), (3, .ref o0)]) (h_1 : vp_in (i + 1) L) (h_2 : vp_in (i + 2) L) (h_3 : vp_in (i + 3) L) (h_4 : vp_in (i + 4) L) (h_5 : vp_in (i + 5) L) (kk : ∀ (md1 fl1 : Int32) (rg1 f1 : Nat → Int64) (S1 : MS) (H1 : Heap) (locs1 : List Loc) (ls1 : Array Slot), MK md1 → CPL md1 fl1 rg1 S1 → LWw A D cA cI cL h0 r0 o0 m0 ra rb rc md1 fl1 rg1 f1 S1 s H1 → va_S A s.heap H1 locs1 → lv_has ls1 8 [(4, .int i), (0, .ref b), (1, .ref h0), (2, .ref m0), (3, .ref o0)] → W p l e R s m args below meth c H1 locs1 (cells + 1) (slots + 6) Q (F0 m 1074 ls1 [])) : W p l e R s m args below meth c H locs cells slots Q (F0 m 895 ls []) := by
  obtain ⟨r, md1, fl1, rg1, f1, v, S1, hu, hm, he, hv, hk, hc⟩ := hp (decide ((xs (i + 1).toNatClampNeg) ≠ 0)) (xs (i + 2).toNatClampNeg) ad D cA cI cL h0 r0 o0 m0 ra rb rc md fl rg f S hk hc
  refine lv_aload_n (pc := 895) hx hb dL_law_895 rfl (lv_at hl 2 rfl) ?_
  refine lr_read (pc := 896) (v := 1) hx hb hZ hbl hbA hS (lv_at hl 1 rfl) (lv_at hl 0 rfl) dL_law_896 dL_law_897 dL_law_899 dL_law_900 dL_law_901 (by decide) h_1 ?_
  refine lb_bool (pc := 902) hx hb dL_law_902 dL_law_905 dL_law_906 dL_law_909 ?_
  refine lr_read (pc := 910) (v := 2) hx hb hZ hbl hbA hS (lv_at hl 1 rfl) (lv_at hl 0 rfl) dL_law_910 dL_law_911 dL_law_913 dL_law_914 dL_law_915 (by decide) h_2 ?_
  refine lv_aload_n (pc := 916) hx hb dL_law_916 rfl (lv_at hl 4 rfl) ?_
  refine gw_S (pc := 917) (rest := []) ⟨hx, hb, hml, hown, hts⟩ hu (cwL_kind hts w_329 ⟨Nat.le_trans (Nat.le_of_ble_eq_true rfl) hfr.1, Nat.le_trans (Nat.le_of_ble_eq_true rfl) hfr.2⟩) hX hF hw hS rfl hl.1 rfl (Nat.le_of_ble_eq_true rfl) dL_law_917 hf (fun H locs hw hS => ?_)
  refine lv_istore (lv' := [(5, .int r), (4, .int i), (0, .ref b), (1, .ref h0), (2, .ref m0), (3, .ref o0)]) (pc := 920) hx hb dL_law_920 hl (by decide) rfl (fun ls hl => ?_)
  refine lv_aload_n (pc := 922) hx hb dL_law_922 rfl (lv_at hl 4 rfl) ?_
  refine lr_read (pc := 923) (v := 1) hx hb hZ hbl hbA hS (lv_at hl 2 rfl) (lv_at hl 1 rfl) dL_law_923 dL_law_924 dL_law_926 dL_law_927 dL_law_928 (by decide) h_1 ?_
  refine lb_bool (pc := 929) hx hb dL_law_929 dL_law_932 dL_law_933 dL_law_936 ?_
  refine lr_read (pc := 937) (v := 2) hx hb hZ hbl hbA hS (lv_at hl 2 rfl) (lv_at hl 1 rfl) dL_law_937 dL_law_938 dL_law_940 dL_law_941 dL_law_942 (by decide) h_2 ?_
  refine gm_V (pc := 943) (rest := []) ⟨hx, hb, hml, hown, hts⟩ hm (cwM_kind hts w_519 ⟨Nat.le_trans (Nat.le_of_ble_eq_true rfl) hfr.1, Nat.le_trans (Nat.le_of_ble_eq_true rfl) hfr.2⟩) hw hS rfl hl.1 rfl (Nat.le_of_ble_eq_true rfl) dL_law_943 hf (fun H locs hw hS => ?_)
  refine W.eq (g2 := F0 m 946 ls [.int v]) rfl ?_
  refine lv_istore (lv' := [(6, .int v), (5, .int r), (4, .int i), (0, .ref b), (1, .ref h0), (2, .ref m0), (3, .ref o0)]) (pc := 946) hx hb dL_law_946 hl (by decide) rfl (fun ls hl => ?_)
  refine lv_aload_n (pc := 948) hx hb dL_law_948 rfl (lv_at hl 5 rfl) ?_
  refine gm_V (pc := 949) (rest := []) ⟨hx, hb, hml, hown, hts⟩ (c_M_thr l D cI cL m0 ra rb rc S1) (cwM_thrown hts w_406 ⟨Nat.le_trans (Nat.le_of_ble_eq_true rfl) hfr.1, Nat.le_trans (Nat.le_of_ble_eq_true rfl) hfr.2⟩) hw hS rfl hl.1 rfl (Nat.le_of_ble_eq_true rfl) dL_law_949 hf (fun H locs hw hS => ?_)
  refine W.eq (g2 := F0 m 952 ls [.int S1.1.2.2.1]) rfl ?_
  refine lv_iload (pc := 952) hx hb dL_law_952 (lv_at hl 1 rfl) ?_
  refine lv_icmp_eq (tgt := 959) (pc := 954) hx hb dL_law_954 (by decide) (fun _ => ?_) (fun g => absurd he g)
  refine lv_iload (pc := 959) hx hb dL_law_959 (lv_at hl 1 rfl) ?_
  have hend : W p l e R s m args below meth c H locs (cells + 1) (slots + 6) Q (F0 m 976 ls []) := by
    refine lv_goto (tgt := 1074) (pc := 976) hx hb dL_law_976 (by decide) ?_
    exact kk md1 fl1 rg1 f1 S1 H locs ls hk hc hw hS (lv_sub hl [2, 3, 4, 5, 6] rfl)
  refine lv_if_ne (tgt := 976) (pc := 961) hx hb dL_law_961 (by decide) (fun _ => hend) (fun g => ?_)
  refine lv_aload_n (pc := 964) hx hb dL_law_964 rfl (lv_at hl 6 rfl) ?_
  refine lv_iconst (v := 0) (pc := 965) hx hb dL_law_965 (by decide) ?_
  refine lw_out (pc := 966) hx hb hw dL_law_966 ?_
  refine lv_iload (pc := 967) hx hb dL_law_967 (lv_at hl 0 rfl) ?_
  refine lv_i2l (v := v.toInt64) (pc := 969) hx hb dL_law_969 rfl ?_
  refine W.lcmp (pc := 970) hx hb dL_law_970 ?_
  exact lv_if_eq (tgt := 976) (pc := 971) hx hb dL_law_971 (by decide) (fun _ => hend) (fun g2 => absurd ((lg_cmp_eq _ _).2 (hv g)) g2)
def PR_negate (l : Launch) : Prop := ∀ (a0 : Bool) (a1 : Int32) (a2 : Int32), PRl l yL_negate (wsW yL_negate cL_negate 6 [(0, 11, 14, 13)]) rmL_negate yM_negate (wsM yM_negate cM_negate 6 (some .long)) rmM_negate [.int (bI a0), .int a1, .int a2]
set_option maxRecDepth 100000 in
set_option maxHeartbeats 4000000 in
theorem law_negate (hp : PR_negate l) (hx : p.tables.exec = Jvm.exec) (hb : c.code = code) (hml : c.maxLocals = 8) (hown : s.vm.findClass "FloatUnitLaw" = some m.cls) (hts : ∀ w ∈ (w0 :: bigW), w.before args s = true) (hZ : va_X b L xs s s.heap) (hbl : b < s.heap.size) (hbA : ¬ A b) (hX : XM A s s.heap) (hF : FM ad A s s.heap) (hfr : 11 ≤ R.frames ∧ 444 ≤ R.locals) (hf : cells + 1 ≤ R.cells ∧ slots + 6 ≤ R.slots) (hk : MK md) (hc : CPL md fl rg S) (hw : LWw A D cA cI cL h0 r0 o0 m0 ra rb rc md fl rg f S s H) (hS : va_S A s.heap H locs) (hl : lv_has ls 8 [(4, .int i), (0, .ref b), (1, .ref h0), (2, .ref m0), (3, .ref o0)]) (h_1 : vp_in (i + 1) L) (h_2 : vp_in (i + 2) L) (h_3 : vp_in (i + 3) L) (h_4 : vp_in (i + 4) L) (h_5 : vp_in (i + 5) L) (kk : ∀ (md1 fl1 : Int32) (rg1 f1 : Nat → Int64) (S1 : MS) (H1 : Heap) (locs1 : List Loc) (ls1 : Array Slot), MK md1 → CPL md1 fl1 rg1 S1 → LWw A D cA cI cL h0 r0 o0 m0 ra rb rc md1 fl1 rg1 f1 S1 s H1 → va_S A s.heap H1 locs1 → lv_has ls1 8 [(4, .int i), (0, .ref b), (1, .ref h0), (2, .ref m0), (3, .ref o0)] → W p l e R s m args below meth c H1 locs1 (cells + 1) (slots + 6) Q (F0 m 1074 ls1 [])) : W p l e R s m args below meth c H locs cells slots Q (F0 m 979 ls []) := by
  obtain ⟨r, md1, fl1, rg1, f1, v, S1, hu, hm, he, hv, hk, hc⟩ := hp (decide ((xs (i + 1).toNatClampNeg) ≠ 0)) (xs (i + 2).toNatClampNeg) (xs (i + 3).toNatClampNeg) ad D cA cI cL h0 r0 o0 m0 ra rb rc md fl rg f S hk hc
  refine lv_aload_n (pc := 979) hx hb dL_law_979 rfl (lv_at hl 2 rfl) ?_
  refine lr_read (pc := 980) (v := 1) hx hb hZ hbl hbA hS (lv_at hl 1 rfl) (lv_at hl 0 rfl) dL_law_980 dL_law_981 dL_law_983 dL_law_984 dL_law_985 (by decide) h_1 ?_
  refine lb_bool (pc := 986) hx hb dL_law_986 dL_law_989 dL_law_990 dL_law_993 ?_
  refine lr_read (pc := 994) (v := 2) hx hb hZ hbl hbA hS (lv_at hl 1 rfl) (lv_at hl 0 rfl) dL_law_994 dL_law_995 dL_law_997 dL_law_998 dL_law_999 (by decide) h_2 ?_
  refine lr_read (pc := 1000) (v := 3) hx hb hZ hbl hbA hS (lv_at hl 1 rfl) (lv_at hl 0 rfl) dL_law_1000 dL_law_1001 dL_law_1003 dL_law_1004 dL_law_1005 (by decide) h_3 ?_
  refine lv_aload_n (pc := 1006) hx hb dL_law_1006 rfl (lv_at hl 4 rfl) ?_
  refine gw_S (pc := 1007) (rest := []) ⟨hx, hb, hml, hown, hts⟩ hu (cwL_negate hts w_343 ⟨Nat.le_trans (Nat.le_of_ble_eq_true rfl) hfr.1, Nat.le_trans (Nat.le_of_ble_eq_true rfl) hfr.2⟩) hX hF hw hS rfl hl.1 rfl (Nat.le_of_ble_eq_true rfl) dL_law_1007 hf (fun H locs hw hS => ?_)
  refine lv_istore (lv' := [(5, .int r), (4, .int i), (0, .ref b), (1, .ref h0), (2, .ref m0), (3, .ref o0)]) (pc := 1010) hx hb dL_law_1010 hl (by decide) rfl (fun ls hl => ?_)
  refine lv_aload_n (pc := 1012) hx hb dL_law_1012 rfl (lv_at hl 4 rfl) ?_
  refine lr_read (pc := 1013) (v := 1) hx hb hZ hbl hbA hS (lv_at hl 2 rfl) (lv_at hl 1 rfl) dL_law_1013 dL_law_1014 dL_law_1016 dL_law_1017 dL_law_1018 (by decide) h_1 ?_
  refine lb_bool (pc := 1019) hx hb dL_law_1019 dL_law_1022 dL_law_1023 dL_law_1026 ?_
  refine lr_read (pc := 1027) (v := 2) hx hb hZ hbl hbA hS (lv_at hl 2 rfl) (lv_at hl 1 rfl) dL_law_1027 dL_law_1028 dL_law_1030 dL_law_1031 dL_law_1032 (by decide) h_2 ?_
  refine lr_read (pc := 1033) (v := 3) hx hb hZ hbl hbA hS (lv_at hl 2 rfl) (lv_at hl 1 rfl) dL_law_1033 dL_law_1034 dL_law_1036 dL_law_1037 dL_law_1038 (by decide) h_3 ?_
  refine gm_V (pc := 1039) (rest := []) ⟨hx, hb, hml, hown, hts⟩ hm (cwM_negate hts w_523 ⟨Nat.le_trans (Nat.le_of_ble_eq_true rfl) hfr.1, Nat.le_trans (Nat.le_of_ble_eq_true rfl) hfr.2⟩) hw hS rfl hl.1 rfl (Nat.le_of_ble_eq_true rfl) dL_law_1039 hf (fun H locs hw hS => ?_)
  refine W.eq (g2 := F0 m 1042 ls [.long v]) rfl ?_
  refine lv_lstore (lv' := [(6, .long v), (5, .int r), (4, .int i), (0, .ref b), (1, .ref h0), (2, .ref m0), (3, .ref o0)]) (pc := 1042) hx hb dL_law_1042 hl (by decide) rfl (fun ls hl => ?_)
  refine lv_aload_n (pc := 1044) hx hb dL_law_1044 rfl (lv_at hl 5 rfl) ?_
  refine gm_V (pc := 1045) (rest := []) ⟨hx, hb, hml, hown, hts⟩ (c_M_thr l D cI cL m0 ra rb rc S1) (cwM_thrown hts w_406 ⟨Nat.le_trans (Nat.le_of_ble_eq_true rfl) hfr.1, Nat.le_trans (Nat.le_of_ble_eq_true rfl) hfr.2⟩) hw hS rfl hl.1 rfl (Nat.le_of_ble_eq_true rfl) dL_law_1045 hf (fun H locs hw hS => ?_)
  refine W.eq (g2 := F0 m 1048 ls [.int S1.1.2.2.1]) rfl ?_
  refine lv_iload (pc := 1048) hx hb dL_law_1048 (lv_at hl 1 rfl) ?_
  refine lv_icmp_eq (tgt := 1055) (pc := 1050) hx hb dL_law_1050 (by decide) (fun _ => ?_) (fun g => absurd he g)
  refine lv_iload (pc := 1055) hx hb dL_law_1055 (lv_at hl 1 rfl) ?_
  have hend : W p l e R s m args below meth c H locs (cells + 1) (slots + 6) Q (F0 m 1071 ls []) := by
    refine lv_goto (tgt := 1074) (pc := 1071) hx hb dL_law_1071 (by decide) ?_
    exact kk md1 fl1 rg1 f1 S1 H locs ls hk hc hw hS (lv_sub hl [2, 3, 4, 5, 6] rfl)
  refine lv_if_ne (tgt := 1071) (pc := 1057) hx hb dL_law_1057 (by decide) (fun _ => hend) (fun g => ?_)
  refine lv_aload_n (pc := 1060) hx hb dL_law_1060 rfl (lv_at hl 6 rfl) ?_
  refine lv_iconst (v := 0) (pc := 1061) hx hb dL_law_1061 (by decide) ?_
  refine lw_out (pc := 1062) hx hb hw dL_law_1062 ?_
  refine lv_lload (pc := 1063) hx hb dL_law_1063 (lv_at hl 0 rfl) ?_
  refine W.lcmp (pc := 1065) hx hb dL_law_1065 ?_
  exact lv_if_eq (tgt := 1071) (pc := 1066) hx hb dL_law_1066 (by decide) (fun _ => hend) (fun g2 => absurd ((lg_cmp_eq _ _).2 (hv g)) g2)
end LC
