section
-- ===== PART A: goes FIRST, ahead of the names: the tables' words, and 'selects' of the private methods out of them =====
/-- a private method of a class that the tables say can be made, by its rows of tables_1 -/
def lw_okq (q : MethodName × Nat) : Prop := (q.1.cls ≠ "java/lang/invoke/MethodHandle" ∧ q.1.cls ≠ "java/lang/invoke/VarHandle") ∧ Cond.instantiable q.1.cls q.2 ∈ tables_1 ∧ Cond.privateMethod q.1 ∈ tables_1 ∧ Cond.instanceMethod q.1 ∈ tables_1
theorem lw_p0 : lw_okq (⟨"java/lang/Throwable", "fillInStackTrace", "(I)Ljava/lang/Throwable;"⟩, 6) := ⟨⟨by decide +kernel, by decide +kernel⟩, List.mem_of_getElem? (i := 81) (by decide +kernel), List.mem_of_getElem? (i := 79) (by decide +kernel), List.mem_of_getElem? (i := 80) (by decide +kernel)⟩
theorem lw_p1 : lw_okq (⟨"FloatUnit", "result", "(ILFloatUnit$Format;JJ)J"⟩, 3) := ⟨⟨by decide +kernel, by decide +kernel⟩, List.mem_of_getElem? (i := 11) (by decide +kernel), List.mem_of_getElem? (i := 145) (by decide +kernel), List.mem_of_getElem? (i := 146) (by decide +kernel)⟩
theorem lw_p2 : lw_okq (⟨"FloatUnit", "sum", "(LFloatUnit$Format;JJ)J"⟩, 3) := ⟨⟨by decide +kernel, by decide +kernel⟩, List.mem_of_getElem? (i := 11) (by decide +kernel), List.mem_of_getElem? (i := 161) (by decide +kernel), List.mem_of_getElem? (i := 162) (by decide +kernel)⟩
theorem lw_p3 : lw_okq (⟨"FloatUnit", "invalid", "(LFloatUnit$Format;)J"⟩, 3) := ⟨⟨by decide +kernel, by decide +kernel⟩, List.mem_of_getElem? (i := 11) (by decide +kernel), List.mem_of_getElem? (i := 173) (by decide +kernel), List.mem_of_getElem? (i := 174) (by decide +kernel)⟩
theorem lw_p4 : lw_okq (⟨"FloatUnit", "raise", "(I)V"⟩, 3) := ⟨⟨by decide +kernel, by decide +kernel⟩, List.mem_of_getElem? (i := 11) (by decide +kernel), List.mem_of_getElem? (i := 177) (by decide +kernel), List.mem_of_getElem? (i := 178) (by decide +kernel)⟩
theorem lw_p5 : lw_okq (⟨"FloatUnit$Format", "plain", "(J)J"⟩, 8) := ⟨⟨by decide +kernel, by decide +kernel⟩, List.mem_of_getElem? (i := 194) (by decide +kernel), List.mem_of_getElem? (i := 192) (by decide +kernel), List.mem_of_getElem? (i := 193) (by decide +kernel)⟩
theorem lw_p6 : lw_okq (⟨"FloatUnit", "rounded", "(LFloatUnit$Format;ZJI)J"⟩, 3) := ⟨⟨by decide +kernel, by decide +kernel⟩, List.mem_of_getElem? (i := 11) (by decide +kernel), List.mem_of_getElem? (i := 222) (by decide +kernel), List.mem_of_getElem? (i := 223) (by decide +kernel)⟩
theorem lw_p7 : lw_okq (⟨"FloatUnit", "huge", "(LFloatUnit$Format;Z)J"⟩, 3) := ⟨⟨by decide +kernel, by decide +kernel⟩, List.mem_of_getElem? (i := 11) (by decide +kernel), List.mem_of_getElem? (i := 227) (by decide +kernel), List.mem_of_getElem? (i := 228) (by decide +kernel)⟩
theorem lw_p8 : lw_okq (⟨"FloatUnit", "goesAwayFromZero", "(ZJJJ)Z"⟩, 3) := ⟨⟨by decide +kernel, by decide +kernel⟩, List.mem_of_getElem? (i := 11) (by decide +kernel), List.mem_of_getElem? (i := 240) (by decide +kernel), List.mem_of_getElem? (i := 241) (by decide +kernel)⟩
theorem lw_p9 : lw_okq (⟨"FloatUnit", "product", "(LFloatUnit$Format;JJ)J"⟩, 3) := ⟨⟨by decide +kernel, by decide +kernel⟩, List.mem_of_getElem? (i := 11) (by decide +kernel), List.mem_of_getElem? (i := 249) (by decide +kernel), List.mem_of_getElem? (i := 250) (by decide +kernel)⟩
theorem lw_p10 : lw_okq (⟨"FloatUnit", "quotient", "(LFloatUnit$Format;JJ)J"⟩, 3) := ⟨⟨by decide +kernel, by decide +kernel⟩, List.mem_of_getElem? (i := 11) (by decide +kernel), List.mem_of_getElem? (i := 261) (by decide +kernel), List.mem_of_getElem? (i := 262) (by decide +kernel)⟩
theorem lw_p11 : lw_okq (⟨"FloatUnit", "quotientByZero", "(LFloatUnit$Format;JZ)J"⟩, 3) := ⟨⟨by decide +kernel, by decide +kernel⟩, List.mem_of_getElem? (i := 11) (by decide +kernel), List.mem_of_getElem? (i := 265) (by decide +kernel), List.mem_of_getElem? (i := 266) (by decide +kernel)⟩
theorem lw_p12 : lw_okq (⟨"FloatUnit", "rest", "(LFloatUnit$Format;JJ)J"⟩, 3) := ⟨⟨by decide +kernel, by decide +kernel⟩, List.mem_of_getElem? (i := 11) (by decide +kernel), List.mem_of_getElem? (i := 269) (by decide +kernel), List.mem_of_getElem? (i := 270) (by decide +kernel)⟩
theorem lw_p13 : lw_okq (⟨"FloatUnit", "keep", "(IJ)J"⟩, 3) := ⟨⟨by decide +kernel, by decide +kernel⟩, List.mem_of_getElem? (i := 11) (by decide +kernel), List.mem_of_getElem? (i := 276) (by decide +kernel), List.mem_of_getElem? (i := 277) (by decide +kernel)⟩
theorem lw_p14 : lw_okq (⟨"FloatUnit", "cut", "(LFloatUnit$Format;JJ)J"⟩, 3) := ⟨⟨by decide +kernel, by decide +kernel⟩, List.mem_of_getElem? (i := 11) (by decide +kernel), List.mem_of_getElem? (i := 308) (by decide +kernel), List.mem_of_getElem? (i := 309) (by decide +kernel)⟩
theorem lw_p15 : lw_okq (⟨"FloatUnit", "turned", "(LFloatUnit$Format;LFloatUnit$Format;J)J"⟩, 3) := ⟨⟨by decide +kernel, by decide +kernel⟩, List.mem_of_getElem? (i := 11) (by decide +kernel), List.mem_of_getElem? (i := 326) (by decide +kernel), List.mem_of_getElem? (i := 327) (by decide +kernel)⟩
def lw_privs_1 : List (MethodName × Nat) := [(⟨"java/lang/Throwable", "fillInStackTrace", "(I)Ljava/lang/Throwable;"⟩, 6), (⟨"FloatUnit", "result", "(ILFloatUnit$Format;JJ)J"⟩, 3), (⟨"FloatUnit", "sum", "(LFloatUnit$Format;JJ)J"⟩, 3), (⟨"FloatUnit", "invalid", "(LFloatUnit$Format;)J"⟩, 3), (⟨"FloatUnit", "raise", "(I)V"⟩, 3), (⟨"FloatUnit$Format", "plain", "(J)J"⟩, 8), (⟨"FloatUnit", "rounded", "(LFloatUnit$Format;ZJI)J"⟩, 3), (⟨"FloatUnit", "huge", "(LFloatUnit$Format;Z)J"⟩, 3), (⟨"FloatUnit", "goesAwayFromZero", "(ZJJJ)Z"⟩, 3), (⟨"FloatUnit", "product", "(LFloatUnit$Format;JJ)J"⟩, 3), (⟨"FloatUnit", "quotient", "(LFloatUnit$Format;JJ)J"⟩, 3), (⟨"FloatUnit", "quotientByZero", "(LFloatUnit$Format;JZ)J"⟩, 3), (⟨"FloatUnit", "rest", "(LFloatUnit$Format;JJ)J"⟩, 3), (⟨"FloatUnit", "keep", "(IJ)J"⟩, 3), (⟨"FloatUnit", "cut", "(LFloatUnit$Format;JJ)J"⟩, 3), (⟨"FloatUnit", "turned", "(LFloatUnit$Format;LFloatUnit$Format;J)J"⟩, 3)]
theorem lw_r1 : ∀ q ∈ lw_privs_1, lw_okq q := List.forall_mem_cons.mpr ⟨lw_p0, List.forall_mem_cons.mpr ⟨lw_p1, List.forall_mem_cons.mpr ⟨lw_p2, List.forall_mem_cons.mpr ⟨lw_p3, List.forall_mem_cons.mpr ⟨lw_p4, List.forall_mem_cons.mpr ⟨lw_p5, List.forall_mem_cons.mpr ⟨lw_p6, List.forall_mem_cons.mpr ⟨lw_p7, List.forall_mem_cons.mpr ⟨lw_p8, List.forall_mem_cons.mpr ⟨lw_p9, List.forall_mem_cons.mpr ⟨lw_p10, List.forall_mem_cons.mpr ⟨lw_p11, List.forall_mem_cons.mpr ⟨lw_p12, List.forall_mem_cons.mpr ⟨lw_p13, List.forall_mem_cons.mpr ⟨lw_p14, List.forall_mem_cons.mpr ⟨lw_p15, fun _ h => absurd h List.not_mem_nil⟩⟩⟩⟩⟩⟩⟩⟩⟩⟩⟩⟩⟩⟩⟩⟩
theorem lw_p16 : lw_okq (⟨"FloatUnitModel", "fails", "(Z)Z"⟩, 16) := ⟨⟨by decide +kernel, by decide +kernel⟩, List.mem_of_getElem? (i := 351) (by decide +kernel), List.mem_of_getElem? (i := 418) (by decide +kernel), List.mem_of_getElem? (i := 419) (by decide +kernel)⟩
theorem lw_p17 : lw_okq (⟨"FloatUnitModel", "format", "(Z)V"⟩, 16) := ⟨⟨by decide +kernel, by decide +kernel⟩, List.mem_of_getElem? (i := 351) (by decide +kernel), List.mem_of_getElem? (i := 438) (by decide +kernel), List.mem_of_getElem? (i := 439) (by decide +kernel)⟩
theorem lw_p18 : lw_okq (⟨"FloatUnitModel", "takeBoth", "(II)V"⟩, 16) := ⟨⟨by decide +kernel, by decide +kernel⟩, List.mem_of_getElem? (i := 351) (by decide +kernel), List.mem_of_getElem? (i := 442) (by decide +kernel), List.mem_of_getElem? (i := 443) (by decide +kernel)⟩
theorem lw_p19 : lw_okq (⟨"FloatUnitModel", "take", "(I)V"⟩, 16) := ⟨⟨by decide +kernel, by decide +kernel⟩, List.mem_of_getElem? (i := 351) (by decide +kernel), List.mem_of_getElem? (i := 446) (by decide +kernel), List.mem_of_getElem? (i := 447) (by decide +kernel)⟩
theorem lw_p20 : lw_okq (⟨"FloatUnitModel", "none", "()J"⟩, 16) := ⟨⟨by decide +kernel, by decide +kernel⟩, List.mem_of_getElem? (i := 351) (by decide +kernel), List.mem_of_getElem? (i := 450) (by decide +kernel), List.mem_of_getElem? (i := 451) (by decide +kernel)⟩
theorem lw_p21 : lw_okq (⟨"FloatUnitModel", "made", "(IJJ)J"⟩, 16) := ⟨⟨by decide +kernel, by decide +kernel⟩, List.mem_of_getElem? (i := 351) (by decide +kernel), List.mem_of_getElem? (i := 454) (by decide +kernel), List.mem_of_getElem? (i := 455) (by decide +kernel)⟩
theorem lw_p22 : lw_okq (⟨"FloatUnitModel", "sum", "(I)J"⟩, 16) := ⟨⟨by decide +kernel, by decide +kernel⟩, List.mem_of_getElem? (i := 351) (by decide +kernel), List.mem_of_getElem? (i := 458) (by decide +kernel), List.mem_of_getElem? (i := 459) (by decide +kernel)⟩
theorem lw_p23 : lw_okq (⟨"FloatUnitModel", "invalid", "()J"⟩, 16) := ⟨⟨by decide +kernel, by decide +kernel⟩, List.mem_of_getElem? (i := 351) (by decide +kernel), List.mem_of_getElem? (i := 462) (by decide +kernel), List.mem_of_getElem? (i := 463) (by decide +kernel)⟩
theorem lw_p24 : lw_okq (⟨"FloatUnitModel", "endless", "(I)J"⟩, 16) := ⟨⟨by decide +kernel, by decide +kernel⟩, List.mem_of_getElem? (i := 351) (by decide +kernel), List.mem_of_getElem? (i := 466) (by decide +kernel), List.mem_of_getElem? (i := 467) (by decide +kernel)⟩
theorem lw_p25 : lw_okq (⟨"FloatUnitModel", "clear", "()V"⟩, 16) := ⟨⟨by decide +kernel, by decide +kernel⟩, List.mem_of_getElem? (i := 351) (by decide +kernel), List.mem_of_getElem? (i := 470) (by decide +kernel), List.mem_of_getElem? (i := 471) (by decide +kernel)⟩
theorem lw_p26 : lw_okq (⟨"FloatUnitModel", "lay", "(JI)V"⟩, 16) := ⟨⟨by decide +kernel, by decide +kernel⟩, List.mem_of_getElem? (i := 351) (by decide +kernel), List.mem_of_getElem? (i := 474) (by decide +kernel), List.mem_of_getElem? (i := 475) (by decide +kernel)⟩
theorem lw_p27 : lw_okq (⟨"FloatUnitModel", "rounded", "(IIZ)J"⟩, 16) := ⟨⟨by decide +kernel, by decide +kernel⟩, List.mem_of_getElem? (i := 351) (by decide +kernel), List.mem_of_getElem? (i := 478) (by decide +kernel), List.mem_of_getElem? (i := 479) (by decide +kernel)⟩
theorem lw_p28 : lw_okq (⟨"FloatUnitModel", "highest", "()I"⟩, 16) := ⟨⟨by decide +kernel, by decide +kernel⟩, List.mem_of_getElem? (i := 351) (by decide +kernel), List.mem_of_getElem? (i := 482) (by decide +kernel), List.mem_of_getElem? (i := 483) (by decide +kernel)⟩
theorem lw_p29 : lw_okq (⟨"FloatUnitModel", "product", "()J"⟩, 16) := ⟨⟨by decide +kernel, by decide +kernel⟩, List.mem_of_getElem? (i := 351) (by decide +kernel), List.mem_of_getElem? (i := 487) (by decide +kernel), List.mem_of_getElem? (i := 488) (by decide +kernel)⟩
theorem lw_p30 : lw_okq (⟨"FloatUnitModel", "quotient", "()J"⟩, 16) := ⟨⟨by decide +kernel, by decide +kernel⟩, List.mem_of_getElem? (i := 351) (by decide +kernel), List.mem_of_getElem? (i := 491) (by decide +kernel), List.mem_of_getElem? (i := 492) (by decide +kernel)⟩
theorem lw_p31 : lw_okq (⟨"FloatUnitModel", "rest", "()J"⟩, 16) := ⟨⟨by decide +kernel, by decide +kernel⟩, List.mem_of_getElem? (i := 351) (by decide +kernel), List.mem_of_getElem? (i := 495) (by decide +kernel), List.mem_of_getElem? (i := 496) (by decide +kernel)⟩
def lw_privs_2 : List (MethodName × Nat) := [(⟨"FloatUnitModel", "fails", "(Z)Z"⟩, 16), (⟨"FloatUnitModel", "format", "(Z)V"⟩, 16), (⟨"FloatUnitModel", "takeBoth", "(II)V"⟩, 16), (⟨"FloatUnitModel", "take", "(I)V"⟩, 16), (⟨"FloatUnitModel", "none", "()J"⟩, 16), (⟨"FloatUnitModel", "made", "(IJJ)J"⟩, 16), (⟨"FloatUnitModel", "sum", "(I)J"⟩, 16), (⟨"FloatUnitModel", "invalid", "()J"⟩, 16), (⟨"FloatUnitModel", "endless", "(I)J"⟩, 16), (⟨"FloatUnitModel", "clear", "()V"⟩, 16), (⟨"FloatUnitModel", "lay", "(JI)V"⟩, 16), (⟨"FloatUnitModel", "rounded", "(IIZ)J"⟩, 16), (⟨"FloatUnitModel", "highest", "()I"⟩, 16), (⟨"FloatUnitModel", "product", "()J"⟩, 16), (⟨"FloatUnitModel", "quotient", "()J"⟩, 16), (⟨"FloatUnitModel", "rest", "()J"⟩, 16)]
theorem lw_r2 : ∀ q ∈ lw_privs_2, lw_okq q := List.forall_mem_cons.mpr ⟨lw_p16, List.forall_mem_cons.mpr ⟨lw_p17, List.forall_mem_cons.mpr ⟨lw_p18, List.forall_mem_cons.mpr ⟨lw_p19, List.forall_mem_cons.mpr ⟨lw_p20, List.forall_mem_cons.mpr ⟨lw_p21, List.forall_mem_cons.mpr ⟨lw_p22, List.forall_mem_cons.mpr ⟨lw_p23, List.forall_mem_cons.mpr ⟨lw_p24, List.forall_mem_cons.mpr ⟨lw_p25, List.forall_mem_cons.mpr ⟨lw_p26, List.forall_mem_cons.mpr ⟨lw_p27, List.forall_mem_cons.mpr ⟨lw_p28, List.forall_mem_cons.mpr ⟨lw_p29, List.forall_mem_cons.mpr ⟨lw_p30, List.forall_mem_cons.mpr ⟨lw_p31, fun _ h => absurd h List.not_mem_nil⟩⟩⟩⟩⟩⟩⟩⟩⟩⟩⟩⟩⟩⟩⟩⟩
def lw_privs : List (MethodName × Nat) := lw_privs_1 ++ (lw_privs_2)
def lw_tbl : List Cond := k2_sels lw_privs ++ tables_1
theorem lw_privs_ok : ∀ q ∈ lw_privs, lw_okq q := by
  show ∀ q ∈ lw_privs_1 ++ (lw_privs_2), lw_okq q
  exact List.forall_mem_append.mpr ⟨lw_r1, lw_r2⟩
/-! ===== one list of words for all methods: the tables' words that stay ===== -/
def bigW : List Cond := lw_tbl.filter goodWord
theorem big_of {w : Cond} (i : Nat) (h : tables_1[i]? = some w) (g : goodWord w = true) : w ∈ bigW := List.mem_filter.2 ⟨List.mem_append_right _ (List.mem_of_getElem? h), g⟩
theorem big_of1 {w : Cond} (i : Nat) (h : tables_1_1[i]? = some w) (g : goodWord w = true) : w ∈ bigW := List.mem_filter.2 ⟨List.mem_append_right _ (List.mem_append_left _ (List.mem_of_getElem? h)), g⟩
theorem big_of2 {w : Cond} (i : Nat) (h : tables_1_2[i]? = some w) (g : goodWord w = true) : w ∈ bigW := List.mem_filter.2 ⟨List.mem_append_right _ (List.mem_append_right _ (List.mem_append_left _ (List.mem_of_getElem? h))), g⟩
theorem big_of3 {w : Cond} (i : Nat) (h : tables_1_3[i]? = some w) (g : goodWord w = true) : w ∈ bigW := List.mem_filter.2 ⟨List.mem_append_right _ (List.mem_append_right _ (List.mem_append_right _ (List.mem_of_getElem? h))), g⟩
theorem big_sel {q : MethodName × Nat} (i : Nat) (h : lw_privs[i]? = some q) (g : goodWord (Cond.selects q.1.cls q.1 q.1) = true) : Cond.selects q.1.cls q.1 q.1 ∈ bigW :=
  List.mem_filter.2 ⟨List.mem_append_left _ (List.mem_map.2 ⟨q, List.mem_of_getElem? h, rfl⟩), g⟩
theorem big_in {w0 : Cond} {l : List Cond} (h : ∀ w ∈ l, w ∈ bigW) : GoodIn (w0 :: bigW) l := fun w hw => ⟨List.mem_cons_of_mem _ (h w hw), good_of_word (List.mem_filter.1 (h w hw)).2⟩
def wsM (y : MethodName) (c : ByteArray) (n : Nat) (r : Option FieldType) : List Cond := Cond.code y c n r :: bigW
theorem big_M {w0 : Cond} {y : MethodName} {c : ByteArray} {n : Nat} {r : Option FieldType} (h5 : Cond.code y c n r ∈ bigW) : GoodIn (w0 :: bigW) (wsM y c n r) := big_in (fun w hw => by
  rcases List.mem_cons.1 hw with rfl | h
  · exact h5
  · exact h)
theorem big_V {w0 : Cond} {own C : String} {idx n : Nat} {y : MethodName} {c : ByteArray} {r : Option FieldType} (h1 : Cond.methodLink own idx y ∈ bigW) (h2 : Cond.instanceMethod y ∈ bigW) (h3 : Cond.selects C y y ∈ bigW) (h4 : Cond.initialized C ∈ bigW) (h5 : Cond.code y c n r ∈ bigW) : GoodIn (w0 :: bigW) (wsV own idx C y (wsM y c n r)) := big_in (fun w hw => by
  rcases List.mem_append.1 hw with h | h
  · simp only [List.mem_cons, List.not_mem_nil, or_false] at h
    rcases h with rfl | rfl | rfl | rfl
    · exact h1
    · exact h2
    · exact h3
    · exact h4
  · rcases List.mem_cons.1 h with rfl | h
    · exact h5
    · exact h)
theorem big_S {w0 : Cond} {own : String} {idx n : Nat} {y : MethodName} {c : ByteArray} {r : Option FieldType} (h1 : Cond.methodLink own idx y ∈ bigW) (h2 : Cond.static y ∈ bigW) (h4 : Cond.initialized own ∈ bigW) (h5 : Cond.code y c n r ∈ bigW) : GoodIn (w0 :: bigW) (wsS own idx y (wsM y c n r)) := big_in (fun w hw => by
  rcases List.mem_append.1 hw with h | h
  · simp only [List.mem_cons, List.not_mem_nil, or_false] at h
    rcases h with rfl | rfl | rfl
    · exact h1
    · exact h2
    · exact h4
  · rcases List.mem_cons.1 h with rfl | h
    · exact h5
    · exact h)
end
section
/-! Names of methods and codes (by program out of the Statement). -/
abbrev cU_init : ByteArray := prog_1_method_1_code
def yU_init : MethodName := ⟨"FloatUnit", "<init>", "()V"⟩
abbrev cU_flags : ByteArray := prog_1_method_5_code
def yU_flags : MethodName := ⟨"FloatUnit", "flags", "(I)I"⟩
abbrev cL_put : ByteArray := method_3_code
def yL_put : MethodName := ⟨"FloatUnitLaw", "put", "(LFloatUnit;IJ[J)I"⟩
abbrev cU_put : ByteArray := prog_1_method_2_code
def yU_put : MethodName := ⟨"FloatUnit", "put", "(IJ)J"⟩
abbrev cU_requireRegister : ByteArray := prog_1_method_13_code
def yU_requireRegister : MethodName := ⟨"FloatUnit", "requireRegister", "(I)V"⟩
abbrev cL_bits : ByteArray := method_4_code
def yL_bits : MethodName := ⟨"FloatUnitLaw", "bits", "(LFloatUnit;I[J)I"⟩
abbrev cU_bits : ByteArray := prog_1_method_3_code
def yU_bits : MethodName := ⟨"FloatUnit", "bits", "(I)J"⟩
abbrev cL_mode : ByteArray := method_5_code
def yL_mode : MethodName := ⟨"FloatUnitLaw", "mode", "(LFloatUnit;I[J)I"⟩
abbrev cU_mode : ByteArray := prog_1_method_4_code
def yU_mode : MethodName := ⟨"FloatUnit", "mode", "(I)I"⟩
abbrev cL_work : ByteArray := method_6_code
def yL_work : MethodName := ⟨"FloatUnitLaw", "work", "(LFloatUnit;IZIII[J)I"⟩
abbrev cU_work : ByteArray := prog_1_method_6_code
def yU_work : MethodName := ⟨"FloatUnit", "work", "(IZIII)J"⟩
abbrev cU_format : ByteArray := prog_1_method_14_code
def yU_format : MethodName := ⟨"FloatUnit", "format", "(Z)LFloatUnit$Format;"⟩
abbrev cF_own : ByteArray := prog_2_method_4_code
def yF_own : MethodName := ⟨"FloatUnit$Format", "own", "(J)J"⟩
abbrev cU_result : ByteArray := prog_1_method_18_code
def yU_result : MethodName := ⟨"FloatUnit", "result", "(ILFloatUnit$Format;JJ)J"⟩
abbrev cF_isNone : ByteArray := prog_2_method_7_code
def yF_isNone : MethodName := ⟨"FloatUnit$Format", "isNone", "(J)Z"⟩
abbrev cF_size : ByteArray := prog_2_method_5_code
def yF_size : MethodName := ⟨"FloatUnit$Format", "size", "(J)J"⟩
abbrev cF_none : ByteArray := prog_2_method_22_code
def yF_none : MethodName := ⟨"FloatUnit$Format", "none", "()J"⟩
abbrev cU_sum : ByteArray := prog_1_method_19_code
def yU_sum : MethodName := ⟨"FloatUnit", "sum", "(LFloatUnit$Format;JJ)J"⟩
abbrev cF_isMinus : ByteArray := prog_2_method_6_code
def yF_isMinus : MethodName := ⟨"FloatUnit$Format", "isMinus", "(J)Z"⟩
abbrev cF_isEndless : ByteArray := prog_2_method_8_code
def yF_isEndless : MethodName := ⟨"FloatUnit$Format", "isEndless", "(J)Z"⟩
abbrev cU_invalid : ByteArray := prog_1_method_17_code
def yU_invalid : MethodName := ⟨"FloatUnit", "invalid", "(LFloatUnit$Format;)J"⟩
abbrev cU_raise : ByteArray := prog_1_method_16_code
def yU_raise : MethodName := ⟨"FloatUnit", "raise", "(I)V"⟩
abbrev cF_power : ByteArray := prog_2_method_13_code
def yF_power : MethodName := ⟨"FloatUnit$Format", "power", "(J)I"⟩
abbrev cF_unitPower : ByteArray := prog_2_method_14_code
def yF_unitPower : MethodName := ⟨"FloatUnit$Format", "unitPower", "(I)I"⟩
abbrev cF_plain : ByteArray := prog_2_method_15_code
def yF_plain : MethodName := ⟨"FloatUnit$Format", "plain", "(J)J"⟩
abbrev cF_lift : ByteArray := prog_2_method_16_code
def yF_lift : MethodName := ⟨"FloatUnit$Format", "lift", "(J)I"⟩
abbrev cU_freePlaces : ByteArray := prog_1_method_32_code
def yU_freePlaces : MethodName := ⟨"FloatUnit", "freePlaces", "(J)I"⟩
abbrev cU_term : ByteArray := prog_1_method_20_code
def yU_term : MethodName := ⟨"FloatUnit", "term", "(LFloatUnit$Format;JI)J"⟩
abbrev cF_significand : ByteArray := prog_2_method_12_code
def yF_significand : MethodName := ⟨"FloatUnit$Format", "significand", "(J)J"⟩
abbrev cU_pressed : ByteArray := prog_1_method_21_code
def yU_pressed : MethodName := ⟨"FloatUnit", "pressed", "(JI)J"⟩
abbrev cF_zero : ByteArray := prog_2_method_19_code
def yF_zero : MethodName := ⟨"FloatUnit$Format", "zero", "(Z)J"⟩
abbrev cF_signed : ByteArray := prog_2_method_17_code
def yF_signed : MethodName := ⟨"FloatUnit$Format", "signed", "(ZJ)J"⟩
abbrev cU_rounded : ByteArray := prog_1_method_31_code
def yU_rounded : MethodName := ⟨"FloatUnit", "rounded", "(LFloatUnit$Format;ZJI)J"⟩
abbrev cU_huge : ByteArray := prog_1_method_34_code
def yU_huge : MethodName := ⟨"FloatUnit", "huge", "(LFloatUnit$Format;Z)J"⟩
abbrev cF_greatest : ByteArray := prog_2_method_21_code
def yF_greatest : MethodName := ⟨"FloatUnit$Format", "greatest", "(Z)J"⟩
abbrev cF_endless : ByteArray := prog_2_method_20_code
def yF_endless : MethodName := ⟨"FloatUnit$Format", "endless", "(Z)J"⟩
abbrev cU_goesAwayFromZero : ByteArray := prog_1_method_33_code
def yU_goesAwayFromZero : MethodName := ⟨"FloatUnit", "goesAwayFromZero", "(ZJJJ)Z"⟩
abbrev cF_opposite : ByteArray := prog_2_method_18_code
def yF_opposite : MethodName := ⟨"FloatUnit$Format", "opposite", "(J)J"⟩
abbrev cU_product : ByteArray := prog_1_method_22_code
def yU_product : MethodName := ⟨"FloatUnit", "product", "(LFloatUnit$Format;JJ)J"⟩
abbrev cF_isZero : ByteArray := prog_2_method_9_code
def yF_isZero : MethodName := ⟨"FloatUnit$Format", "isZero", "(J)Z"⟩
abbrev cU_upperProduct : ByteArray := prog_1_method_23_code
def yU_upperProduct : MethodName := ⟨"FloatUnit", "upperProduct", "(JJ)J"⟩
abbrev cU_quotient : ByteArray := prog_1_method_24_code
def yU_quotient : MethodName := ⟨"FloatUnit", "quotient", "(LFloatUnit$Format;JJ)J"⟩
abbrev cU_quotientByZero : ByteArray := prog_1_method_25_code
def yU_quotientByZero : MethodName := ⟨"FloatUnit", "quotientByZero", "(LFloatUnit$Format;JZ)J"⟩
abbrev cU_rest : ByteArray := prog_1_method_26_code
def yU_rest : MethodName := ⟨"FloatUnit", "rest", "(LFloatUnit$Format;JJ)J"⟩
abbrev cU_keep : ByteArray := prog_1_method_15_code
def yU_keep : MethodName := ⟨"FloatUnit", "keep", "(IJ)J"⟩
abbrev cL_compare : ByteArray := method_7_code
def yL_compare : MethodName := ⟨"FloatUnitLaw", "compare", "(LFloatUnit;ZIII[J)I"⟩
abbrev cU_compare : ByteArray := prog_1_method_7_code
def yU_compare : MethodName := ⟨"FloatUnit", "compare", "(ZIII)I"⟩
abbrev cF_rank : ByteArray := prog_2_method_11_code
def yF_rank : MethodName := ⟨"FloatUnit$Format", "rank", "(J)J"⟩
abbrev cL_of : ByteArray := method_8_code
def yL_of : MethodName := ⟨"FloatUnitLaw", "of", "(LFloatUnit;ZIJ[J)I"⟩
abbrev cU_of : ByteArray := prog_1_method_8_code
def yU_of : MethodName := ⟨"FloatUnit", "of", "(ZIJ)J"⟩
abbrev cL_whole : ByteArray := method_9_code
def yL_whole : MethodName := ⟨"FloatUnitLaw", "whole", "(LFloatUnit;ZIZ[J)I"⟩
abbrev cU_whole : ByteArray := prog_1_method_9_code
def yU_whole : MethodName := ⟨"FloatUnit", "whole", "(ZIZ)J"⟩
abbrev cU_cut : ByteArray := prog_1_method_28_code
def yU_cut : MethodName := ⟨"FloatUnit", "cut", "(LFloatUnit$Format;JJ)J"⟩
abbrev cU_moved : ByteArray := prog_1_method_30_code
def yU_moved : MethodName := ⟨"FloatUnit", "moved", "(JI)J"⟩
abbrev cU_isBeyond : ByteArray := prog_1_method_29_code
def yU_isBeyond : MethodName := ⟨"FloatUnit", "isBeyond", "(JJ)Z"⟩
abbrev cL_turn : ByteArray := method_10_code
def yL_turn : MethodName := ⟨"FloatUnitLaw", "turn", "(LFloatUnit;ZII[J)I"⟩
abbrev cU_turn : ByteArray := prog_1_method_10_code
def yU_turn : MethodName := ⟨"FloatUnit", "turn", "(ZII)J"⟩
abbrev cU_turned : ByteArray := prog_1_method_27_code
def yU_turned : MethodName := ⟨"FloatUnit", "turned", "(LFloatUnit$Format;LFloatUnit$Format;J)J"⟩
abbrev cL_kind : ByteArray := method_11_code
def yL_kind : MethodName := ⟨"FloatUnitLaw", "kind", "(LFloatUnit;ZI[J)I"⟩
abbrev cU_kind : ByteArray := prog_1_method_11_code
def yU_kind : MethodName := ⟨"FloatUnit", "kind", "(ZI)I"⟩
abbrev cF_sort : ByteArray := prog_2_method_10_code
def yF_sort : MethodName := ⟨"FloatUnit$Format", "sort", "(J)I"⟩
abbrev cL_negate : ByteArray := method_12_code
def yL_negate : MethodName := ⟨"FloatUnitLaw", "negate", "(LFloatUnit;ZII[J)I"⟩
abbrev cU_negate : ByteArray := prog_1_method_12_code
def yU_negate : MethodName := ⟨"FloatUnit", "negate", "(ZII)J"⟩
abbrev cM_init : ByteArray := prog_4_method_1_code
def yM_init : MethodName := ⟨"FloatUnitModel", "<init>", "()V"⟩
abbrev cM_thrown : ByteArray := prog_4_method_2_code
def yM_thrown : MethodName := ⟨"FloatUnitModel", "thrown", "()I"⟩
abbrev cM_put : ByteArray := prog_4_method_16_code
def yM_put : MethodName := ⟨"FloatUnitModel", "put", "(IJ)J"⟩
abbrev cM_in : ByteArray := prog_4_method_4_code
def yM_in : MethodName := ⟨"FloatUnitModel", "in", "(II)Z"⟩
abbrev cM_fails : ByteArray := prog_4_method_3_code
def yM_fails : MethodName := ⟨"FloatUnitModel", "fails", "(Z)Z"⟩
abbrev cM_bits : ByteArray := prog_4_method_17_code
def yM_bits : MethodName := ⟨"FloatUnitModel", "bits", "(I)J"⟩
abbrev cM_mode : ByteArray := prog_4_method_18_code
def yM_mode : MethodName := ⟨"FloatUnitModel", "mode", "(I)I"⟩
abbrev cM_flags : ByteArray := prog_4_method_19_code
def yM_flags : MethodName := ⟨"FloatUnitModel", "flags", "(I)I"⟩
abbrev cM_work : ByteArray := prog_4_method_20_code
def yM_work : MethodName := ⟨"FloatUnitModel", "work", "(IZIII)J"⟩
abbrev cM_format : ByteArray := prog_4_method_5_code
def yM_format : MethodName := ⟨"FloatUnitModel", "format", "(Z)V"⟩
abbrev cM_takeBoth : ByteArray := prog_4_method_7_code
def yM_takeBoth : MethodName := ⟨"FloatUnitModel", "takeBoth", "(II)V"⟩
abbrev cM_take : ByteArray := prog_4_method_6_code
def yM_take : MethodName := ⟨"FloatUnitModel", "take", "(I)V"⟩
abbrev cM_none : ByteArray := prog_4_method_9_code
def yM_none : MethodName := ⟨"FloatUnitModel", "none", "()J"⟩
abbrev cM_made : ByteArray := prog_4_method_8_code
def yM_made : MethodName := ⟨"FloatUnitModel", "made", "(IJJ)J"⟩
abbrev cM_sum : ByteArray := prog_4_method_21_code
def yM_sum : MethodName := ⟨"FloatUnitModel", "sum", "(I)J"⟩
abbrev cM_invalid : ByteArray := prog_4_method_11_code
def yM_invalid : MethodName := ⟨"FloatUnitModel", "invalid", "()J"⟩
abbrev cM_endless : ByteArray := prog_4_method_10_code
def yM_endless : MethodName := ⟨"FloatUnitModel", "endless", "(I)J"⟩
abbrev cM_clear : ByteArray := prog_4_method_12_code
def yM_clear : MethodName := ⟨"FloatUnitModel", "clear", "()V"⟩
abbrev cM_lay : ByteArray := prog_4_method_13_code
def yM_lay : MethodName := ⟨"FloatUnitModel", "lay", "(JI)V"⟩
abbrev cM_rounded : ByteArray := prog_4_method_15_code
def yM_rounded : MethodName := ⟨"FloatUnitModel", "rounded", "(IIZ)J"⟩
abbrev cM_highest : ByteArray := prog_4_method_14_code
def yM_highest : MethodName := ⟨"FloatUnitModel", "highest", "()I"⟩
abbrev cM_product : ByteArray := prog_4_method_22_code
def yM_product : MethodName := ⟨"FloatUnitModel", "product", "()J"⟩
abbrev cM_quotient : ByteArray := prog_4_method_23_code
def yM_quotient : MethodName := ⟨"FloatUnitModel", "quotient", "()J"⟩
abbrev cM_rest : ByteArray := prog_4_method_24_code
def yM_rest : MethodName := ⟨"FloatUnitModel", "rest", "()J"⟩
abbrev cM_compare : ByteArray := prog_4_method_25_code
def yM_compare : MethodName := ⟨"FloatUnitModel", "compare", "(ZIII)I"⟩
abbrev cM_bit : ByteArray := prog_4_method_26_code
def yM_bit : MethodName := ⟨"FloatUnitModel", "bit", "(JI)I"⟩
abbrev cM_of : ByteArray := prog_4_method_27_code
def yM_of : MethodName := ⟨"FloatUnitModel", "of", "(ZIJ)J"⟩
abbrev cM_whole : ByteArray := prog_4_method_28_code
def yM_whole : MethodName := ⟨"FloatUnitModel", "whole", "(ZIZ)J"⟩
abbrev cM_turn : ByteArray := prog_4_method_29_code
def yM_turn : MethodName := ⟨"FloatUnitModel", "turn", "(ZII)J"⟩
abbrev cM_kind : ByteArray := prog_4_method_30_code
def yM_kind : MethodName := ⟨"FloatUnitModel", "kind", "(ZI)I"⟩
abbrev cM_negate : ByteArray := prog_4_method_31_code
def yM_negate : MethodName := ⟨"FloatUnitModel", "negate", "(ZII)J"⟩
theorem w_0 : Cond.initialized "FloatUnitLaw" ∈ bigW := big_of1 0 rfl rfl
theorem w_1 : Cond.initialized "FloatUnit" ∈ bigW := big_of1 1 rfl rfl
theorem w_2 : Cond.initialized "FloatUnitModel" ∈ bigW := big_of1 2 rfl rfl
theorem w_3 : Cond.initialized "java/lang/Throwable" ∈ bigW := big_of1 3 rfl rfl
theorem w_4 : Cond.initialized "java/lang/Exception" ∈ bigW := big_of1 4 rfl rfl
theorem w_5 : Cond.initialized "java/lang/RuntimeException" ∈ bigW := big_of1 5 rfl rfl
theorem w_6 : Cond.initialized "java/lang/IllegalArgumentException" ∈ bigW := big_of1 6 rfl rfl
theorem w_7 : Cond.initialized "java/lang/Enum" ∈ bigW := big_of1 7 rfl rfl
theorem w_8 : Cond.initialized "FloatUnit$Format" ∈ bigW := big_of1 8 rfl rfl
theorem w_9 : Cond.initialized "java/lang/Math" ∈ bigW := big_of1 9 rfl rfl
theorem w_10 : Cond.classLink "FloatUnitLaw" 8 "FloatUnit" ∈ bigW := big_of1 10 rfl rfl
theorem w_11 : Cond.instantiable "FloatUnit" 3 ∈ bigW := big_of1 11 rfl rfl
theorem w_12 : Cond.methodLink "FloatUnitLaw" 50 yU_init ∈ bigW := big_of1 12 rfl rfl
theorem w_13 : Cond.instanceMethod yU_init ∈ bigW := big_of1 13 rfl rfl
theorem w_14 : Cond.code yU_init cU_init 1 none ∈ bigW := big_of1 14 rfl rfl
theorem w_15 : Cond.methodLink "FloatUnit" 3 ⟨"java/lang/Object", "<init>", "()V"⟩ ∈ bigW := big_of1 15 rfl rfl
theorem w_16 : Cond.instanceMethod ⟨"java/lang/Object", "<init>", "()V"⟩ ∈ bigW := big_of1 16 rfl rfl
theorem w_17 : Cond.code ⟨"java/lang/Object", "<init>", "()V"⟩ object_method_1_code 1 none ∈ bigW := big_of1 17 rfl rfl
theorem w_18 : Cond.fieldLink "FloatUnit" 9 "FloatUnit" "registers" "[J" ∈ bigW := big_of1 18 rfl rfl
theorem w_19 : Cond.fieldLink "FloatUnit" 13 "FloatUnit" "currentMode" "I" ∈ bigW := big_of1 19 rfl rfl
theorem w_20 : Cond.fieldLink "FloatUnit" 17 "FloatUnit" "raised" "I" ∈ bigW := big_of1 20 rfl rfl
theorem w_21 : Cond.laysFinal "FloatUnit" "FloatUnit" "registers" "[J" ∈ bigW := big_of1 21 rfl rfl
theorem w_22 : Cond.soleField "FloatUnit" "registers" ∈ bigW := big_of1 22 rfl rfl
theorem w_23 : Cond.lays "FloatUnit" "FloatUnit" "currentMode" "I" ∈ bigW := big_of1 23 rfl rfl
theorem w_24 : Cond.soleField "FloatUnit" "currentMode" ∈ bigW := big_of1 24 rfl rfl
theorem w_25 : Cond.lays "FloatUnit" "FloatUnit" "raised" "I" ∈ bigW := big_of1 25 rfl rfl
theorem w_26 : Cond.soleField "FloatUnit" "raised" ∈ bigW := big_of1 26 rfl rfl
theorem w_27 : Cond.superclass "FloatUnit" "java/lang/Object" ∈ bigW := big_of1 27 rfl rfl
theorem w_28 : Cond.arrayClass .long ∈ bigW := big_of1 28 rfl rfl
theorem w_29 : Cond.methodLink "FloatUnitLaw" 73 yU_flags ∈ bigW := big_of1 29 rfl rfl
theorem w_30 : Cond.instanceMethod yU_flags ∈ bigW := big_of1 30 rfl rfl
theorem w_31 : Cond.selects "FloatUnit" yU_flags yU_flags ∈ bigW := big_of1 31 rfl rfl
theorem w_32 : Cond.code yU_flags cU_flags 3 (some .int) ∈ bigW := big_of1 32 rfl rfl
theorem w_33 : Cond.methodLink "FloatUnitLaw" 56 yL_put ∈ bigW := big_of1 33 rfl rfl
theorem w_34 : Cond.static yL_put ∈ bigW := big_of1 34 rfl rfl
theorem w_35 : Cond.codeWith yL_put cL_put 6 (some .int) [(0, 10, 13, 13)] ∈ bigW := big_of1 35 rfl rfl
theorem w_36 : Cond.classLink "FloatUnitLaw" 13 "java/lang/IllegalArgumentException" ∈ bigW := big_of1 36 rfl rfl
theorem w_37 : Cond.methodLink "FloatUnitLaw" 7 yU_put ∈ bigW := big_of1 37 rfl rfl
theorem w_38 : Cond.instanceMethod yU_put ∈ bigW := big_of1 38 rfl rfl
theorem w_39 : Cond.selects "FloatUnit" yU_put yU_put ∈ bigW := big_of1 39 rfl rfl
theorem w_40 : Cond.code yU_put cU_put 6 (some .long) ∈ bigW := big_of1 40 rfl rfl
theorem w_41 : Cond.methodLink "FloatUnit" 20 yU_requireRegister ∈ bigW := big_of1 41 rfl rfl
theorem w_42 : Cond.static yU_requireRegister ∈ bigW := big_of1 42 rfl rfl
theorem w_43 : Cond.code yU_requireRegister cU_requireRegister 1 none ∈ bigW := big_of1 43 rfl rfl
theorem w_44 : Cond.classLink "FloatUnit" 24 "java/lang/IllegalArgumentException" ∈ bigW := big_of1 44 rfl rfl
theorem w_45 : Cond.instantiable "java/lang/IllegalArgumentException" 6 ∈ bigW := big_of1 45 rfl rfl
theorem w_53 : Cond.selects "java/lang/IllegalArgumentException" ⟨"java/lang/Throwable", "fillInStackTrace", "(I)Ljava/lang/Throwable;"⟩ ⟨"java/lang/Throwable", "fillInStackTrace", "(I)Ljava/lang/Throwable;"⟩ ∈ bigW := big_of1 53 rfl rfl
theorem w_54 : Cond.selects "java/lang/IllegalArgumentException" ⟨"java/lang/Throwable", "fillInStackTrace", "()Ljava/lang/Throwable;"⟩ ⟨"java/lang/Throwable", "fillInStackTrace", "()Ljava/lang/Throwable;"⟩ ∈ bigW := big_of1 54 rfl rfl
theorem w_55 : Cond.lays "java/lang/IllegalArgumentException" "java/lang/Throwable" "cause" "Ljava/lang/Throwable;" ∈ bigW := big_of1 55 rfl rfl
theorem w_56 : Cond.lays "java/lang/Throwable" "java/lang/Throwable" "cause" "Ljava/lang/Throwable;" ∈ bigW := big_of1 56 rfl rfl
theorem w_57 : Cond.lays "java/lang/IllegalArgumentException" "java/lang/Throwable" "stackTrace" "[Ljava/lang/StackTraceElement;" ∈ bigW := big_of1 57 rfl rfl
theorem w_58 : Cond.lays "java/lang/Throwable" "java/lang/Throwable" "stackTrace" "[Ljava/lang/StackTraceElement;" ∈ bigW := big_of1 58 rfl rfl
theorem w_59 : Cond.lays "java/lang/IllegalArgumentException" "java/lang/Throwable" "suppressedExceptions" "Ljava/util/List;" ∈ bigW := big_of1 59 rfl rfl
theorem w_60 : Cond.lays "java/lang/Throwable" "java/lang/Throwable" "suppressedExceptions" "Ljava/util/List;" ∈ bigW := big_of1 60 rfl rfl
theorem w_61 : Cond.lays "java/lang/IllegalArgumentException" "java/lang/Throwable" "detailMessage" "Ljava/lang/String;" ∈ bigW := big_of1 61 rfl rfl
theorem w_62 : Cond.lays "java/lang/Throwable" "java/lang/Throwable" "detailMessage" "Ljava/lang/String;" ∈ bigW := big_of1 62 rfl rfl
theorem w_63 : Cond.lays "java/lang/IllegalArgumentException" "java/lang/Throwable" "backtrace" "Ljava/lang/Object;" ∈ bigW := big_of1 63 rfl rfl
theorem w_64 : Cond.lays "java/lang/Throwable" "java/lang/Throwable" "backtrace" "Ljava/lang/Object;" ∈ bigW := big_of1 64 rfl rfl
theorem w_65 : Cond.fieldLink "java/lang/Throwable" 198 "java/lang/Throwable" "backtrace" "Ljava/lang/Object;" ∈ bigW := big_of1 65 rfl rfl
theorem w_66 : Cond.superclass "java/lang/Throwable" "java/lang/Object" ∈ bigW := big_of1 66 rfl rfl
theorem w_67 : Cond.instanceMethod ⟨"java/lang/Throwable", "<init>", "()V"⟩ ∈ bigW := big_of1 67 rfl rfl
theorem w_68 : Cond.code ⟨"java/lang/Throwable", "<init>", "()V"⟩ prog_11_method_1_code 1 none ∈ bigW := big_of1 68 rfl rfl
theorem w_69 : Cond.methodLink "java/lang/Throwable" 1 ⟨"java/lang/Object", "<init>", "()V"⟩ ∈ bigW := big_of1 69 rfl rfl
theorem w_70 : Cond.fieldLink "java/lang/Throwable" 13 "java/lang/Throwable" "UNASSIGNED_STACK" "[Ljava/lang/StackTraceElement;" ∈ bigW := big_of1 70 rfl rfl
theorem w_72 : Cond.fieldLink "java/lang/Throwable" 20 "java/lang/Throwable" "SUPPRESSED_SENTINEL" "Ljava/util/List;" ∈ bigW := big_of1 72 rfl rfl
theorem w_74 : Cond.methodLink "java/lang/Throwable" 27 ⟨"java/lang/Throwable", "fillInStackTrace", "()Ljava/lang/Throwable;"⟩ ∈ bigW := big_of1 74 rfl rfl
theorem w_75 : Cond.instanceMethod ⟨"java/lang/Throwable", "fillInStackTrace", "()Ljava/lang/Throwable;"⟩ ∈ bigW := big_of1 75 rfl rfl
theorem w_76 : Cond.sameMethod "java/lang/Throwable" "java/lang/Throwable" "fillInStackTrace" "()Ljava/lang/Throwable;" ∈ bigW := big_of1 76 rfl rfl
theorem w_78 : Cond.methodLink "java/lang/Throwable" 202 ⟨"java/lang/Throwable", "fillInStackTrace", "(I)Ljava/lang/Throwable;"⟩ ∈ bigW := big_of1 78 rfl rfl
theorem w_80 : Cond.instanceMethod ⟨"java/lang/Throwable", "fillInStackTrace", "(I)Ljava/lang/Throwable;"⟩ ∈ bigW := big_of1 80 rfl rfl
theorem w_81 : Cond.instantiable "java/lang/Throwable" 6 ∈ bigW := big_of1 81 rfl rfl
theorem w_84 : Cond.methodLink "FloatUnit" 28 ⟨"java/lang/IllegalArgumentException", "<init>", "(Ljava/lang/String;)V"⟩ ∈ bigW := big_of1 84 rfl rfl
theorem w_85 : Cond.instanceMethod ⟨"java/lang/IllegalArgumentException", "<init>", "(Ljava/lang/String;)V"⟩ ∈ bigW := big_of1 85 rfl rfl
theorem w_86 : Cond.code ⟨"java/lang/IllegalArgumentException", "<init>", "(Ljava/lang/String;)V"⟩ prog_7_method_2_code 2 none ∈ bigW := big_of1 86 rfl rfl
theorem w_87 : Cond.methodLink "java/lang/IllegalArgumentException" 7 ⟨"java/lang/RuntimeException", "<init>", "(Ljava/lang/String;)V"⟩ ∈ bigW := big_of1 87 rfl rfl
theorem w_88 : Cond.instanceMethod ⟨"java/lang/RuntimeException", "<init>", "(Ljava/lang/String;)V"⟩ ∈ bigW := big_of1 88 rfl rfl
theorem w_89 : Cond.code ⟨"java/lang/RuntimeException", "<init>", "(Ljava/lang/String;)V"⟩ prog_9_method_2_code 2 none ∈ bigW := big_of1 89 rfl rfl
theorem w_90 : Cond.methodLink "java/lang/RuntimeException" 7 ⟨"java/lang/Exception", "<init>", "(Ljava/lang/String;)V"⟩ ∈ bigW := big_of1 90 rfl rfl
theorem w_91 : Cond.instanceMethod ⟨"java/lang/Exception", "<init>", "(Ljava/lang/String;)V"⟩ ∈ bigW := big_of1 91 rfl rfl
theorem w_92 : Cond.code ⟨"java/lang/Exception", "<init>", "(Ljava/lang/String;)V"⟩ prog_6_method_2_code 2 none ∈ bigW := big_of1 92 rfl rfl
theorem w_93 : Cond.methodLink "java/lang/Exception" 7 ⟨"java/lang/Throwable", "<init>", "(Ljava/lang/String;)V"⟩ ∈ bigW := big_of1 93 rfl rfl
theorem w_94 : Cond.instanceMethod ⟨"java/lang/Throwable", "<init>", "(Ljava/lang/String;)V"⟩ ∈ bigW := big_of1 94 rfl rfl
theorem w_95 : Cond.code ⟨"java/lang/Throwable", "<init>", "(Ljava/lang/String;)V"⟩ prog_11_method_2_code 2 none ∈ bigW := big_of1 95 rfl rfl
theorem w_96 : Cond.fieldLink "java/lang/Throwable" 198 "java/lang/Throwable" "backtrace" "Ljava/lang/Object;" ∈ bigW := big_of1 96 rfl rfl
theorem w_97 : Cond.fieldLink "java/lang/Throwable" 31 "java/lang/Throwable" "detailMessage" "Ljava/lang/String;" ∈ bigW := big_of1 97 rfl rfl
theorem w_98 : Cond.fieldLink "java/lang/Throwable" 7 "java/lang/Throwable" "cause" "Ljava/lang/Throwable;" ∈ bigW := big_of1 98 rfl rfl
theorem w_99 : Cond.fieldLink "java/lang/Throwable" 17 "java/lang/Throwable" "stackTrace" "[Ljava/lang/StackTraceElement;" ∈ bigW := big_of1 99 rfl rfl
theorem w_100 : Cond.fieldLink "java/lang/Throwable" 24 "java/lang/Throwable" "suppressedExceptions" "Ljava/util/List;" ∈ bigW := big_of1 100 rfl rfl
theorem w_101 : Cond.soleField "java/lang/Throwable" "backtrace" ∈ bigW := big_of1 101 rfl rfl
theorem w_102 : Cond.soleField "java/lang/Throwable" "detailMessage" ∈ bigW := big_of1 102 rfl rfl
theorem w_103 : Cond.soleField "java/lang/Throwable" "cause" ∈ bigW := big_of1 103 rfl rfl
theorem w_104 : Cond.soleField "java/lang/Throwable" "stackTrace" ∈ bigW := big_of1 104 rfl rfl
theorem w_105 : Cond.lays "java/lang/IllegalArgumentException" "java/lang/Throwable" "depth" "I" ∈ bigW := big_of1 105 rfl rfl
theorem w_106 : Cond.soleField "java/lang/Throwable" "depth" ∈ bigW := big_of1 106 rfl rfl
theorem w_107 : Cond.soleField "java/lang/Throwable" "suppressedExceptions" ∈ bigW := big_of1 107 rfl rfl
theorem w_108 : Cond.superclass "java/lang/IllegalArgumentException" "java/lang/RuntimeException" ∈ bigW := big_of1 108 rfl rfl
theorem w_109 : Cond.arrayClass .byte ∈ bigW := big_of1 109 rfl rfl
theorem w_110 : Cond.methodLink "FloatUnitLaw" 66 yL_bits ∈ bigW := big_of1 110 rfl rfl
theorem w_111 : Cond.static yL_bits ∈ bigW := big_of1 111 rfl rfl
theorem w_112 : Cond.codeWith yL_bits cL_bits 4 (some .int) [(0, 8, 11, 13)] ∈ bigW := big_of1 112 rfl rfl
theorem w_113 : Cond.methodLink "FloatUnitLaw" 15 yU_bits ∈ bigW := big_of1 113 rfl rfl
theorem w_114 : Cond.instanceMethod yU_bits ∈ bigW := big_of1 114 rfl rfl
theorem w_115 : Cond.selects "FloatUnit" yU_bits yU_bits ∈ bigW := big_of1 115 rfl rfl
theorem w_116 : Cond.code yU_bits cU_bits 2 (some .long) ∈ bigW := big_of1 116 rfl rfl
theorem w_117 : Cond.methodLink "FloatUnitLaw" 70 yL_mode ∈ bigW := big_of1 117 rfl rfl
theorem w_118 : Cond.static yL_mode ∈ bigW := big_of1 118 rfl rfl
theorem w_119 : Cond.codeWith yL_mode cL_mode 4 (some .int) [(0, 9, 12, 13)] ∈ bigW := big_of1 119 rfl rfl
theorem w_120 : Cond.methodLink "FloatUnitLaw" 19 yU_mode ∈ bigW := big_of1 120 rfl rfl
theorem w_121 : Cond.instanceMethod yU_mode ∈ bigW := big_of1 121 rfl rfl
theorem w_122 : Cond.selects "FloatUnit" yU_mode yU_mode ∈ bigW := big_of1 122 rfl rfl
theorem w_123 : Cond.code yU_mode cU_mode 3 (some .int) ∈ bigW := big_of1 123 rfl rfl
theorem w_125 : Cond.methodLink "FloatUnitLaw" 77 yL_work ∈ bigW := big_of1 125 rfl rfl
theorem w_126 : Cond.static yL_work ∈ bigW := big_of1 126 rfl rfl
theorem w_127 : Cond.codeWith yL_work cL_work 8 (some .int) [(0, 15, 18, 13)] ∈ bigW := big_of1 127 rfl rfl
theorem w_128 : Cond.methodLink "FloatUnitLaw" 23 yU_work ∈ bigW := big_of1 128 rfl rfl
theorem w_129 : Cond.instanceMethod yU_work ∈ bigW := big_of1 129 rfl rfl
theorem w_130 : Cond.selects "FloatUnit" yU_work yU_work ∈ bigW := big_of1 130 rfl rfl
theorem w_131 : Cond.code yU_work cU_work 7 (some .long) ∈ bigW := big_of1 131 rfl rfl
theorem w_133 : Cond.methodLink "FloatUnit" 33 yU_format ∈ bigW := big_of1 133 rfl rfl
theorem w_134 : Cond.static yU_format ∈ bigW := big_of1 134 rfl rfl
theorem w_135 : Cond.code yU_format cU_format 1 (some (.object "FloatUnit$Format")) ∈ bigW := big_of1 135 rfl rfl
theorem w_136 : Cond.fieldLink "FloatUnit" 97 "FloatUnit$Format" "NARROW" "LFloatUnit$Format;" ∈ bigW := big_of1 136 rfl rfl
theorem w_138 : Cond.fieldLink "FloatUnit" 101 "FloatUnit$Format" "WIDE" "LFloatUnit$Format;" ∈ bigW := big_of1 138 rfl rfl
theorem w_140 : Cond.methodLink "FloatUnit" 37 yF_own ∈ bigW := big_of1 140 rfl rfl
theorem w_141 : Cond.instanceMethod yF_own ∈ bigW := big_of1 141 rfl rfl
theorem w_142 : Cond.selects "FloatUnit$Format" yF_own yF_own ∈ bigW := big_of1 142 rfl rfl
theorem w_143 : Cond.code yF_own cF_own 3 (some .long) ∈ bigW := big_of1 143 rfl rfl
theorem w_144 : Cond.methodLink "FloatUnit" 43 yU_result ∈ bigW := big_of1 144 rfl rfl
theorem w_146 : Cond.instanceMethod yU_result ∈ bigW := big_of1 146 rfl rfl
theorem w_147 : Cond.code yU_result cU_result 7 (some .long) ∈ bigW := big_of1 147 rfl rfl
theorem w_148 : Cond.methodLink "FloatUnit" 51 yF_isNone ∈ bigW := big_of1 148 rfl rfl
theorem w_149 : Cond.instanceMethod yF_isNone ∈ bigW := big_of1 149 rfl rfl
theorem w_150 : Cond.selects "FloatUnit$Format" yF_isNone yF_isNone ∈ bigW := big_of1 150 rfl rfl
theorem w_151 : Cond.code yF_isNone cF_isNone 3 (some .boolean) ∈ bigW := big_of1 151 rfl rfl
theorem w_152 : Cond.methodLink "FloatUnit$Format" 50 yF_size ∈ bigW := big_of1 152 rfl rfl
theorem w_153 : Cond.instanceMethod yF_size ∈ bigW := big_of1 153 rfl rfl
theorem w_154 : Cond.selects "FloatUnit$Format" yF_size yF_size ∈ bigW := big_of1 154 rfl rfl
theorem w_155 : Cond.code yF_size cF_size 3 (some .long) ∈ bigW := big_of1 155 rfl rfl
theorem w_156 : Cond.methodLink "FloatUnit" 88 yF_none ∈ bigW := big_of1 156 rfl rfl
theorem w_157 : Cond.instanceMethod yF_none ∈ bigW := big_of1 157 rfl rfl
theorem w_158 : Cond.selects "FloatUnit$Format" yF_none yF_none ∈ bigW := big_of1 158 rfl rfl
theorem w_159 : Cond.code yF_none cF_none 1 (some .long) ∈ bigW := big_of1 159 rfl rfl
theorem w_160 : Cond.methodLink "FloatUnit" 104 yU_sum ∈ bigW := big_of1 160 rfl rfl
theorem w_162 : Cond.instanceMethod yU_sum ∈ bigW := big_of1 162 rfl rfl
theorem w_163 : Cond.code yU_sum cU_sum 10 (some .long) ∈ bigW := big_of1 163 rfl rfl
theorem w_164 : Cond.methodLink "FloatUnit" 69 yF_isMinus ∈ bigW := big_of1 164 rfl rfl
theorem w_165 : Cond.instanceMethod yF_isMinus ∈ bigW := big_of1 165 rfl rfl
theorem w_166 : Cond.selects "FloatUnit$Format" yF_isMinus yF_isMinus ∈ bigW := big_of1 166 rfl rfl
theorem w_167 : Cond.code yF_isMinus cF_isMinus 3 (some .boolean) ∈ bigW := big_of1 167 rfl rfl
theorem w_168 : Cond.methodLink "FloatUnit" 116 yF_isEndless ∈ bigW := big_of1 168 rfl rfl
theorem w_169 : Cond.instanceMethod yF_isEndless ∈ bigW := big_of1 169 rfl rfl
theorem w_170 : Cond.selects "FloatUnit$Format" yF_isEndless yF_isEndless ∈ bigW := big_of1 170 rfl rfl
theorem w_171 : Cond.code yF_isEndless cF_isEndless 3 (some .boolean) ∈ bigW := big_of1 171 rfl rfl
theorem w_172 : Cond.methodLink "FloatUnit" 119 yU_invalid ∈ bigW := big_of1 172 rfl rfl
theorem w_174 : Cond.instanceMethod yU_invalid ∈ bigW := big_of1 174 rfl rfl
theorem w_175 : Cond.code yU_invalid cU_invalid 2 (some .long) ∈ bigW := big_of1 175 rfl rfl
theorem w_176 : Cond.methodLink "FloatUnit" 66 yU_raise ∈ bigW := big_of1 176 rfl rfl
theorem w_178 : Cond.instanceMethod yU_raise ∈ bigW := big_of1 178 rfl rfl
theorem w_179 : Cond.code yU_raise cU_raise 2 none ∈ bigW := big_of1 179 rfl rfl
theorem w_180 : Cond.methodLink "FloatUnit" 123 yF_power ∈ bigW := big_of1 180 rfl rfl
theorem w_181 : Cond.instanceMethod yF_power ∈ bigW := big_of1 181 rfl rfl
theorem w_182 : Cond.selects "FloatUnit$Format" yF_power yF_power ∈ bigW := big_of1 182 rfl rfl
theorem w_183 : Cond.code yF_power cF_power 4 (some .int) ∈ bigW := big_of1 183 rfl rfl
theorem w_184 : Cond.methodLink "FloatUnit$Format" 74 ⟨"java/lang/Math", "max", "(II)I"⟩ ∈ bigW := big_of1 184 rfl rfl
theorem w_185 : Cond.static ⟨"java/lang/Math", "max", "(II)I"⟩ ∈ bigW := big_of1 185 rfl rfl
theorem w_186 : Cond.code ⟨"java/lang/Math", "max", "(II)I"⟩ prog_8_method_65_code 2 (some .int) ∈ bigW := big_of1 186 rfl rfl
theorem w_187 : Cond.methodLink "FloatUnit$Format" 80 yF_unitPower ∈ bigW := big_of1 187 rfl rfl
theorem w_188 : Cond.instanceMethod yF_unitPower ∈ bigW := big_of1 188 rfl rfl
theorem w_189 : Cond.selects "FloatUnit$Format" yF_unitPower yF_unitPower ∈ bigW := big_of1 189 rfl rfl
theorem w_190 : Cond.code yF_unitPower cF_unitPower 2 (some .int) ∈ bigW := big_of1 190 rfl rfl
theorem w_191 : Cond.methodLink "FloatUnit$Format" 67 yF_plain ∈ bigW := big_of1 191 rfl rfl
theorem w_193 : Cond.instanceMethod yF_plain ∈ bigW := big_of1 193 rfl rfl
theorem w_194 : Cond.instantiable "FloatUnit$Format" 8 ∈ bigW := big_of1 194 rfl rfl
theorem w_195 : Cond.code yF_plain cF_plain 5 (some .long) ∈ bigW := big_of1 195 rfl rfl
theorem w_196 : Cond.methodLink "FloatUnit$Format" 70 yF_lift ∈ bigW := big_of1 196 rfl rfl
theorem w_197 : Cond.static yF_lift ∈ bigW := big_of1 197 rfl rfl
theorem w_198 : Cond.code yF_lift cF_lift 2 (some .int) ∈ bigW := big_of1 198 rfl rfl
abbrev nwFree : Cond := Cond.methodLinkNest "FloatUnit$Format" 84 yU_freePlaces "FloatUnit"
theorem w_200 : Cond.static yU_freePlaces ∈ bigW := big_of1 200 rfl rfl
theorem w_201 : Cond.code yU_freePlaces cU_freePlaces 4 (some .int) ∈ bigW := big_of1 201 rfl rfl
theorem w_202 : Cond.methodLink "FloatUnit" 126 ⟨"java/lang/Math", "max", "(II)I"⟩ ∈ bigW := big_of1 202 rfl rfl
theorem w_203 : Cond.methodLink "FloatUnit" 132 yU_term ∈ bigW := big_of1 203 rfl rfl
theorem w_204 : Cond.static yU_term ∈ bigW := big_of1 204 rfl rfl
theorem w_205 : Cond.code yU_term cU_term 7 (some .long) ∈ bigW := big_of1 205 rfl rfl
theorem w_206 : Cond.methodLink "FloatUnit" 136 yF_significand ∈ bigW := big_of1 206 rfl rfl
theorem w_207 : Cond.instanceMethod yF_significand ∈ bigW := big_of1 207 rfl rfl
theorem w_208 : Cond.selects "FloatUnit$Format" yF_significand yF_significand ∈ bigW := big_of1 208 rfl rfl
theorem w_209 : Cond.code yF_significand cF_significand 5 (some .long) ∈ bigW := big_of1 209 rfl rfl
theorem w_210 : Cond.methodLink "FloatUnit" 139 yU_pressed ∈ bigW := big_of1 210 rfl rfl
theorem w_211 : Cond.static yU_pressed ∈ bigW := big_of1 211 rfl rfl
theorem w_212 : Cond.code yU_pressed cU_pressed 5 (some .long) ∈ bigW := big_of1 212 rfl rfl
theorem w_213 : Cond.methodLink "FloatUnit" 58 yF_zero ∈ bigW := big_of1 213 rfl rfl
theorem w_214 : Cond.instanceMethod yF_zero ∈ bigW := big_of1 214 rfl rfl
theorem w_215 : Cond.selects "FloatUnit$Format" yF_zero yF_zero ∈ bigW := big_of1 215 rfl rfl
theorem w_216 : Cond.code yF_zero cF_zero 2 (some .long) ∈ bigW := big_of1 216 rfl rfl
theorem w_217 : Cond.methodLink "FloatUnit$Format" 87 yF_signed ∈ bigW := big_of1 217 rfl rfl
theorem w_218 : Cond.instanceMethod yF_signed ∈ bigW := big_of1 218 rfl rfl
theorem w_219 : Cond.selects "FloatUnit$Format" yF_signed yF_signed ∈ bigW := big_of1 219 rfl rfl
theorem w_220 : Cond.code yF_signed cF_signed 4 (some .long) ∈ bigW := big_of1 220 rfl rfl
theorem w_221 : Cond.methodLink "FloatUnit" 62 yU_rounded ∈ bigW := big_of1 221 rfl rfl
theorem w_223 : Cond.instanceMethod yU_rounded ∈ bigW := big_of1 223 rfl rfl
theorem w_224 : Cond.code yU_rounded cU_rounded 18 (some .long) ∈ bigW := big_of1 224 rfl rfl
theorem w_225 : Cond.methodLink "FloatUnit" 171 yU_freePlaces ∈ bigW := big_of1 225 rfl rfl
theorem w_226 : Cond.methodLink "FloatUnit" 177 yU_huge ∈ bigW := big_of1 226 rfl rfl
theorem w_228 : Cond.instanceMethod yU_huge ∈ bigW := big_of1 228 rfl rfl
theorem w_229 : Cond.code yU_huge cU_huge 4 (some .long) ∈ bigW := big_of1 229 rfl rfl
theorem w_230 : Cond.methodLink "FloatUnit" 199 yF_greatest ∈ bigW := big_of1 230 rfl rfl
theorem w_231 : Cond.instanceMethod yF_greatest ∈ bigW := big_of1 231 rfl rfl
theorem w_232 : Cond.selects "FloatUnit$Format" yF_greatest yF_greatest ∈ bigW := big_of1 232 rfl rfl
theorem w_233 : Cond.code yF_greatest cF_greatest 2 (some .long) ∈ bigW := big_of1 233 rfl rfl
theorem w_234 : Cond.methodLink "FloatUnit" 146 yF_endless ∈ bigW := big_of1 234 rfl rfl
theorem w_235 : Cond.instanceMethod yF_endless ∈ bigW := big_of1 235 rfl rfl
theorem w_236 : Cond.selects "FloatUnit$Format" yF_endless yF_endless ∈ bigW := big_of1 236 rfl rfl
theorem w_237 : Cond.code yF_endless cF_endless 2 (some .long) ∈ bigW := big_of1 237 rfl rfl
theorem w_238 : Cond.methodLink "FloatUnit" 181 yF_unitPower ∈ bigW := big_of1 238 rfl rfl
theorem w_239 : Cond.methodLink "FloatUnit" 185 yU_goesAwayFromZero ∈ bigW := big_of1 239 rfl rfl
theorem w_241 : Cond.instanceMethod yU_goesAwayFromZero ∈ bigW := big_of2 1 rfl rfl
theorem w_242 : Cond.code yU_goesAwayFromZero cU_goesAwayFromZero 8 (some .boolean) ∈ bigW := big_of2 2 rfl rfl
theorem w_243 : Cond.methodLink "FloatUnit" 195 yF_signed ∈ bigW := big_of2 3 rfl rfl
theorem w_244 : Cond.methodLink "FloatUnit" 92 yF_opposite ∈ bigW := big_of2 4 rfl rfl
theorem w_245 : Cond.instanceMethod yF_opposite ∈ bigW := big_of2 5 rfl rfl
theorem w_246 : Cond.selects "FloatUnit$Format" yF_opposite yF_opposite ∈ bigW := big_of2 6 rfl rfl
theorem w_247 : Cond.code yF_opposite cF_opposite 3 (some .long) ∈ bigW := big_of2 7 rfl rfl
theorem w_248 : Cond.methodLink "FloatUnit" 107 yU_product ∈ bigW := big_of2 8 rfl rfl
theorem w_250 : Cond.instanceMethod yU_product ∈ bigW := big_of2 10 rfl rfl
theorem w_251 : Cond.code yU_product cU_product 11 (some .long) ∈ bigW := big_of2 11 rfl rfl
theorem w_252 : Cond.methodLink "FloatUnit" 143 yF_isZero ∈ bigW := big_of2 12 rfl rfl
theorem w_253 : Cond.instanceMethod yF_isZero ∈ bigW := big_of2 13 rfl rfl
theorem w_254 : Cond.selects "FloatUnit$Format" yF_isZero yF_isZero ∈ bigW := big_of2 14 rfl rfl
theorem w_255 : Cond.code yF_isZero cF_isZero 3 (some .boolean) ∈ bigW := big_of2 15 rfl rfl
theorem w_256 : Cond.methodLink "FloatUnit" 149 yU_upperProduct ∈ bigW := big_of2 16 rfl rfl
theorem w_257 : Cond.static yU_upperProduct ∈ bigW := big_of2 17 rfl rfl
theorem w_258 : Cond.code yU_upperProduct cU_upperProduct 21 (some .long) ∈ bigW := big_of2 18 rfl rfl
theorem w_259 : Cond.constantLong "FloatUnit" 153 (4294967295 : Int64) ∈ bigW := big_of2 19 rfl rfl
theorem w_260 : Cond.methodLink "FloatUnit" 110 yU_quotient ∈ bigW := big_of2 20 rfl rfl
theorem w_262 : Cond.instanceMethod yU_quotient ∈ bigW := big_of2 22 rfl rfl
theorem w_263 : Cond.code yU_quotient cU_quotient 15 (some .long) ∈ bigW := big_of2 23 rfl rfl
theorem w_264 : Cond.methodLink "FloatUnit" 155 yU_quotientByZero ∈ bigW := big_of2 24 rfl rfl
theorem w_266 : Cond.instanceMethod yU_quotientByZero ∈ bigW := big_of2 26 rfl rfl
theorem w_267 : Cond.code yU_quotientByZero cU_quotientByZero 5 (some .long) ∈ bigW := big_of2 27 rfl rfl
theorem w_268 : Cond.methodLink "FloatUnit" 113 yU_rest ∈ bigW := big_of2 28 rfl rfl
theorem w_270 : Cond.instanceMethod yU_rest ∈ bigW := big_of2 30 rfl rfl
theorem w_271 : Cond.code yU_rest cU_rest 12 (some .long) ∈ bigW := big_of2 31 rfl rfl
theorem w_272 : Cond.methodLink "FloatUnit" 159 ⟨"java/lang/Math", "min", "(II)I"⟩ ∈ bigW := big_of2 32 rfl rfl
theorem w_273 : Cond.static ⟨"java/lang/Math", "min", "(II)I"⟩ ∈ bigW := big_of2 33 rfl rfl
theorem w_274 : Cond.code ⟨"java/lang/Math", "min", "(II)I"⟩ prog_8_method_69_code 2 (some .int) ∈ bigW := big_of2 34 rfl rfl
theorem w_275 : Cond.methodLink "FloatUnit" 47 yU_keep ∈ bigW := big_of2 35 rfl rfl
theorem w_277 : Cond.instanceMethod yU_keep ∈ bigW := big_of2 37 rfl rfl
theorem w_278 : Cond.code yU_keep cU_keep 4 (some .long) ∈ bigW := big_of2 38 rfl rfl
theorem w_279 : Cond.methodLink "FloatUnitLaw" 81 yL_compare ∈ bigW := big_of2 39 rfl rfl
theorem w_280 : Cond.static yL_compare ∈ bigW := big_of2 40 rfl rfl
theorem w_281 : Cond.codeWith yL_compare cL_compare 7 (some .int) [(0, 14, 17, 13)] ∈ bigW := big_of2 41 rfl rfl
theorem w_282 : Cond.methodLink "FloatUnitLaw" 27 yU_compare ∈ bigW := big_of2 42 rfl rfl
theorem w_283 : Cond.instanceMethod yU_compare ∈ bigW := big_of2 43 rfl rfl
theorem w_284 : Cond.selects "FloatUnit" yU_compare yU_compare ∈ bigW := big_of2 44 rfl rfl
theorem w_285 : Cond.code yU_compare cU_compare 10 (some .int) ∈ bigW := big_of2 45 rfl rfl
theorem w_286 : Cond.methodLink "FloatUnit" 55 yF_rank ∈ bigW := big_of2 46 rfl rfl
theorem w_287 : Cond.instanceMethod yF_rank ∈ bigW := big_of2 47 rfl rfl
theorem w_288 : Cond.selects "FloatUnit$Format" yF_rank yF_rank ∈ bigW := big_of2 48 rfl rfl
theorem w_289 : Cond.code yF_rank cF_rank 3 (some .long) ∈ bigW := big_of2 49 rfl rfl
theorem w_290 : Cond.methodLink "FloatUnit$Format" 64 yF_isMinus ∈ bigW := big_of2 50 rfl rfl
theorem w_291 : Cond.methodLink "FloatUnitLaw" 85 yL_of ∈ bigW := big_of2 51 rfl rfl
theorem w_292 : Cond.static yL_of ∈ bigW := big_of2 52 rfl rfl
theorem w_293 : Cond.codeWith yL_of cL_of 7 (some .int) [(0, 11, 14, 13)] ∈ bigW := big_of2 53 rfl rfl
theorem w_294 : Cond.methodLink "FloatUnitLaw" 31 yU_of ∈ bigW := big_of2 54 rfl rfl
theorem w_295 : Cond.instanceMethod yU_of ∈ bigW := big_of2 55 rfl rfl
theorem w_296 : Cond.selects "FloatUnit" yU_of yU_of ∈ bigW := big_of2 56 rfl rfl
theorem w_297 : Cond.code yU_of cU_of 6 (some .long) ∈ bigW := big_of2 57 rfl rfl
theorem w_298 : Cond.methodLink "FloatUnitLaw" 89 yL_whole ∈ bigW := big_of2 58 rfl rfl
theorem w_299 : Cond.static yL_whole ∈ bigW := big_of2 59 rfl rfl
theorem w_300 : Cond.codeWith yL_whole cL_whole 6 (some .int) [(0, 11, 14, 13)] ∈ bigW := big_of2 60 rfl rfl
theorem w_301 : Cond.methodLink "FloatUnitLaw" 35 yU_whole ∈ bigW := big_of2 61 rfl rfl
theorem w_302 : Cond.instanceMethod yU_whole ∈ bigW := big_of2 62 rfl rfl
theorem w_303 : Cond.selects "FloatUnit" yU_whole yU_whole ∈ bigW := big_of2 63 rfl rfl
theorem w_304 : Cond.code yU_whole cU_whole 14 (some .long) ∈ bigW := big_of2 64 rfl rfl
theorem w_305 : Cond.constantLong "FloatUnit" 72 (2147483647 : Int64) ∈ bigW := big_of2 65 rfl rfl
theorem w_306 : Cond.constantLong "FloatUnit" 74 (9223372036854775807 : Int64) ∈ bigW := big_of2 66 rfl rfl
theorem w_307 : Cond.methodLink "FloatUnit" 76 yU_cut ∈ bigW := big_of2 67 rfl rfl
theorem w_309 : Cond.instanceMethod yU_cut ∈ bigW := big_of2 69 rfl rfl
theorem w_310 : Cond.code yU_cut cU_cut 11 (some .long) ∈ bigW := big_of2 70 rfl rfl
theorem w_311 : Cond.methodLink "FloatUnit" 162 yU_moved ∈ bigW := big_of2 71 rfl rfl
theorem w_312 : Cond.static yU_moved ∈ bigW := big_of2 72 rfl rfl
theorem w_313 : Cond.code yU_moved cU_moved 3 (some .long) ∈ bigW := big_of2 73 rfl rfl
theorem w_314 : Cond.methodLink "FloatUnit" 165 yU_isBeyond ∈ bigW := big_of2 74 rfl rfl
theorem w_315 : Cond.static yU_isBeyond ∈ bigW := big_of2 75 rfl rfl
theorem w_316 : Cond.code yU_isBeyond cU_isBeyond 4 (some .boolean) ∈ bigW := big_of2 76 rfl rfl
theorem w_317 : Cond.constantLong "FloatUnit" 169 (-9223372036854775808 : Int64) ∈ bigW := big_of2 77 rfl rfl
theorem w_318 : Cond.methodLink "FloatUnitLaw" 93 yL_turn ∈ bigW := big_of2 78 rfl rfl
theorem w_319 : Cond.static yL_turn ∈ bigW := big_of2 79 rfl rfl
theorem w_320 : Cond.codeWith yL_turn cL_turn 6 (some .int) [(0, 11, 14, 13)] ∈ bigW := big_of2 80 rfl rfl
theorem w_321 : Cond.methodLink "FloatUnitLaw" 39 yU_turn ∈ bigW := big_of2 81 rfl rfl
theorem w_322 : Cond.instanceMethod yU_turn ∈ bigW := big_of2 82 rfl rfl
theorem w_323 : Cond.selects "FloatUnit" yU_turn yU_turn ∈ bigW := big_of2 83 rfl rfl
theorem w_324 : Cond.code yU_turn cU_turn 4 (some .long) ∈ bigW := big_of2 84 rfl rfl
theorem w_325 : Cond.methodLink "FloatUnit" 80 yU_turned ∈ bigW := big_of2 85 rfl rfl
theorem w_327 : Cond.instanceMethod yU_turned ∈ bigW := big_of2 87 rfl rfl
theorem w_328 : Cond.code yU_turned cU_turned 6 (some .long) ∈ bigW := big_of2 88 rfl rfl
theorem w_329 : Cond.methodLink "FloatUnitLaw" 97 yL_kind ∈ bigW := big_of2 89 rfl rfl
theorem w_330 : Cond.static yL_kind ∈ bigW := big_of2 90 rfl rfl
theorem w_331 : Cond.codeWith yL_kind cL_kind 5 (some .int) [(0, 10, 13, 13)] ∈ bigW := big_of2 91 rfl rfl
theorem w_332 : Cond.methodLink "FloatUnitLaw" 43 yU_kind ∈ bigW := big_of2 92 rfl rfl
theorem w_333 : Cond.instanceMethod yU_kind ∈ bigW := big_of2 93 rfl rfl
theorem w_334 : Cond.selects "FloatUnit" yU_kind yU_kind ∈ bigW := big_of2 94 rfl rfl
theorem w_335 : Cond.code yU_kind cU_kind 5 (some .int) ∈ bigW := big_of2 95 rfl rfl
theorem w_336 : Cond.methodLink "FloatUnit" 84 yF_sort ∈ bigW := big_of2 96 rfl rfl
theorem w_337 : Cond.instanceMethod yF_sort ∈ bigW := big_of2 97 rfl rfl
theorem w_338 : Cond.selects "FloatUnit$Format" yF_sort yF_sort ∈ bigW := big_of2 98 rfl rfl
theorem w_339 : Cond.code yF_sort cF_sort 3 (some .int) ∈ bigW := big_of2 99 rfl rfl
theorem w_340 : Cond.methodLink "FloatUnit$Format" 54 yF_isNone ∈ bigW := big_of2 100 rfl rfl
theorem w_341 : Cond.methodLink "FloatUnit$Format" 58 yF_isEndless ∈ bigW := big_of2 101 rfl rfl
theorem w_342 : Cond.methodLink "FloatUnit$Format" 61 yF_isZero ∈ bigW := big_of2 102 rfl rfl
theorem w_343 : Cond.methodLink "FloatUnitLaw" 101 yL_negate ∈ bigW := big_of2 103 rfl rfl
theorem w_344 : Cond.static yL_negate ∈ bigW := big_of2 104 rfl rfl
theorem w_345 : Cond.codeWith yL_negate cL_negate 6 (some .int) [(0, 11, 14, 13)] ∈ bigW := big_of2 105 rfl rfl
theorem w_346 : Cond.methodLink "FloatUnitLaw" 47 yU_negate ∈ bigW := big_of2 106 rfl rfl
theorem w_347 : Cond.instanceMethod yU_negate ∈ bigW := big_of2 107 rfl rfl
theorem w_348 : Cond.selects "FloatUnit" yU_negate yU_negate ∈ bigW := big_of2 108 rfl rfl
theorem w_349 : Cond.code yU_negate cU_negate 7 (some .long) ∈ bigW := big_of2 109 rfl rfl
theorem w_350 : Cond.classLink "FloatUnitLaw" 51 "FloatUnitModel" ∈ bigW := big_of2 110 rfl rfl
theorem w_351 : Cond.instantiable "FloatUnitModel" 16 ∈ bigW := big_of2 111 rfl rfl
theorem w_352 : Cond.methodLink "FloatUnitLaw" 53 yM_init ∈ bigW := big_of2 112 rfl rfl
theorem w_353 : Cond.instanceMethod yM_init ∈ bigW := big_of2 113 rfl rfl
theorem w_354 : Cond.code yM_init cM_init 1 none ∈ bigW := big_of2 114 rfl rfl
theorem w_355 : Cond.methodLink "FloatUnitModel" 1 ⟨"java/lang/Object", "<init>", "()V"⟩ ∈ bigW := big_of2 115 rfl rfl
theorem w_356 : Cond.fieldLink "FloatUnitModel" 7 "FloatUnitModel" "row" "[I" ∈ bigW := big_of2 116 rfl rfl
theorem w_357 : Cond.fieldLink "FloatUnitModel" 13 "FloatUnitModel" "other" "[I" ∈ bigW := big_of2 117 rfl rfl
theorem w_358 : Cond.fieldLink "FloatUnitModel" 16 "FloatUnitModel" "registers" "[J" ∈ bigW := big_of2 118 rfl rfl
theorem w_359 : Cond.fieldLink "FloatUnitModel" 76 "FloatUnitModel" "mode" "I" ∈ bigW := big_of2 119 rfl rfl
theorem w_360 : Cond.fieldLink "FloatUnitModel" 63 "FloatUnitModel" "flags" "I" ∈ bigW := big_of2 120 rfl rfl
theorem w_361 : Cond.fieldLink "FloatUnitModel" 20 "FloatUnitModel" "err" "I" ∈ bigW := big_of2 121 rfl rfl
theorem w_362 : Cond.fieldLink "FloatUnitModel" 33 "FloatUnitModel" "kindX" "I" ∈ bigW := big_of2 122 rfl rfl
theorem w_363 : Cond.fieldLink "FloatUnitModel" 47 "FloatUnitModel" "kindY" "I" ∈ bigW := big_of2 123 rfl rfl
theorem w_364 : Cond.fieldLink "FloatUnitModel" 30 "FloatUnitModel" "signX" "I" ∈ bigW := big_of2 124 rfl rfl
theorem w_365 : Cond.fieldLink "FloatUnitModel" 50 "FloatUnitModel" "signY" "I" ∈ bigW := big_of2 125 rfl rfl
theorem w_366 : Cond.fieldLink "FloatUnitModel" 40 "FloatUnitModel" "powerX" "I" ∈ bigW := big_of2 126 rfl rfl
theorem w_367 : Cond.fieldLink "FloatUnitModel" 56 "FloatUnitModel" "powerY" "I" ∈ bigW := big_of2 127 rfl rfl
theorem w_368 : Cond.fieldLink "FloatUnitModel" 36 "FloatUnitModel" "partX" "J" ∈ bigW := big_of2 128 rfl rfl
theorem w_369 : Cond.fieldLink "FloatUnitModel" 53 "FloatUnitModel" "partY" "J" ∈ bigW := big_of2 129 rfl rfl
theorem w_370 : Cond.fieldLink "FloatUnitModel" 24 "FloatUnitModel" "precision" "I" ∈ bigW := big_of2 130 rfl rfl
theorem w_371 : Cond.fieldLink "FloatUnitModel" 27 "FloatUnitModel" "bias" "I" ∈ bigW := big_of2 131 rfl rfl
theorem w_372 : Cond.laysFinal "FloatUnitModel" "FloatUnitModel" "row" "[I" ∈ bigW := big_of2 132 rfl rfl
theorem w_373 : Cond.soleField "FloatUnitModel" "row" ∈ bigW := big_of2 133 rfl rfl
theorem w_374 : Cond.laysFinal "FloatUnitModel" "FloatUnitModel" "other" "[I" ∈ bigW := big_of2 134 rfl rfl
theorem w_375 : Cond.soleField "FloatUnitModel" "other" ∈ bigW := big_of2 135 rfl rfl
theorem w_376 : Cond.laysFinal "FloatUnitModel" "FloatUnitModel" "registers" "[J" ∈ bigW := big_of2 136 rfl rfl
theorem w_377 : Cond.soleField "FloatUnitModel" "registers" ∈ bigW := big_of2 137 rfl rfl
theorem w_378 : Cond.lays "FloatUnitModel" "FloatUnitModel" "mode" "I" ∈ bigW := big_of2 138 rfl rfl
theorem w_379 : Cond.soleField "FloatUnitModel" "mode" ∈ bigW := big_of2 139 rfl rfl
theorem w_380 : Cond.lays "FloatUnitModel" "FloatUnitModel" "flags" "I" ∈ bigW := big_of2 140 rfl rfl
theorem w_381 : Cond.soleField "FloatUnitModel" "flags" ∈ bigW := big_of2 141 rfl rfl
theorem w_382 : Cond.lays "FloatUnitModel" "FloatUnitModel" "err" "I" ∈ bigW := big_of2 142 rfl rfl
theorem w_383 : Cond.soleField "FloatUnitModel" "err" ∈ bigW := big_of2 143 rfl rfl
theorem w_384 : Cond.lays "FloatUnitModel" "FloatUnitModel" "kindX" "I" ∈ bigW := big_of2 144 rfl rfl
theorem w_385 : Cond.soleField "FloatUnitModel" "kindX" ∈ bigW := big_of2 145 rfl rfl
theorem w_386 : Cond.lays "FloatUnitModel" "FloatUnitModel" "kindY" "I" ∈ bigW := big_of2 146 rfl rfl
theorem w_387 : Cond.soleField "FloatUnitModel" "kindY" ∈ bigW := big_of2 147 rfl rfl
theorem w_388 : Cond.lays "FloatUnitModel" "FloatUnitModel" "signX" "I" ∈ bigW := big_of2 148 rfl rfl
theorem w_389 : Cond.soleField "FloatUnitModel" "signX" ∈ bigW := big_of2 149 rfl rfl
theorem w_390 : Cond.lays "FloatUnitModel" "FloatUnitModel" "signY" "I" ∈ bigW := big_of2 150 rfl rfl
theorem w_391 : Cond.soleField "FloatUnitModel" "signY" ∈ bigW := big_of2 151 rfl rfl
theorem w_392 : Cond.lays "FloatUnitModel" "FloatUnitModel" "powerX" "I" ∈ bigW := big_of2 152 rfl rfl
theorem w_393 : Cond.soleField "FloatUnitModel" "powerX" ∈ bigW := big_of2 153 rfl rfl
theorem w_394 : Cond.lays "FloatUnitModel" "FloatUnitModel" "powerY" "I" ∈ bigW := big_of2 154 rfl rfl
theorem w_395 : Cond.soleField "FloatUnitModel" "powerY" ∈ bigW := big_of2 155 rfl rfl
theorem w_396 : Cond.lays "FloatUnitModel" "FloatUnitModel" "partX" "J" ∈ bigW := big_of2 156 rfl rfl
theorem w_397 : Cond.soleField "FloatUnitModel" "partX" ∈ bigW := big_of2 157 rfl rfl
theorem w_398 : Cond.lays "FloatUnitModel" "FloatUnitModel" "partY" "J" ∈ bigW := big_of2 158 rfl rfl
theorem w_399 : Cond.soleField "FloatUnitModel" "partY" ∈ bigW := big_of2 159 rfl rfl
theorem w_400 : Cond.lays "FloatUnitModel" "FloatUnitModel" "precision" "I" ∈ bigW := big_of2 160 rfl rfl
theorem w_401 : Cond.soleField "FloatUnitModel" "precision" ∈ bigW := big_of2 161 rfl rfl
theorem w_402 : Cond.lays "FloatUnitModel" "FloatUnitModel" "bias" "I" ∈ bigW := big_of2 162 rfl rfl
theorem w_403 : Cond.soleField "FloatUnitModel" "bias" ∈ bigW := big_of2 163 rfl rfl
theorem w_404 : Cond.superclass "FloatUnitModel" "java/lang/Object" ∈ bigW := big_of2 164 rfl rfl
theorem w_405 : Cond.arrayClass .int ∈ bigW := big_of2 165 rfl rfl
theorem w_406 : Cond.methodLink "FloatUnitLaw" 62 yM_thrown ∈ bigW := big_of2 166 rfl rfl
theorem w_407 : Cond.instanceMethod yM_thrown ∈ bigW := big_of2 167 rfl rfl
theorem w_408 : Cond.selects "FloatUnitModel" yM_thrown yM_thrown ∈ bigW := big_of2 168 rfl rfl
theorem w_409 : Cond.code yM_thrown cM_thrown 1 (some .int) ∈ bigW := big_of2 169 rfl rfl
theorem w_410 : Cond.methodLink "FloatUnitLaw" 61 yM_put ∈ bigW := big_of2 170 rfl rfl
theorem w_411 : Cond.instanceMethod yM_put ∈ bigW := big_of2 171 rfl rfl
theorem w_412 : Cond.selects "FloatUnitModel" yM_put yM_put ∈ bigW := big_of2 172 rfl rfl
theorem w_413 : Cond.code yM_put cM_put 6 (some .long) ∈ bigW := big_of2 173 rfl rfl
theorem w_414 : Cond.methodLink "FloatUnitModel" 83 yM_in ∈ bigW := big_of2 174 rfl rfl
theorem w_415 : Cond.static yM_in ∈ bigW := big_of2 175 rfl rfl
theorem w_416 : Cond.code yM_in cM_in 2 (some .boolean) ∈ bigW := big_of2 176 rfl rfl
theorem w_417 : Cond.methodLink "FloatUnitModel" 87 yM_fails ∈ bigW := big_of2 177 rfl rfl
theorem w_419 : Cond.instanceMethod yM_fails ∈ bigW := big_of2 179 rfl rfl
theorem w_420 : Cond.code yM_fails cM_fails 2 (some .boolean) ∈ bigW := big_of2 180 rfl rfl
theorem w_421 : Cond.methodLink "FloatUnitLaw" 69 yM_bits ∈ bigW := big_of2 181 rfl rfl
theorem w_422 : Cond.instanceMethod yM_bits ∈ bigW := big_of2 182 rfl rfl
theorem w_423 : Cond.selects "FloatUnitModel" yM_bits yM_bits ∈ bigW := big_of2 183 rfl rfl
theorem w_424 : Cond.code yM_bits cM_bits 2 (some .long) ∈ bigW := big_of2 184 rfl rfl
theorem w_425 : Cond.methodLink "FloatUnitLaw" 72 yM_mode ∈ bigW := big_of2 185 rfl rfl
theorem w_426 : Cond.instanceMethod yM_mode ∈ bigW := big_of2 186 rfl rfl
theorem w_427 : Cond.selects "FloatUnitModel" yM_mode yM_mode ∈ bigW := big_of2 187 rfl rfl
theorem w_428 : Cond.code yM_mode cM_mode 3 (some .int) ∈ bigW := big_of2 188 rfl rfl
theorem w_429 : Cond.methodLink "FloatUnitLaw" 76 yM_flags ∈ bigW := big_of2 189 rfl rfl
theorem w_430 : Cond.instanceMethod yM_flags ∈ bigW := big_of2 190 rfl rfl
theorem w_431 : Cond.selects "FloatUnitModel" yM_flags yM_flags ∈ bigW := big_of2 191 rfl rfl
theorem w_432 : Cond.code yM_flags cM_flags 3 (some .int) ∈ bigW := big_of2 192 rfl rfl
theorem w_433 : Cond.methodLink "FloatUnitLaw" 80 yM_work ∈ bigW := big_of2 193 rfl rfl
theorem w_434 : Cond.instanceMethod yM_work ∈ bigW := big_of2 194 rfl rfl
theorem w_435 : Cond.selects "FloatUnitModel" yM_work yM_work ∈ bigW := big_of2 195 rfl rfl
theorem w_436 : Cond.code yM_work cM_work 8 (some .long) ∈ bigW := big_of2 196 rfl rfl
theorem w_437 : Cond.methodLink "FloatUnitModel" 91 yM_format ∈ bigW := big_of2 197 rfl rfl
theorem w_439 : Cond.instanceMethod yM_format ∈ bigW := big_of2 199 rfl rfl
theorem w_440 : Cond.code yM_format cM_format 2 none ∈ bigW := big_of2 200 rfl rfl
theorem w_441 : Cond.methodLink "FloatUnitModel" 95 yM_takeBoth ∈ bigW := big_of2 201 rfl rfl
theorem w_443 : Cond.instanceMethod yM_takeBoth ∈ bigW := big_of2 203 rfl rfl
theorem w_444 : Cond.code yM_takeBoth cM_takeBoth 3 none ∈ bigW := big_of2 204 rfl rfl
theorem w_445 : Cond.methodLink "FloatUnitModel" 43 yM_take ∈ bigW := big_of2 205 rfl rfl
theorem w_447 : Cond.instanceMethod yM_take ∈ bigW := big_of2 207 rfl rfl
theorem w_448 : Cond.code yM_take cM_take 8 none ∈ bigW := big_of2 208 rfl rfl
theorem w_449 : Cond.methodLink "FloatUnitModel" 66 yM_none ∈ bigW := big_of2 209 rfl rfl
theorem w_451 : Cond.instanceMethod yM_none ∈ bigW := big_of2 211 rfl rfl
theorem w_452 : Cond.code yM_none cM_none 1 (some .long) ∈ bigW := big_of2 212 rfl rfl
theorem w_453 : Cond.methodLink "FloatUnitModel" 59 yM_made ∈ bigW := big_of2 213 rfl rfl
theorem w_455 : Cond.instanceMethod yM_made ∈ bigW := big_of2 215 rfl rfl
theorem w_456 : Cond.code yM_made cM_made 6 (some .long) ∈ bigW := big_of2 216 rfl rfl
theorem w_457 : Cond.methodLink "FloatUnitModel" 99 yM_sum ∈ bigW := big_of2 217 rfl rfl
theorem w_459 : Cond.instanceMethod yM_sum ∈ bigW := big_of2 219 rfl rfl
theorem w_460 : Cond.code yM_sum cM_sum 7 (some .long) ∈ bigW := big_of2 220 rfl rfl
theorem w_461 : Cond.methodLink "FloatUnitModel" 111 yM_invalid ∈ bigW := big_of2 221 rfl rfl
theorem w_463 : Cond.instanceMethod yM_invalid ∈ bigW := big_of2 223 rfl rfl
theorem w_464 : Cond.code yM_invalid cM_invalid 1 (some .long) ∈ bigW := big_of2 224 rfl rfl
theorem w_465 : Cond.methodLink "FloatUnitModel" 79 yM_endless ∈ bigW := big_of2 225 rfl rfl
theorem w_467 : Cond.instanceMethod yM_endless ∈ bigW := big_of2 227 rfl rfl
theorem w_468 : Cond.code yM_endless cM_endless 2 (some .long) ∈ bigW := big_of2 228 rfl rfl
theorem w_469 : Cond.methodLink "FloatUnitModel" 114 yM_clear ∈ bigW := big_of2 229 rfl rfl
theorem w_471 : Cond.instanceMethod yM_clear ∈ bigW := big_of2 231 rfl rfl
theorem w_472 : Cond.code yM_clear cM_clear 2 none ∈ bigW := big_of2 232 rfl rfl
theorem w_473 : Cond.methodLink "FloatUnitModel" 117 yM_lay ∈ bigW := big_of2 233 rfl rfl
theorem w_475 : Cond.instanceMethod yM_lay ∈ bigW := big_of2 235 rfl rfl
theorem w_476 : Cond.code yM_lay cM_lay 5 none ∈ bigW := big_of2 236 rfl rfl
theorem w_477 : Cond.methodLink "FloatUnitModel" 121 yM_rounded ∈ bigW := big_of2 237 rfl rfl
theorem w_479 : Cond.instanceMethod yM_rounded ∈ bigW := big_of2 239 rfl rfl
theorem w_480 : Cond.code yM_rounded cM_rounded 16 (some .long) ∈ bigW := big_of3 0 rfl rfl
theorem w_481 : Cond.methodLink "FloatUnitModel" 70 yM_highest ∈ bigW := big_of3 1 rfl rfl
theorem w_483 : Cond.instanceMethod yM_highest ∈ bigW := big_of3 3 rfl rfl
theorem w_484 : Cond.code yM_highest cM_highest 2 (some .int) ∈ bigW := big_of3 4 rfl rfl
theorem w_485 : Cond.constantLong "FloatUnitModel" 74 (2 : Int64) ∈ bigW := big_of3 5 rfl rfl
theorem w_486 : Cond.methodLink "FloatUnitModel" 102 yM_product ∈ bigW := big_of3 6 rfl rfl
theorem w_488 : Cond.instanceMethod yM_product ∈ bigW := big_of3 8 rfl rfl
theorem w_489 : Cond.code yM_product cM_product 6 (some .long) ∈ bigW := big_of3 9 rfl rfl
theorem w_490 : Cond.methodLink "FloatUnitModel" 105 yM_quotient ∈ bigW := big_of3 10 rfl rfl
theorem w_492 : Cond.instanceMethod yM_quotient ∈ bigW := big_of3 12 rfl rfl
theorem w_493 : Cond.code yM_quotient cM_quotient 5 (some .long) ∈ bigW := big_of3 13 rfl rfl
theorem w_494 : Cond.methodLink "FloatUnitModel" 108 yM_rest ∈ bigW := big_of3 14 rfl rfl
theorem w_496 : Cond.instanceMethod yM_rest ∈ bigW := big_of3 16 rfl rfl
theorem w_497 : Cond.code yM_rest cM_rest 5 (some .long) ∈ bigW := big_of3 17 rfl rfl
theorem w_498 : Cond.methodLink "FloatUnitLaw" 84 yM_compare ∈ bigW := big_of3 18 rfl rfl
theorem w_499 : Cond.instanceMethod yM_compare ∈ bigW := big_of3 19 rfl rfl
theorem w_500 : Cond.selects "FloatUnitModel" yM_compare yM_compare ∈ bigW := big_of3 20 rfl rfl
theorem w_501 : Cond.code yM_compare cM_compare 11 (some .int) ∈ bigW := big_of3 21 rfl rfl
theorem w_502 : Cond.methodLink "FloatUnitModel" 125 yM_bit ∈ bigW := big_of3 22 rfl rfl
theorem w_503 : Cond.static yM_bit ∈ bigW := big_of3 23 rfl rfl
theorem w_504 : Cond.code yM_bit cM_bit 3 (some .int) ∈ bigW := big_of3 24 rfl rfl
theorem w_505 : Cond.methodLink "FloatUnitLaw" 88 yM_of ∈ bigW := big_of3 25 rfl rfl
theorem w_506 : Cond.instanceMethod yM_of ∈ bigW := big_of3 26 rfl rfl
theorem w_507 : Cond.selects "FloatUnitModel" yM_of yM_of ∈ bigW := big_of3 27 rfl rfl
theorem w_508 : Cond.code yM_of cM_of 7 (some .long) ∈ bigW := big_of3 28 rfl rfl
theorem w_509 : Cond.methodLink "FloatUnitLaw" 92 yM_whole ∈ bigW := big_of3 29 rfl rfl
theorem w_510 : Cond.instanceMethod yM_whole ∈ bigW := big_of3 30 rfl rfl
theorem w_511 : Cond.selects "FloatUnitModel" yM_whole yM_whole ∈ bigW := big_of3 31 rfl rfl
theorem w_512 : Cond.code yM_whole cM_whole 15 (some .long) ∈ bigW := big_of3 32 rfl rfl
theorem w_513 : Cond.constantLong "FloatUnitModel" 129 (2147483647 : Int64) ∈ bigW := big_of3 33 rfl rfl
theorem w_514 : Cond.constantLong "FloatUnitModel" 131 (9223372036854775807 : Int64) ∈ bigW := big_of3 34 rfl rfl
theorem w_515 : Cond.methodLink "FloatUnitLaw" 96 yM_turn ∈ bigW := big_of3 35 rfl rfl
theorem w_516 : Cond.instanceMethod yM_turn ∈ bigW := big_of3 36 rfl rfl
theorem w_517 : Cond.selects "FloatUnitModel" yM_turn yM_turn ∈ bigW := big_of3 37 rfl rfl
theorem w_518 : Cond.code yM_turn cM_turn 6 (some .long) ∈ bigW := big_of3 38 rfl rfl
theorem w_519 : Cond.methodLink "FloatUnitLaw" 100 yM_kind ∈ bigW := big_of3 39 rfl rfl
theorem w_520 : Cond.instanceMethod yM_kind ∈ bigW := big_of3 40 rfl rfl
theorem w_521 : Cond.selects "FloatUnitModel" yM_kind yM_kind ∈ bigW := big_of3 41 rfl rfl
theorem w_522 : Cond.code yM_kind cM_kind 4 (some .int) ∈ bigW := big_of3 42 rfl rfl
theorem w_523 : Cond.methodLink "FloatUnitLaw" 103 yM_negate ∈ bigW := big_of3 43 rfl rfl
theorem w_524 : Cond.instanceMethod yM_negate ∈ bigW := big_of3 44 rfl rfl
theorem w_525 : Cond.selects "FloatUnitModel" yM_negate yM_negate ∈ bigW := big_of3 45 rfl rfl
theorem w_526 : Cond.code yM_negate cM_negate 6 (some .long) ∈ bigW := big_of3 46 rfl rfl
theorem w_527 : Cond.constantLong "FloatUnitLaw" 54 (4294967295 : Int64) ∈ bigW := big_of3 47 rfl rfl
theorem w_528 : Cond.sameMethod "java/lang/Throwable" "java/lang/Throwable" "fillInStackTrace" "(I)Ljava/lang/Throwable;" ∈ bigW := big_of3 48 rfl rfl
theorem w_529 : Cond.fieldLink "FloatUnit$Format" 38 "FloatUnit$Format" "sign" "J" ∈ bigW := big_of3 49 rfl rfl
theorem w_530 : Cond.fieldLink "FloatUnit$Format" 47 "FloatUnit$Format" "endless" "J" ∈ bigW := big_of3 50 rfl rfl
theorem w_531 : Cond.fieldLink "FloatUnit$Format" 42 "FloatUnit$Format" "leading" "J" ∈ bigW := big_of3 51 rfl rfl
theorem w_532 : Cond.fieldLink "FloatUnit$Format" 31 "FloatUnit$Format" "precision" "I" ∈ bigW := big_of3 52 rfl rfl
theorem w_533 : Cond.fieldLink "FloatUnit$Format" 35 "FloatUnit$Format" "bias" "I" ∈ bigW := big_of3 53 rfl rfl
theorem w_534 : Cond.fieldLink "FloatUnit" 174 "FloatUnit$Format" "bias" "I" ∈ bigW := big_of3 54 rfl rfl
theorem w_535 : Cond.fieldLink "FloatUnit" 189 "FloatUnit$Format" "leading" "J" ∈ bigW := big_of3 55 rfl rfl
theorem w_536 : Cond.fieldLink "FloatUnit" 193 "FloatUnit$Format" "endless" "J" ∈ bigW := big_of3 56 rfl rfl
theorem sel_U_result : Cond.selects "FloatUnit" yU_result yU_result ∈ bigW := big_sel (q := (yU_result, 3)) 1 rfl rfl
theorem sel_U_sum : Cond.selects "FloatUnit" yU_sum yU_sum ∈ bigW := big_sel (q := (yU_sum, 3)) 2 rfl rfl
theorem sel_U_invalid : Cond.selects "FloatUnit" yU_invalid yU_invalid ∈ bigW := big_sel (q := (yU_invalid, 3)) 3 rfl rfl
theorem sel_U_raise : Cond.selects "FloatUnit" yU_raise yU_raise ∈ bigW := big_sel (q := (yU_raise, 3)) 4 rfl rfl
theorem sel_F_plain : Cond.selects "FloatUnit$Format" yF_plain yF_plain ∈ bigW := big_sel (q := (yF_plain, 8)) 5 rfl rfl
theorem sel_U_rounded : Cond.selects "FloatUnit" yU_rounded yU_rounded ∈ bigW := big_sel (q := (yU_rounded, 3)) 6 rfl rfl
theorem sel_U_huge : Cond.selects "FloatUnit" yU_huge yU_huge ∈ bigW := big_sel (q := (yU_huge, 3)) 7 rfl rfl
theorem sel_U_goesAwayFromZero : Cond.selects "FloatUnit" yU_goesAwayFromZero yU_goesAwayFromZero ∈ bigW := big_sel (q := (yU_goesAwayFromZero, 3)) 8 rfl rfl
theorem sel_U_product : Cond.selects "FloatUnit" yU_product yU_product ∈ bigW := big_sel (q := (yU_product, 3)) 9 rfl rfl
theorem sel_U_quotient : Cond.selects "FloatUnit" yU_quotient yU_quotient ∈ bigW := big_sel (q := (yU_quotient, 3)) 10 rfl rfl
theorem sel_U_quotientByZero : Cond.selects "FloatUnit" yU_quotientByZero yU_quotientByZero ∈ bigW := big_sel (q := (yU_quotientByZero, 3)) 11 rfl rfl
theorem sel_U_rest : Cond.selects "FloatUnit" yU_rest yU_rest ∈ bigW := big_sel (q := (yU_rest, 3)) 12 rfl rfl
theorem sel_U_keep : Cond.selects "FloatUnit" yU_keep yU_keep ∈ bigW := big_sel (q := (yU_keep, 3)) 13 rfl rfl
theorem sel_U_cut : Cond.selects "FloatUnit" yU_cut yU_cut ∈ bigW := big_sel (q := (yU_cut, 3)) 14 rfl rfl
theorem sel_U_turned : Cond.selects "FloatUnit" yU_turned yU_turned ∈ bigW := big_sel (q := (yU_turned, 3)) 15 rfl rfl
theorem sel_M_fails : Cond.selects "FloatUnitModel" yM_fails yM_fails ∈ bigW := big_sel (q := (yM_fails, 16)) 16 rfl rfl
theorem sel_M_format : Cond.selects "FloatUnitModel" yM_format yM_format ∈ bigW := big_sel (q := (yM_format, 16)) 17 rfl rfl
theorem sel_M_takeBoth : Cond.selects "FloatUnitModel" yM_takeBoth yM_takeBoth ∈ bigW := big_sel (q := (yM_takeBoth, 16)) 18 rfl rfl
theorem sel_M_take : Cond.selects "FloatUnitModel" yM_take yM_take ∈ bigW := big_sel (q := (yM_take, 16)) 19 rfl rfl
theorem sel_M_none : Cond.selects "FloatUnitModel" yM_none yM_none ∈ bigW := big_sel (q := (yM_none, 16)) 20 rfl rfl
theorem sel_M_made : Cond.selects "FloatUnitModel" yM_made yM_made ∈ bigW := big_sel (q := (yM_made, 16)) 21 rfl rfl
theorem sel_M_sum : Cond.selects "FloatUnitModel" yM_sum yM_sum ∈ bigW := big_sel (q := (yM_sum, 16)) 22 rfl rfl
theorem sel_M_invalid : Cond.selects "FloatUnitModel" yM_invalid yM_invalid ∈ bigW := big_sel (q := (yM_invalid, 16)) 23 rfl rfl
theorem sel_M_endless : Cond.selects "FloatUnitModel" yM_endless yM_endless ∈ bigW := big_sel (q := (yM_endless, 16)) 24 rfl rfl
theorem sel_M_clear : Cond.selects "FloatUnitModel" yM_clear yM_clear ∈ bigW := big_sel (q := (yM_clear, 16)) 25 rfl rfl
theorem sel_M_lay : Cond.selects "FloatUnitModel" yM_lay yM_lay ∈ bigW := big_sel (q := (yM_lay, 16)) 26 rfl rfl
theorem sel_M_rounded : Cond.selects "FloatUnitModel" yM_rounded yM_rounded ∈ bigW := big_sel (q := (yM_rounded, 16)) 27 rfl rfl
theorem sel_M_highest : Cond.selects "FloatUnitModel" yM_highest yM_highest ∈ bigW := big_sel (q := (yM_highest, 16)) 28 rfl rfl
theorem sel_M_product : Cond.selects "FloatUnitModel" yM_product yM_product ∈ bigW := big_sel (q := (yM_product, 16)) 29 rfl rfl
theorem sel_M_quotient : Cond.selects "FloatUnitModel" yM_quotient yM_quotient ∈ bigW := big_sel (q := (yM_quotient, 16)) 30 rfl rfl
theorem sel_M_rest : Cond.selects "FloatUnitModel" yM_rest yM_rest ∈ bigW := big_sel (q := (yM_rest, 16)) 31 rfl rfl
end
section
/-! Decode rows (by program). -/
theorem dF_own_0 : decode cF_own 0 = .ok (.lload_n 1, 1) := by decide +kernel
theorem dF_own_1 : decode cF_own 1 = .ok (.aload_n 0, 1) := by decide +kernel
theorem dF_own_2 : decode cF_own 2 = .ok (.getfield 38, 3) := by decide +kernel
theorem dF_own_5 : decode cF_own 5 = .ok (.aload_n 0, 1) := by decide +kernel
theorem dF_own_6 : decode cF_own 6 = .ok (.getfield 38, 3) := by decide +kernel
theorem dF_own_9 : decode cF_own 9 = .ok (.lconst 1, 1) := by decide +kernel
theorem dF_own_10 : decode cF_own 10 = .ok (.lsub, 1) := by decide +kernel
theorem dF_own_11 : decode cF_own 11 = .ok (.lor, 1) := by decide +kernel
theorem dF_own_12 : decode cF_own 12 = .ok (.land, 1) := by decide +kernel
theorem dF_own_13 : decode cF_own 13 = .ok (.lreturn, 1) := by decide +kernel
theorem dF_isNone_0 : decode cF_isNone 0 = .ok (.aload_n 0, 1) := by decide +kernel
theorem dF_isNone_1 : decode cF_isNone 1 = .ok (.lload_n 1, 1) := by decide +kernel
theorem dF_isNone_2 : decode cF_isNone 2 = .ok (.invokevirtual 50, 3) := by decide +kernel
theorem dF_isNone_5 : decode cF_isNone 5 = .ok (.aload_n 0, 1) := by decide +kernel
theorem dF_isNone_6 : decode cF_isNone 6 = .ok (.getfield 47, 3) := by decide +kernel
theorem dF_isNone_9 : decode cF_isNone 9 = .ok (.lcmp, 1) := by decide +kernel
theorem dF_isNone_10 : decode cF_isNone 10 = .ok (.ifCond .le 7, 3) := by decide +kernel
theorem dF_isNone_13 : decode cF_isNone 13 = .ok (.iconst 1, 1) := by decide +kernel
theorem dF_isNone_14 : decode cF_isNone 14 = .ok (.goto 4, 3) := by decide +kernel
theorem dF_isNone_17 : decode cF_isNone 17 = .ok (.iconst 0, 1) := by decide +kernel
theorem dF_isNone_18 : decode cF_isNone 18 = .ok (.ireturn, 1) := by decide +kernel
theorem dF_size_0 : decode cF_size 0 = .ok (.lload_n 1, 1) := by decide +kernel
theorem dF_size_1 : decode cF_size 1 = .ok (.aload_n 0, 1) := by decide +kernel
theorem dF_size_2 : decode cF_size 2 = .ok (.getfield 38, 3) := by decide +kernel
theorem dF_size_5 : decode cF_size 5 = .ok (.lconst 1, 1) := by decide +kernel
theorem dF_size_6 : decode cF_size 6 = .ok (.lsub, 1) := by decide +kernel
theorem dF_size_7 : decode cF_size 7 = .ok (.land, 1) := by decide +kernel
theorem dF_size_8 : decode cF_size 8 = .ok (.lreturn, 1) := by decide +kernel
theorem dF_none_0 : decode cF_none 0 = .ok (.aload_n 0, 1) := by decide +kernel
theorem dF_none_1 : decode cF_none 1 = .ok (.getfield 47, 3) := by decide +kernel
theorem dF_none_4 : decode cF_none 4 = .ok (.aload_n 0, 1) := by decide +kernel
theorem dF_none_5 : decode cF_none 5 = .ok (.getfield 42, 3) := by decide +kernel
theorem dF_none_8 : decode cF_none 8 = .ok (.iconst 1, 1) := by decide +kernel
theorem dF_none_9 : decode cF_none 9 = .ok (.lushr, 1) := by decide +kernel
theorem dF_none_10 : decode cF_none 10 = .ok (.lor, 1) := by decide +kernel
theorem dF_none_11 : decode cF_none 11 = .ok (.lreturn, 1) := by decide +kernel
theorem dF_isMinus_0 : decode cF_isMinus 0 = .ok (.lload_n 1, 1) := by decide +kernel
theorem dF_isMinus_1 : decode cF_isMinus 1 = .ok (.aload_n 0, 1) := by decide +kernel
theorem dF_isMinus_2 : decode cF_isMinus 2 = .ok (.getfield 38, 3) := by decide +kernel
theorem dF_isMinus_5 : decode cF_isMinus 5 = .ok (.land, 1) := by decide +kernel
theorem dF_isMinus_6 : decode cF_isMinus 6 = .ok (.lconst 0, 1) := by decide +kernel
theorem dF_isMinus_7 : decode cF_isMinus 7 = .ok (.lcmp, 1) := by decide +kernel
theorem dF_isMinus_8 : decode cF_isMinus 8 = .ok (.ifCond .eq 7, 3) := by decide +kernel
theorem dF_isMinus_11 : decode cF_isMinus 11 = .ok (.iconst 1, 1) := by decide +kernel
theorem dF_isMinus_12 : decode cF_isMinus 12 = .ok (.goto 4, 3) := by decide +kernel
theorem dF_isMinus_15 : decode cF_isMinus 15 = .ok (.iconst 0, 1) := by decide +kernel
theorem dF_isMinus_16 : decode cF_isMinus 16 = .ok (.ireturn, 1) := by decide +kernel
theorem dF_isEndless_0 : decode cF_isEndless 0 = .ok (.aload_n 0, 1) := by decide +kernel
theorem dF_isEndless_1 : decode cF_isEndless 1 = .ok (.lload_n 1, 1) := by decide +kernel
theorem dF_isEndless_2 : decode cF_isEndless 2 = .ok (.invokevirtual 50, 3) := by decide +kernel
theorem dF_isEndless_5 : decode cF_isEndless 5 = .ok (.aload_n 0, 1) := by decide +kernel
theorem dF_isEndless_6 : decode cF_isEndless 6 = .ok (.getfield 47, 3) := by decide +kernel
theorem dF_isEndless_9 : decode cF_isEndless 9 = .ok (.lcmp, 1) := by decide +kernel
theorem dF_isEndless_10 : decode cF_isEndless 10 = .ok (.ifCond .ne 7, 3) := by decide +kernel
theorem dF_isEndless_13 : decode cF_isEndless 13 = .ok (.iconst 1, 1) := by decide +kernel
theorem dF_isEndless_14 : decode cF_isEndless 14 = .ok (.goto 4, 3) := by decide +kernel
theorem dF_isEndless_17 : decode cF_isEndless 17 = .ok (.iconst 0, 1) := by decide +kernel
theorem dF_isEndless_18 : decode cF_isEndless 18 = .ok (.ireturn, 1) := by decide +kernel
theorem dF_power_0 : decode cF_power 0 = .ok (.aload_n 0, 1) := by decide +kernel
theorem dF_power_1 : decode cF_power 1 = .ok (.lload_n 1, 1) := by decide +kernel
theorem dF_power_2 : decode cF_power 2 = .ok (.invokevirtual 50, 3) := by decide +kernel
theorem dF_power_5 : decode cF_power 5 = .ok (.aload_n 0, 1) := by decide +kernel
theorem dF_power_6 : decode cF_power 6 = .ok (.getfield 31, 3) := by decide +kernel
theorem dF_power_9 : decode cF_power 9 = .ok (.iconst 1, 1) := by decide +kernel
theorem dF_power_10 : decode cF_power 10 = .ok (.isub, 1) := by decide +kernel
theorem dF_power_11 : decode cF_power 11 = .ok (.lushr, 1) := by decide +kernel
theorem dF_power_12 : decode cF_power 12 = .ok (.l2i, 1) := by decide +kernel
theorem dF_power_13 : decode cF_power 13 = .ok (.istore_n 3, 1) := by decide +kernel
theorem dF_power_14 : decode cF_power 14 = .ok (.aload_n 0, 1) := by decide +kernel
theorem dF_power_15 : decode cF_power 15 = .ok (.iload_n 3, 1) := by decide +kernel
theorem dF_power_16 : decode cF_power 16 = .ok (.iconst 1, 1) := by decide +kernel
theorem dF_power_17 : decode cF_power 17 = .ok (.invokestatic 74, 3) := by decide +kernel
theorem dF_power_20 : decode cF_power 20 = .ok (.invokevirtual 80, 3) := by decide +kernel
theorem dF_power_23 : decode cF_power 23 = .ok (.aload_n 0, 1) := by decide +kernel
theorem dF_power_24 : decode cF_power 24 = .ok (.lload_n 1, 1) := by decide +kernel
theorem dF_power_25 : decode cF_power 25 = .ok (.invokevirtual 67, 3) := by decide +kernel
theorem dF_power_28 : decode cF_power 28 = .ok (.invokestatic 70, 3) := by decide +kernel
theorem dF_power_31 : decode cF_power 31 = .ok (.isub, 1) := by decide +kernel
theorem dF_power_32 : decode cF_power 32 = .ok (.ireturn, 1) := by decide +kernel
theorem dF_unitPower_0 : decode cF_unitPower 0 = .ok (.iload_n 1, 1) := by decide +kernel
theorem dF_unitPower_1 : decode cF_unitPower 1 = .ok (.aload_n 0, 1) := by decide +kernel
theorem dF_unitPower_2 : decode cF_unitPower 2 = .ok (.getfield 35, 3) := by decide +kernel
theorem dF_unitPower_5 : decode cF_unitPower 5 = .ok (.isub, 1) := by decide +kernel
theorem dF_unitPower_6 : decode cF_unitPower 6 = .ok (.aload_n 0, 1) := by decide +kernel
theorem dF_unitPower_7 : decode cF_unitPower 7 = .ok (.getfield 31, 3) := by decide +kernel
theorem dF_unitPower_10 : decode cF_unitPower 10 = .ok (.iconst 1, 1) := by decide +kernel
theorem dF_unitPower_11 : decode cF_unitPower 11 = .ok (.isub, 1) := by decide +kernel
theorem dF_unitPower_12 : decode cF_unitPower 12 = .ok (.isub, 1) := by decide +kernel
theorem dF_unitPower_13 : decode cF_unitPower 13 = .ok (.ireturn, 1) := by decide +kernel
theorem dF_plain_0 : decode cF_plain 0 = .ok (.aload_n 0, 1) := by decide +kernel
theorem dF_plain_1 : decode cF_plain 1 = .ok (.lload_n 1, 1) := by decide +kernel
theorem dF_plain_2 : decode cF_plain 2 = .ok (.invokevirtual 50, 3) := by decide +kernel
theorem dF_plain_5 : decode cF_plain 5 = .ok (.lstore_n 3, 1) := by decide +kernel
theorem dF_plain_6 : decode cF_plain 6 = .ok (.lload_n 3, 1) := by decide +kernel
theorem dF_plain_7 : decode cF_plain 7 = .ok (.aload_n 0, 1) := by decide +kernel
theorem dF_plain_8 : decode cF_plain 8 = .ok (.getfield 42, 3) := by decide +kernel
theorem dF_plain_11 : decode cF_plain 11 = .ok (.lcmp, 1) := by decide +kernel
theorem dF_plain_12 : decode cF_plain 12 = .ok (.ifCond .ge 7, 3) := by decide +kernel
theorem dF_plain_15 : decode cF_plain 15 = .ok (.lload_n 3, 1) := by decide +kernel
theorem dF_plain_16 : decode cF_plain 16 = .ok (.goto 16, 3) := by decide +kernel
theorem dF_plain_19 : decode cF_plain 19 = .ok (.lload_n 3, 1) := by decide +kernel
theorem dF_plain_20 : decode cF_plain 20 = .ok (.aload_n 0, 1) := by decide +kernel
theorem dF_plain_21 : decode cF_plain 21 = .ok (.getfield 42, 3) := by decide +kernel
theorem dF_plain_24 : decode cF_plain 24 = .ok (.lconst 1, 1) := by decide +kernel
theorem dF_plain_25 : decode cF_plain 25 = .ok (.lsub, 1) := by decide +kernel
theorem dF_plain_26 : decode cF_plain 26 = .ok (.land, 1) := by decide +kernel
theorem dF_plain_27 : decode cF_plain 27 = .ok (.aload_n 0, 1) := by decide +kernel
theorem dF_plain_28 : decode cF_plain 28 = .ok (.getfield 42, 3) := by decide +kernel
theorem dF_plain_31 : decode cF_plain 31 = .ok (.lor, 1) := by decide +kernel
theorem dF_plain_32 : decode cF_plain 32 = .ok (.lreturn, 1) := by decide +kernel
theorem dF_lift_0 : decode cF_lift 0 = .ok (.lload_n 0, 1) := by decide +kernel
theorem dF_lift_1 : decode cF_lift 1 = .ok (.invokestatic 84, 3) := by decide +kernel
theorem dF_lift_4 : decode cF_lift 4 = .ok (.bipush 10, 2) := by decide +kernel
theorem dF_lift_6 : decode cF_lift 6 = .ok (.isub, 1) := by decide +kernel
theorem dF_lift_7 : decode cF_lift 7 = .ok (.ireturn, 1) := by decide +kernel
theorem dF_significand_0 : decode cF_significand 0 = .ok (.aload_n 0, 1) := by decide +kernel
theorem dF_significand_1 : decode cF_significand 1 = .ok (.lload_n 1, 1) := by decide +kernel
theorem dF_significand_2 : decode cF_significand 2 = .ok (.invokevirtual 67, 3) := by decide +kernel
theorem dF_significand_5 : decode cF_significand 5 = .ok (.lstore_n 3, 1) := by decide +kernel
theorem dF_significand_6 : decode cF_significand 6 = .ok (.lload_n 3, 1) := by decide +kernel
theorem dF_significand_7 : decode cF_significand 7 = .ok (.lload_n 3, 1) := by decide +kernel
theorem dF_significand_8 : decode cF_significand 8 = .ok (.invokestatic 70, 3) := by decide +kernel
theorem dF_significand_11 : decode cF_significand 11 = .ok (.lshl, 1) := by decide +kernel
theorem dF_significand_12 : decode cF_significand 12 = .ok (.lreturn, 1) := by decide +kernel
theorem dF_zero_0 : decode cF_zero 0 = .ok (.aload_n 0, 1) := by decide +kernel
theorem dF_zero_1 : decode cF_zero 1 = .ok (.iload_n 1, 1) := by decide +kernel
theorem dF_zero_2 : decode cF_zero 2 = .ok (.lconst 0, 1) := by decide +kernel
theorem dF_zero_3 : decode cF_zero 3 = .ok (.invokevirtual 87, 3) := by decide +kernel
theorem dF_zero_6 : decode cF_zero 6 = .ok (.lreturn, 1) := by decide +kernel
theorem dF_signed_0 : decode cF_signed 0 = .ok (.iload_n 1, 1) := by decide +kernel
theorem dF_signed_1 : decode cF_signed 1 = .ok (.ifCond .eq 12, 3) := by decide +kernel
theorem dF_signed_4 : decode cF_signed 4 = .ok (.lload_n 2, 1) := by decide +kernel
theorem dF_signed_5 : decode cF_signed 5 = .ok (.aload_n 0, 1) := by decide +kernel
theorem dF_signed_6 : decode cF_signed 6 = .ok (.getfield 38, 3) := by decide +kernel
theorem dF_signed_9 : decode cF_signed 9 = .ok (.lor, 1) := by decide +kernel
theorem dF_signed_10 : decode cF_signed 10 = .ok (.goto 4, 3) := by decide +kernel
theorem dF_signed_13 : decode cF_signed 13 = .ok (.lload_n 2, 1) := by decide +kernel
theorem dF_signed_14 : decode cF_signed 14 = .ok (.lreturn, 1) := by decide +kernel
theorem dF_greatest_0 : decode cF_greatest 0 = .ok (.aload_n 0, 1) := by decide +kernel
theorem dF_greatest_1 : decode cF_greatest 1 = .ok (.iload_n 1, 1) := by decide +kernel
theorem dF_greatest_2 : decode cF_greatest 2 = .ok (.aload_n 0, 1) := by decide +kernel
theorem dF_greatest_3 : decode cF_greatest 3 = .ok (.getfield 47, 3) := by decide +kernel
theorem dF_greatest_6 : decode cF_greatest 6 = .ok (.lconst 1, 1) := by decide +kernel
theorem dF_greatest_7 : decode cF_greatest 7 = .ok (.lsub, 1) := by decide +kernel
theorem dF_greatest_8 : decode cF_greatest 8 = .ok (.invokevirtual 87, 3) := by decide +kernel
theorem dF_greatest_11 : decode cF_greatest 11 = .ok (.lreturn, 1) := by decide +kernel
theorem dF_endless_0 : decode cF_endless 0 = .ok (.aload_n 0, 1) := by decide +kernel
theorem dF_endless_1 : decode cF_endless 1 = .ok (.iload_n 1, 1) := by decide +kernel
theorem dF_endless_2 : decode cF_endless 2 = .ok (.aload_n 0, 1) := by decide +kernel
theorem dF_endless_3 : decode cF_endless 3 = .ok (.getfield 47, 3) := by decide +kernel
theorem dF_endless_6 : decode cF_endless 6 = .ok (.invokevirtual 87, 3) := by decide +kernel
theorem dF_endless_9 : decode cF_endless 9 = .ok (.lreturn, 1) := by decide +kernel
theorem dF_opposite_0 : decode cF_opposite 0 = .ok (.lload_n 1, 1) := by decide +kernel
theorem dF_opposite_1 : decode cF_opposite 1 = .ok (.aload_n 0, 1) := by decide +kernel
theorem dF_opposite_2 : decode cF_opposite 2 = .ok (.getfield 38, 3) := by decide +kernel
theorem dF_opposite_5 : decode cF_opposite 5 = .ok (.lxor, 1) := by decide +kernel
theorem dF_opposite_6 : decode cF_opposite 6 = .ok (.lreturn, 1) := by decide +kernel
theorem dF_isZero_0 : decode cF_isZero 0 = .ok (.aload_n 0, 1) := by decide +kernel
theorem dF_isZero_1 : decode cF_isZero 1 = .ok (.lload_n 1, 1) := by decide +kernel
theorem dF_isZero_2 : decode cF_isZero 2 = .ok (.invokevirtual 50, 3) := by decide +kernel
theorem dF_isZero_5 : decode cF_isZero 5 = .ok (.lconst 0, 1) := by decide +kernel
theorem dF_isZero_6 : decode cF_isZero 6 = .ok (.lcmp, 1) := by decide +kernel
theorem dF_isZero_7 : decode cF_isZero 7 = .ok (.ifCond .ne 7, 3) := by decide +kernel
theorem dF_isZero_10 : decode cF_isZero 10 = .ok (.iconst 1, 1) := by decide +kernel
theorem dF_isZero_11 : decode cF_isZero 11 = .ok (.goto 4, 3) := by decide +kernel
theorem dF_isZero_14 : decode cF_isZero 14 = .ok (.iconst 0, 1) := by decide +kernel
theorem dF_isZero_15 : decode cF_isZero 15 = .ok (.ireturn, 1) := by decide +kernel
theorem dF_rank_0 : decode cF_rank 0 = .ok (.aload_n 0, 1) := by decide +kernel
theorem dF_rank_1 : decode cF_rank 1 = .ok (.lload_n 1, 1) := by decide +kernel
theorem dF_rank_2 : decode cF_rank 2 = .ok (.invokevirtual 64, 3) := by decide +kernel
theorem dF_rank_5 : decode cF_rank 5 = .ok (.ifCond .eq 12, 3) := by decide +kernel
theorem dF_rank_8 : decode cF_rank 8 = .ok (.aload_n 0, 1) := by decide +kernel
theorem dF_rank_9 : decode cF_rank 9 = .ok (.lload_n 1, 1) := by decide +kernel
theorem dF_rank_10 : decode cF_rank 10 = .ok (.invokevirtual 50, 3) := by decide +kernel
theorem dF_rank_13 : decode cF_rank 13 = .ok (.lneg, 1) := by decide +kernel
theorem dF_rank_14 : decode cF_rank 14 = .ok (.goto 8, 3) := by decide +kernel
theorem dF_rank_17 : decode cF_rank 17 = .ok (.aload_n 0, 1) := by decide +kernel
theorem dF_rank_18 : decode cF_rank 18 = .ok (.lload_n 1, 1) := by decide +kernel
theorem dF_rank_19 : decode cF_rank 19 = .ok (.invokevirtual 50, 3) := by decide +kernel
theorem dF_rank_22 : decode cF_rank 22 = .ok (.lreturn, 1) := by decide +kernel
theorem dF_sort_0 : decode cF_sort 0 = .ok (.aload_n 0, 1) := by decide +kernel
theorem dF_sort_1 : decode cF_sort 1 = .ok (.lload_n 1, 1) := by decide +kernel
theorem dF_sort_2 : decode cF_sort 2 = .ok (.invokevirtual 54, 3) := by decide +kernel
theorem dF_sort_5 : decode cF_sort 5 = .ok (.ifCond .eq 5, 3) := by decide +kernel
theorem dF_sort_8 : decode cF_sort 8 = .ok (.iconst 0, 1) := by decide +kernel
theorem dF_sort_9 : decode cF_sort 9 = .ok (.ireturn, 1) := by decide +kernel
theorem dF_sort_10 : decode cF_sort 10 = .ok (.aload_n 0, 1) := by decide +kernel
theorem dF_sort_11 : decode cF_sort 11 = .ok (.lload_n 1, 1) := by decide +kernel
theorem dF_sort_12 : decode cF_sort 12 = .ok (.invokevirtual 58, 3) := by decide +kernel
theorem dF_sort_15 : decode cF_sort 15 = .ok (.ifCond .eq 5, 3) := by decide +kernel
theorem dF_sort_18 : decode cF_sort 18 = .ok (.iconst 1, 1) := by decide +kernel
theorem dF_sort_19 : decode cF_sort 19 = .ok (.ireturn, 1) := by decide +kernel
theorem dF_sort_20 : decode cF_sort 20 = .ok (.aload_n 0, 1) := by decide +kernel
theorem dF_sort_21 : decode cF_sort 21 = .ok (.lload_n 1, 1) := by decide +kernel
theorem dF_sort_22 : decode cF_sort 22 = .ok (.invokevirtual 61, 3) := by decide +kernel
theorem dF_sort_25 : decode cF_sort 25 = .ok (.ifCond .eq 5, 3) := by decide +kernel
theorem dF_sort_28 : decode cF_sort 28 = .ok (.iconst 4, 1) := by decide +kernel
theorem dF_sort_29 : decode cF_sort 29 = .ok (.ireturn, 1) := by decide +kernel
theorem dF_sort_30 : decode cF_sort 30 = .ok (.aload_n 0, 1) := by decide +kernel
theorem dF_sort_31 : decode cF_sort 31 = .ok (.lload_n 1, 1) := by decide +kernel
theorem dF_sort_32 : decode cF_sort 32 = .ok (.invokevirtual 50, 3) := by decide +kernel
theorem dF_sort_35 : decode cF_sort 35 = .ok (.aload_n 0, 1) := by decide +kernel
theorem dF_sort_36 : decode cF_sort 36 = .ok (.getfield 42, 3) := by decide +kernel
theorem dF_sort_39 : decode cF_sort 39 = .ok (.lcmp, 1) := by decide +kernel
theorem dF_sort_40 : decode cF_sort 40 = .ok (.ifCond .ge 7, 3) := by decide +kernel
theorem dF_sort_43 : decode cF_sort 43 = .ok (.iconst 3, 1) := by decide +kernel
theorem dF_sort_44 : decode cF_sort 44 = .ok (.goto 4, 3) := by decide +kernel
theorem dF_sort_47 : decode cF_sort 47 = .ok (.iconst 2, 1) := by decide +kernel
theorem dF_sort_48 : decode cF_sort 48 = .ok (.ireturn, 1) := by decide +kernel
end
section
/-! Decode rows (by program). -/
theorem dU_init_0 : decode cU_init 0 = .ok (.aload_n 0, 1) := by decide +kernel
theorem dU_init_1 : decode cU_init 1 = .ok (.invokespecial 3, 3) := by decide +kernel
theorem dU_init_4 : decode cU_init 4 = .ok (.aload_n 0, 1) := by decide +kernel
theorem dU_init_5 : decode cU_init 5 = .ok (.bipush 16, 2) := by decide +kernel
theorem dU_init_7 : decode cU_init 7 = .ok (.newarray .long, 2) := by decide +kernel
theorem dU_init_9 : decode cU_init 9 = .ok (.putfield 9, 3) := by decide +kernel
theorem dU_init_12 : decode cU_init 12 = .ok (.aload_n 0, 1) := by decide +kernel
theorem dU_init_13 : decode cU_init 13 = .ok (.iconst 0, 1) := by decide +kernel
theorem dU_init_14 : decode cU_init 14 = .ok (.putfield 13, 3) := by decide +kernel
theorem dU_init_17 : decode cU_init 17 = .ok (.aload_n 0, 1) := by decide +kernel
theorem dU_init_18 : decode cU_init 18 = .ok (.iconst 0, 1) := by decide +kernel
theorem dU_init_19 : decode cU_init 19 = .ok (.putfield 17, 3) := by decide +kernel
theorem dU_init_22 : decode cU_init 22 = .ok (.return_, 1) := by decide +kernel
theorem dU_flags_0 : decode cU_flags 0 = .ok (.aload_n 0, 1) := by decide +kernel
theorem dU_flags_1 : decode cU_flags 1 = .ok (.getfield 17, 3) := by decide +kernel
theorem dU_flags_4 : decode cU_flags 4 = .ok (.istore_n 2, 1) := by decide +kernel
theorem dU_flags_5 : decode cU_flags 5 = .ok (.aload_n 0, 1) := by decide +kernel
theorem dU_flags_6 : decode cU_flags 6 = .ok (.dup, 1) := by decide +kernel
theorem dU_flags_7 : decode cU_flags 7 = .ok (.getfield 17, 3) := by decide +kernel
theorem dU_flags_10 : decode cU_flags 10 = .ok (.iload_n 1, 1) := by decide +kernel
theorem dU_flags_11 : decode cU_flags 11 = .ok (.iconst (-1), 1) := by decide +kernel
theorem dU_flags_12 : decode cU_flags 12 = .ok (.ixor, 1) := by decide +kernel
theorem dU_flags_13 : decode cU_flags 13 = .ok (.iand, 1) := by decide +kernel
theorem dU_flags_14 : decode cU_flags 14 = .ok (.putfield 17, 3) := by decide +kernel
theorem dU_flags_17 : decode cU_flags 17 = .ok (.iload_n 2, 1) := by decide +kernel
theorem dU_flags_18 : decode cU_flags 18 = .ok (.ireturn, 1) := by decide +kernel
theorem dU_put_0 : decode cU_put 0 = .ok (.iload_n 1, 1) := by decide +kernel
theorem dU_put_1 : decode cU_put 1 = .ok (.invokestatic 20, 3) := by decide +kernel
theorem dU_put_4 : decode cU_put 4 = .ok (.aload_n 0, 1) := by decide +kernel
theorem dU_put_5 : decode cU_put 5 = .ok (.getfield 9, 3) := by decide +kernel
theorem dU_put_8 : decode cU_put 8 = .ok (.iload_n 1, 1) := by decide +kernel
theorem dU_put_9 : decode cU_put 9 = .ok (.laload, 1) := by decide +kernel
theorem dU_put_10 : decode cU_put 10 = .ok (.lstore 4, 2) := by decide +kernel
theorem dU_put_12 : decode cU_put 12 = .ok (.aload_n 0, 1) := by decide +kernel
theorem dU_put_13 : decode cU_put 13 = .ok (.getfield 9, 3) := by decide +kernel
theorem dU_put_16 : decode cU_put 16 = .ok (.iload_n 1, 1) := by decide +kernel
theorem dU_put_17 : decode cU_put 17 = .ok (.lload_n 2, 1) := by decide +kernel
theorem dU_put_18 : decode cU_put 18 = .ok (.lastore, 1) := by decide +kernel
theorem dU_put_19 : decode cU_put 19 = .ok (.lload 4, 2) := by decide +kernel
theorem dU_put_21 : decode cU_put 21 = .ok (.lreturn, 1) := by decide +kernel
theorem dU_requireRegister_0 : decode cU_requireRegister 0 = .ok (.iload_n 0, 1) := by decide +kernel
theorem dU_requireRegister_1 : decode cU_requireRegister 1 = .ok (.ifCond .lt 9, 3) := by decide +kernel
theorem dU_requireRegister_4 : decode cU_requireRegister 4 = .ok (.iload_n 0, 1) := by decide +kernel
theorem dU_requireRegister_5 : decode cU_requireRegister 5 = .ok (.bipush 16, 2) := by decide +kernel
theorem dU_requireRegister_7 : decode cU_requireRegister 7 = .ok (.if_icmp .lt 13, 3) := by decide +kernel
theorem dU_requireRegister_10 : decode cU_requireRegister 10 = .ok (.new 24, 3) := by decide +kernel
theorem dU_requireRegister_13 : decode cU_requireRegister 13 = .ok (.dup, 1) := by decide +kernel
theorem dU_requireRegister_14 : decode cU_requireRegister 14 = .ok (.ldc 95, 2) := by decide +kernel
theorem dU_requireRegister_16 : decode cU_requireRegister 16 = .ok (.invokespecial 28, 3) := by decide +kernel
theorem dU_requireRegister_19 : decode cU_requireRegister 19 = .ok (.athrow, 1) := by decide +kernel
theorem dU_requireRegister_20 : decode cU_requireRegister 20 = .ok (.return_, 1) := by decide +kernel
theorem dU_bits_0 : decode cU_bits 0 = .ok (.iload_n 1, 1) := by decide +kernel
theorem dU_bits_1 : decode cU_bits 1 = .ok (.invokestatic 20, 3) := by decide +kernel
theorem dU_bits_4 : decode cU_bits 4 = .ok (.aload_n 0, 1) := by decide +kernel
theorem dU_bits_5 : decode cU_bits 5 = .ok (.getfield 9, 3) := by decide +kernel
theorem dU_bits_8 : decode cU_bits 8 = .ok (.iload_n 1, 1) := by decide +kernel
theorem dU_bits_9 : decode cU_bits 9 = .ok (.laload, 1) := by decide +kernel
theorem dU_bits_10 : decode cU_bits 10 = .ok (.lreturn, 1) := by decide +kernel
theorem dU_mode_0 : decode cU_mode 0 = .ok (.iload_n 1, 1) := by decide +kernel
theorem dU_mode_1 : decode cU_mode 1 = .ok (.ifCond .lt 8, 3) := by decide +kernel
theorem dU_mode_4 : decode cU_mode 4 = .ok (.iload_n 1, 1) := by decide +kernel
theorem dU_mode_5 : decode cU_mode 5 = .ok (.iconst 3, 1) := by decide +kernel
theorem dU_mode_6 : decode cU_mode 6 = .ok (.if_icmp .le 13, 3) := by decide +kernel
theorem dU_mode_9 : decode cU_mode 9 = .ok (.new 24, 3) := by decide +kernel
theorem dU_mode_12 : decode cU_mode 12 = .ok (.dup, 1) := by decide +kernel
theorem dU_mode_13 : decode cU_mode 13 = .ok (.ldc 26, 2) := by decide +kernel
theorem dU_mode_15 : decode cU_mode 15 = .ok (.invokespecial 28, 3) := by decide +kernel
theorem dU_mode_18 : decode cU_mode 18 = .ok (.athrow, 1) := by decide +kernel
theorem dU_mode_19 : decode cU_mode 19 = .ok (.aload_n 0, 1) := by decide +kernel
theorem dU_mode_20 : decode cU_mode 20 = .ok (.getfield 13, 3) := by decide +kernel
theorem dU_mode_23 : decode cU_mode 23 = .ok (.istore_n 2, 1) := by decide +kernel
theorem dU_mode_24 : decode cU_mode 24 = .ok (.aload_n 0, 1) := by decide +kernel
theorem dU_mode_25 : decode cU_mode 25 = .ok (.iload_n 1, 1) := by decide +kernel
theorem dU_mode_26 : decode cU_mode 26 = .ok (.putfield 13, 3) := by decide +kernel
theorem dU_mode_29 : decode cU_mode 29 = .ok (.iload_n 2, 1) := by decide +kernel
theorem dU_mode_30 : decode cU_mode 30 = .ok (.ireturn, 1) := by decide +kernel
theorem dU_work_0 : decode cU_work 0 = .ok (.iload_n 3, 1) := by decide +kernel
theorem dU_work_1 : decode cU_work 1 = .ok (.invokestatic 20, 3) := by decide +kernel
theorem dU_work_4 : decode cU_work 4 = .ok (.iload 4, 2) := by decide +kernel
theorem dU_work_6 : decode cU_work 6 = .ok (.invokestatic 20, 3) := by decide +kernel
theorem dU_work_9 : decode cU_work 9 = .ok (.iload 5, 2) := by decide +kernel
theorem dU_work_11 : decode cU_work 11 = .ok (.invokestatic 20, 3) := by decide +kernel
theorem dU_work_14 : decode cU_work 14 = .ok (.iload_n 1, 1) := by decide +kernel
theorem dU_work_15 : decode cU_work 15 = .ok (.ifCond .lt 8, 3) := by decide +kernel
theorem dU_work_18 : decode cU_work 18 = .ok (.iload_n 1, 1) := by decide +kernel
theorem dU_work_19 : decode cU_work 19 = .ok (.iconst 4, 1) := by decide +kernel
theorem dU_work_20 : decode cU_work 20 = .ok (.if_icmp .le 13, 3) := by decide +kernel
theorem dU_work_23 : decode cU_work 23 = .ok (.new 24, 3) := by decide +kernel
theorem dU_work_26 : decode cU_work 26 = .ok (.dup, 1) := by decide +kernel
theorem dU_work_27 : decode cU_work 27 = .ok (.ldc 31, 2) := by decide +kernel
theorem dU_work_29 : decode cU_work 29 = .ok (.invokespecial 28, 3) := by decide +kernel
theorem dU_work_32 : decode cU_work 32 = .ok (.athrow, 1) := by decide +kernel
theorem dU_work_33 : decode cU_work 33 = .ok (.iload_n 2, 1) := by decide +kernel
theorem dU_work_34 : decode cU_work 34 = .ok (.invokestatic 33, 3) := by decide +kernel
theorem dU_work_37 : decode cU_work 37 = .ok (.astore 6, 2) := by decide +kernel
theorem dU_work_39 : decode cU_work 39 = .ok (.aload_n 0, 1) := by decide +kernel
theorem dU_work_40 : decode cU_work 40 = .ok (.iload_n 3, 1) := by decide +kernel
theorem dU_work_41 : decode cU_work 41 = .ok (.aload_n 0, 1) := by decide +kernel
theorem dU_work_42 : decode cU_work 42 = .ok (.iload_n 1, 1) := by decide +kernel
theorem dU_work_43 : decode cU_work 43 = .ok (.aload 6, 2) := by decide +kernel
theorem dU_work_45 : decode cU_work 45 = .ok (.aload 6, 2) := by decide +kernel
theorem dU_work_47 : decode cU_work 47 = .ok (.aload_n 0, 1) := by decide +kernel
theorem dU_work_48 : decode cU_work 48 = .ok (.getfield 9, 3) := by decide +kernel
theorem dU_work_51 : decode cU_work 51 = .ok (.iload 4, 2) := by decide +kernel
theorem dU_work_53 : decode cU_work 53 = .ok (.laload, 1) := by decide +kernel
theorem dU_work_54 : decode cU_work 54 = .ok (.invokevirtual 37, 3) := by decide +kernel
theorem dU_work_57 : decode cU_work 57 = .ok (.aload 6, 2) := by decide +kernel
theorem dU_work_59 : decode cU_work 59 = .ok (.aload_n 0, 1) := by decide +kernel
theorem dU_work_60 : decode cU_work 60 = .ok (.getfield 9, 3) := by decide +kernel
theorem dU_work_63 : decode cU_work 63 = .ok (.iload 5, 2) := by decide +kernel
theorem dU_work_65 : decode cU_work 65 = .ok (.laload, 1) := by decide +kernel
theorem dU_work_66 : decode cU_work 66 = .ok (.invokevirtual 37, 3) := by decide +kernel
theorem dU_work_69 : decode cU_work 69 = .ok (.invokevirtual 43, 3) := by decide +kernel
theorem dU_work_72 : decode cU_work 72 = .ok (.invokevirtual 47, 3) := by decide +kernel
theorem dU_work_75 : decode cU_work 75 = .ok (.lreturn, 1) := by decide +kernel
theorem dU_format_0 : decode cU_format 0 = .ok (.iload_n 0, 1) := by decide +kernel
theorem dU_format_1 : decode cU_format 1 = .ok (.ifCond .eq 9, 3) := by decide +kernel
theorem dU_format_4 : decode cU_format 4 = .ok (.getstatic 97, 3) := by decide +kernel
theorem dU_format_7 : decode cU_format 7 = .ok (.goto 6, 3) := by decide +kernel
theorem dU_format_10 : decode cU_format 10 = .ok (.getstatic 101, 3) := by decide +kernel
theorem dU_format_13 : decode cU_format 13 = .ok (.areturn, 1) := by decide +kernel
theorem dU_result_0 : decode cU_result 0 = .ok (.aload_n 2, 1) := by decide +kernel
theorem dU_result_1 : decode cU_result 1 = .ok (.lload_n 3, 1) := by decide +kernel
theorem dU_result_2 : decode cU_result 2 = .ok (.invokevirtual 51, 3) := by decide +kernel
theorem dU_result_5 : decode cU_result 5 = .ok (.ifCond .ne 12, 3) := by decide +kernel
theorem dU_result_8 : decode cU_result 8 = .ok (.aload_n 2, 1) := by decide +kernel
theorem dU_result_9 : decode cU_result 9 = .ok (.lload 5, 2) := by decide +kernel
theorem dU_result_11 : decode cU_result 11 = .ok (.invokevirtual 51, 3) := by decide +kernel
theorem dU_result_14 : decode cU_result 14 = .ok (.ifCond .eq 8, 3) := by decide +kernel
theorem dU_result_17 : decode cU_result 17 = .ok (.aload_n 2, 1) := by decide +kernel
theorem dU_result_18 : decode cU_result 18 = .ok (.invokevirtual 88, 3) := by decide +kernel
theorem dU_result_21 : decode cU_result 21 = .ok (.lreturn, 1) := by decide +kernel
theorem dU_result_22 : decode cU_result 22 = .ok (.iload_n 1, 1) := by decide +kernel
theorem dU_result_23 : decode cU_result 23 = .ok (.tableswitch 69 0 3 #[29, 38, 51, 60], 29) := by decide +kernel
theorem dU_result_52 : decode cU_result 52 = .ok (.aload_n 0, 1) := by decide +kernel
theorem dU_result_53 : decode cU_result 53 = .ok (.aload_n 2, 1) := by decide +kernel
theorem dU_result_54 : decode cU_result 54 = .ok (.lload_n 3, 1) := by decide +kernel
theorem dU_result_55 : decode cU_result 55 = .ok (.lload 5, 2) := by decide +kernel
theorem dU_result_57 : decode cU_result 57 = .ok (.invokevirtual 104, 3) := by decide +kernel
theorem dU_result_60 : decode cU_result 60 = .ok (.lreturn, 1) := by decide +kernel
theorem dU_result_61 : decode cU_result 61 = .ok (.aload_n 0, 1) := by decide +kernel
theorem dU_result_62 : decode cU_result 62 = .ok (.aload_n 2, 1) := by decide +kernel
theorem dU_result_63 : decode cU_result 63 = .ok (.lload_n 3, 1) := by decide +kernel
theorem dU_result_64 : decode cU_result 64 = .ok (.aload_n 2, 1) := by decide +kernel
theorem dU_result_65 : decode cU_result 65 = .ok (.lload 5, 2) := by decide +kernel
theorem dU_result_67 : decode cU_result 67 = .ok (.invokevirtual 92, 3) := by decide +kernel
theorem dU_result_70 : decode cU_result 70 = .ok (.invokevirtual 104, 3) := by decide +kernel
theorem dU_result_73 : decode cU_result 73 = .ok (.lreturn, 1) := by decide +kernel
theorem dU_result_74 : decode cU_result 74 = .ok (.aload_n 0, 1) := by decide +kernel
theorem dU_result_75 : decode cU_result 75 = .ok (.aload_n 2, 1) := by decide +kernel
theorem dU_result_76 : decode cU_result 76 = .ok (.lload_n 3, 1) := by decide +kernel
theorem dU_result_77 : decode cU_result 77 = .ok (.lload 5, 2) := by decide +kernel
theorem dU_result_79 : decode cU_result 79 = .ok (.invokevirtual 107, 3) := by decide +kernel
theorem dU_result_82 : decode cU_result 82 = .ok (.lreturn, 1) := by decide +kernel
theorem dU_result_83 : decode cU_result 83 = .ok (.aload_n 0, 1) := by decide +kernel
theorem dU_result_84 : decode cU_result 84 = .ok (.aload_n 2, 1) := by decide +kernel
theorem dU_result_85 : decode cU_result 85 = .ok (.lload_n 3, 1) := by decide +kernel
theorem dU_result_86 : decode cU_result 86 = .ok (.lload 5, 2) := by decide +kernel
theorem dU_result_88 : decode cU_result 88 = .ok (.invokevirtual 110, 3) := by decide +kernel
theorem dU_result_91 : decode cU_result 91 = .ok (.lreturn, 1) := by decide +kernel
theorem dU_result_92 : decode cU_result 92 = .ok (.aload_n 0, 1) := by decide +kernel
theorem dU_result_93 : decode cU_result 93 = .ok (.aload_n 2, 1) := by decide +kernel
theorem dU_result_94 : decode cU_result 94 = .ok (.lload_n 3, 1) := by decide +kernel
theorem dU_result_95 : decode cU_result 95 = .ok (.lload 5, 2) := by decide +kernel
theorem dU_result_97 : decode cU_result 97 = .ok (.invokevirtual 113, 3) := by decide +kernel
theorem dU_result_100 : decode cU_result 100 = .ok (.lreturn, 1) := by decide +kernel
theorem dU_sum_0 : decode cU_sum 0 = .ok (.aload_n 1, 1) := by decide +kernel
theorem dU_sum_1 : decode cU_sum 1 = .ok (.lload_n 2, 1) := by decide +kernel
theorem dU_sum_2 : decode cU_sum 2 = .ok (.invokevirtual 69, 3) := by decide +kernel
theorem dU_sum_5 : decode cU_sum 5 = .ok (.aload_n 1, 1) := by decide +kernel
theorem dU_sum_6 : decode cU_sum 6 = .ok (.lload 4, 2) := by decide +kernel
theorem dU_sum_8 : decode cU_sum 8 = .ok (.invokevirtual 69, 3) := by decide +kernel
theorem dU_sum_11 : decode cU_sum 11 = .ok (.if_icmp .ne 7, 3) := by decide +kernel
theorem dU_sum_14 : decode cU_sum 14 = .ok (.iconst 1, 1) := by decide +kernel
theorem dU_sum_15 : decode cU_sum 15 = .ok (.goto 4, 3) := by decide +kernel
theorem dU_sum_18 : decode cU_sum 18 = .ok (.iconst 0, 1) := by decide +kernel
theorem dU_sum_19 : decode cU_sum 19 = .ok (.istore 6, 2) := by decide +kernel
theorem dU_sum_21 : decode cU_sum 21 = .ok (.aload_n 1, 1) := by decide +kernel
theorem dU_sum_22 : decode cU_sum 22 = .ok (.lload_n 2, 1) := by decide +kernel
theorem dU_sum_23 : decode cU_sum 23 = .ok (.invokevirtual 116, 3) := by decide +kernel
theorem dU_sum_26 : decode cU_sum 26 = .ok (.ifCond .eq 27, 3) := by decide +kernel
theorem dU_sum_29 : decode cU_sum 29 = .ok (.aload_n 1, 1) := by decide +kernel
theorem dU_sum_30 : decode cU_sum 30 = .ok (.lload 4, 2) := by decide +kernel
theorem dU_sum_32 : decode cU_sum 32 = .ok (.invokevirtual 116, 3) := by decide +kernel
theorem dU_sum_35 : decode cU_sum 35 = .ok (.ifCond .eq 16, 3) := by decide +kernel
theorem dU_sum_38 : decode cU_sum 38 = .ok (.iload 6, 2) := by decide +kernel
theorem dU_sum_40 : decode cU_sum 40 = .ok (.ifCond .ne 11, 3) := by decide +kernel
theorem dU_sum_43 : decode cU_sum 43 = .ok (.aload_n 0, 1) := by decide +kernel
theorem dU_sum_44 : decode cU_sum 44 = .ok (.aload_n 1, 1) := by decide +kernel
theorem dU_sum_45 : decode cU_sum 45 = .ok (.invokevirtual 119, 3) := by decide +kernel
theorem dU_sum_48 : decode cU_sum 48 = .ok (.goto 4, 3) := by decide +kernel
theorem dU_sum_51 : decode cU_sum 51 = .ok (.lload_n 2, 1) := by decide +kernel
theorem dU_sum_52 : decode cU_sum 52 = .ok (.lreturn, 1) := by decide +kernel
theorem dU_sum_53 : decode cU_sum 53 = .ok (.aload_n 1, 1) := by decide +kernel
theorem dU_sum_54 : decode cU_sum 54 = .ok (.lload 4, 2) := by decide +kernel
theorem dU_sum_56 : decode cU_sum 56 = .ok (.invokevirtual 116, 3) := by decide +kernel
theorem dU_sum_59 : decode cU_sum 59 = .ok (.ifCond .eq 6, 3) := by decide +kernel
theorem dU_sum_62 : decode cU_sum 62 = .ok (.lload 4, 2) := by decide +kernel
theorem dU_sum_64 : decode cU_sum 64 = .ok (.lreturn, 1) := by decide +kernel
theorem dU_sum_65 : decode cU_sum 65 = .ok (.aload_n 1, 1) := by decide +kernel
theorem dU_sum_66 : decode cU_sum 66 = .ok (.lload_n 2, 1) := by decide +kernel
theorem dU_sum_67 : decode cU_sum 67 = .ok (.invokevirtual 123, 3) := by decide +kernel
theorem dU_sum_70 : decode cU_sum 70 = .ok (.aload_n 1, 1) := by decide +kernel
theorem dU_sum_71 : decode cU_sum 71 = .ok (.lload 4, 2) := by decide +kernel
theorem dU_sum_73 : decode cU_sum 73 = .ok (.invokevirtual 123, 3) := by decide +kernel
theorem dU_sum_76 : decode cU_sum 76 = .ok (.invokestatic 126, 3) := by decide +kernel
theorem dU_sum_79 : decode cU_sum 79 = .ok (.bipush 9, 2) := by decide +kernel
theorem dU_sum_81 : decode cU_sum 81 = .ok (.isub, 1) := by decide +kernel
theorem dU_sum_82 : decode cU_sum 82 = .ok (.istore 7, 2) := by decide +kernel
theorem dU_sum_84 : decode cU_sum 84 = .ok (.aload_n 1, 1) := by decide +kernel
theorem dU_sum_85 : decode cU_sum 85 = .ok (.lload_n 2, 1) := by decide +kernel
theorem dU_sum_86 : decode cU_sum 86 = .ok (.iload 7, 2) := by decide +kernel
theorem dU_sum_88 : decode cU_sum 88 = .ok (.invokestatic 132, 3) := by decide +kernel
theorem dU_sum_91 : decode cU_sum 91 = .ok (.aload_n 1, 1) := by decide +kernel
theorem dU_sum_92 : decode cU_sum 92 = .ok (.lload 4, 2) := by decide +kernel
theorem dU_sum_94 : decode cU_sum 94 = .ok (.iload 7, 2) := by decide +kernel
theorem dU_sum_96 : decode cU_sum 96 = .ok (.invokestatic 132, 3) := by decide +kernel
theorem dU_sum_99 : decode cU_sum 99 = .ok (.ladd, 1) := by decide +kernel
theorem dU_sum_100 : decode cU_sum 100 = .ok (.lstore 8, 2) := by decide +kernel
theorem dU_sum_102 : decode cU_sum 102 = .ok (.lload 8, 2) := by decide +kernel
theorem dU_sum_104 : decode cU_sum 104 = .ok (.lconst 0, 1) := by decide +kernel
theorem dU_sum_105 : decode cU_sum 105 = .ok (.lcmp, 1) := by decide +kernel
theorem dU_sum_106 : decode cU_sum 106 = .ok (.ifCond .ne 34, 3) := by decide +kernel
theorem dU_sum_109 : decode cU_sum 109 = .ok (.aload_n 1, 1) := by decide +kernel
theorem dU_sum_110 : decode cU_sum 110 = .ok (.iload 6, 2) := by decide +kernel
theorem dU_sum_112 : decode cU_sum 112 = .ok (.ifCond .eq 11, 3) := by decide +kernel
theorem dU_sum_115 : decode cU_sum 115 = .ok (.aload_n 1, 1) := by decide +kernel
theorem dU_sum_116 : decode cU_sum 116 = .ok (.lload_n 2, 1) := by decide +kernel
theorem dU_sum_117 : decode cU_sum 117 = .ok (.invokevirtual 69, 3) := by decide +kernel
theorem dU_sum_120 : decode cU_sum 120 = .ok (.goto 16, 3) := by decide +kernel
theorem dU_sum_123 : decode cU_sum 123 = .ok (.aload_n 0, 1) := by decide +kernel
theorem dU_sum_124 : decode cU_sum 124 = .ok (.getfield 13, 3) := by decide +kernel
theorem dU_sum_127 : decode cU_sum 127 = .ok (.iconst 3, 1) := by decide +kernel
theorem dU_sum_128 : decode cU_sum 128 = .ok (.if_icmp .ne 7, 3) := by decide +kernel
theorem dU_sum_131 : decode cU_sum 131 = .ok (.iconst 1, 1) := by decide +kernel
theorem dU_sum_132 : decode cU_sum 132 = .ok (.goto 4, 3) := by decide +kernel
theorem dU_sum_135 : decode cU_sum 135 = .ok (.iconst 0, 1) := by decide +kernel
theorem dU_sum_136 : decode cU_sum 136 = .ok (.invokevirtual 58, 3) := by decide +kernel
theorem dU_sum_139 : decode cU_sum 139 = .ok (.lreturn, 1) := by decide +kernel
theorem dU_sum_140 : decode cU_sum 140 = .ok (.aload_n 0, 1) := by decide +kernel
theorem dU_sum_141 : decode cU_sum 141 = .ok (.aload_n 1, 1) := by decide +kernel
theorem dU_sum_142 : decode cU_sum 142 = .ok (.lload 8, 2) := by decide +kernel
theorem dU_sum_144 : decode cU_sum 144 = .ok (.lconst 0, 1) := by decide +kernel
theorem dU_sum_145 : decode cU_sum 145 = .ok (.lcmp, 1) := by decide +kernel
theorem dU_sum_146 : decode cU_sum 146 = .ok (.ifCond .ge 7, 3) := by decide +kernel
theorem dU_sum_149 : decode cU_sum 149 = .ok (.iconst 1, 1) := by decide +kernel
theorem dU_sum_150 : decode cU_sum 150 = .ok (.goto 4, 3) := by decide +kernel
theorem dU_sum_153 : decode cU_sum 153 = .ok (.iconst 0, 1) := by decide +kernel
theorem dU_sum_154 : decode cU_sum 154 = .ok (.lload 8, 2) := by decide +kernel
theorem dU_sum_156 : decode cU_sum 156 = .ok (.lconst 0, 1) := by decide +kernel
theorem dU_sum_157 : decode cU_sum 157 = .ok (.lcmp, 1) := by decide +kernel
theorem dU_sum_158 : decode cU_sum 158 = .ok (.ifCond .ge 9, 3) := by decide +kernel
theorem dU_sum_161 : decode cU_sum 161 = .ok (.lload 8, 2) := by decide +kernel
theorem dU_sum_163 : decode cU_sum 163 = .ok (.lneg, 1) := by decide +kernel
theorem dU_sum_164 : decode cU_sum 164 = .ok (.goto 5, 3) := by decide +kernel
theorem dU_sum_167 : decode cU_sum 167 = .ok (.lload 8, 2) := by decide +kernel
theorem dU_sum_169 : decode cU_sum 169 = .ok (.iload 7, 2) := by decide +kernel
theorem dU_sum_171 : decode cU_sum 171 = .ok (.invokevirtual 62, 3) := by decide +kernel
theorem dU_sum_174 : decode cU_sum 174 = .ok (.lreturn, 1) := by decide +kernel
theorem dU_invalid_0 : decode cU_invalid 0 = .ok (.aload_n 0, 1) := by decide +kernel
theorem dU_invalid_1 : decode cU_invalid 1 = .ok (.bipush 16, 2) := by decide +kernel
theorem dU_invalid_3 : decode cU_invalid 3 = .ok (.invokevirtual 66, 3) := by decide +kernel
theorem dU_invalid_6 : decode cU_invalid 6 = .ok (.aload_n 1, 1) := by decide +kernel
theorem dU_invalid_7 : decode cU_invalid 7 = .ok (.invokevirtual 88, 3) := by decide +kernel
theorem dU_invalid_10 : decode cU_invalid 10 = .ok (.lreturn, 1) := by decide +kernel
theorem dU_raise_0 : decode cU_raise 0 = .ok (.aload_n 0, 1) := by decide +kernel
theorem dU_raise_1 : decode cU_raise 1 = .ok (.dup, 1) := by decide +kernel
theorem dU_raise_2 : decode cU_raise 2 = .ok (.getfield 17, 3) := by decide +kernel
theorem dU_raise_5 : decode cU_raise 5 = .ok (.iload_n 1, 1) := by decide +kernel
theorem dU_raise_6 : decode cU_raise 6 = .ok (.ior, 1) := by decide +kernel
theorem dU_raise_7 : decode cU_raise 7 = .ok (.putfield 17, 3) := by decide +kernel
theorem dU_raise_10 : decode cU_raise 10 = .ok (.return_, 1) := by decide +kernel
theorem dU_freePlaces_0 : decode cU_freePlaces 0 = .ok (.iconst 0, 1) := by decide +kernel
theorem dU_freePlaces_1 : decode cU_freePlaces 1 = .ok (.istore_n 2, 1) := by decide +kernel
theorem dU_freePlaces_2 : decode cU_freePlaces 2 = .ok (.bipush 32, 2) := by decide +kernel
theorem dU_freePlaces_4 : decode cU_freePlaces 4 = .ok (.istore_n 3, 1) := by decide +kernel
theorem dU_freePlaces_5 : decode cU_freePlaces 5 = .ok (.iload_n 3, 1) := by decide +kernel
theorem dU_freePlaces_6 : decode cU_freePlaces 6 = .ok (.ifCond .le 27, 3) := by decide +kernel
theorem dU_freePlaces_9 : decode cU_freePlaces 9 = .ok (.lload_n 0, 1) := by decide +kernel
theorem dU_freePlaces_10 : decode cU_freePlaces 10 = .ok (.iload_n 2, 1) := by decide +kernel
theorem dU_freePlaces_11 : decode cU_freePlaces 11 = .ok (.lshl, 1) := by decide +kernel
theorem dU_freePlaces_12 : decode cU_freePlaces 12 = .ok (.bipush 63, 2) := by decide +kernel
theorem dU_freePlaces_14 : decode cU_freePlaces 14 = .ok (.iload_n 3, 1) := by decide +kernel
theorem dU_freePlaces_15 : decode cU_freePlaces 15 = .ok (.isub, 1) := by decide +kernel
theorem dU_freePlaces_16 : decode cU_freePlaces 16 = .ok (.lushr, 1) := by decide +kernel
theorem dU_freePlaces_17 : decode cU_freePlaces 17 = .ok (.lconst 0, 1) := by decide +kernel
theorem dU_freePlaces_18 : decode cU_freePlaces 18 = .ok (.lcmp, 1) := by decide +kernel
theorem dU_freePlaces_19 : decode cU_freePlaces 19 = .ok (.ifCond .ne 7, 3) := by decide +kernel
theorem dU_freePlaces_22 : decode cU_freePlaces 22 = .ok (.iload_n 2, 1) := by decide +kernel
theorem dU_freePlaces_23 : decode cU_freePlaces 23 = .ok (.iload_n 3, 1) := by decide +kernel
theorem dU_freePlaces_24 : decode cU_freePlaces 24 = .ok (.iadd, 1) := by decide +kernel
theorem dU_freePlaces_25 : decode cU_freePlaces 25 = .ok (.istore_n 2, 1) := by decide +kernel
theorem dU_freePlaces_26 : decode cU_freePlaces 26 = .ok (.iload_n 3, 1) := by decide +kernel
theorem dU_freePlaces_27 : decode cU_freePlaces 27 = .ok (.iconst 2, 1) := by decide +kernel
theorem dU_freePlaces_28 : decode cU_freePlaces 28 = .ok (.idiv, 1) := by decide +kernel
theorem dU_freePlaces_29 : decode cU_freePlaces 29 = .ok (.istore_n 3, 1) := by decide +kernel
theorem dU_freePlaces_30 : decode cU_freePlaces 30 = .ok (.goto (-25), 3) := by decide +kernel
theorem dU_freePlaces_33 : decode cU_freePlaces 33 = .ok (.iload_n 2, 1) := by decide +kernel
theorem dU_freePlaces_34 : decode cU_freePlaces 34 = .ok (.ireturn, 1) := by decide +kernel
theorem dU_term_0 : decode cU_term 0 = .ok (.iload_n 3, 1) := by decide +kernel
theorem dU_term_1 : decode cU_term 1 = .ok (.aload_n 0, 1) := by decide +kernel
theorem dU_term_2 : decode cU_term 2 = .ok (.lload_n 1, 1) := by decide +kernel
theorem dU_term_3 : decode cU_term 3 = .ok (.invokevirtual 123, 3) := by decide +kernel
theorem dU_term_6 : decode cU_term 6 = .ok (.isub, 1) := by decide +kernel
theorem dU_term_7 : decode cU_term 7 = .ok (.bipush 9, 2) := by decide +kernel
theorem dU_term_9 : decode cU_term 9 = .ok (.iadd, 1) := by decide +kernel
theorem dU_term_10 : decode cU_term 10 = .ok (.istore 4, 2) := by decide +kernel
theorem dU_term_12 : decode cU_term 12 = .ok (.aload_n 0, 1) := by decide +kernel
theorem dU_term_13 : decode cU_term 13 = .ok (.lload_n 1, 1) := by decide +kernel
theorem dU_term_14 : decode cU_term 14 = .ok (.invokevirtual 136, 3) := by decide +kernel
theorem dU_term_17 : decode cU_term 17 = .ok (.bipush 9, 2) := by decide +kernel
theorem dU_term_19 : decode cU_term 19 = .ok (.lshl, 1) := by decide +kernel
theorem dU_term_20 : decode cU_term 20 = .ok (.iload 4, 2) := by decide +kernel
theorem dU_term_22 : decode cU_term 22 = .ok (.invokestatic 139, 3) := by decide +kernel
theorem dU_term_25 : decode cU_term 25 = .ok (.lstore 5, 2) := by decide +kernel
theorem dU_term_27 : decode cU_term 27 = .ok (.aload_n 0, 1) := by decide +kernel
theorem dU_term_28 : decode cU_term 28 = .ok (.lload_n 1, 1) := by decide +kernel
theorem dU_term_29 : decode cU_term 29 = .ok (.invokevirtual 69, 3) := by decide +kernel
theorem dU_term_32 : decode cU_term 32 = .ok (.ifCond .eq 9, 3) := by decide +kernel
theorem dU_term_35 : decode cU_term 35 = .ok (.lload 5, 2) := by decide +kernel
theorem dU_term_37 : decode cU_term 37 = .ok (.lneg, 1) := by decide +kernel
theorem dU_term_38 : decode cU_term 38 = .ok (.goto 5, 3) := by decide +kernel
theorem dU_term_41 : decode cU_term 41 = .ok (.lload 5, 2) := by decide +kernel
theorem dU_term_43 : decode cU_term 43 = .ok (.lreturn, 1) := by decide +kernel
theorem dU_pressed_0 : decode cU_pressed 0 = .ok (.iload_n 2, 1) := by decide +kernel
theorem dU_pressed_1 : decode cU_pressed 1 = .ok (.bipush 62, 2) := by decide +kernel
theorem dU_pressed_3 : decode cU_pressed 3 = .ok (.if_icmp .le 15, 3) := by decide +kernel
theorem dU_pressed_6 : decode cU_pressed 6 = .ok (.lload_n 0, 1) := by decide +kernel
theorem dU_pressed_7 : decode cU_pressed 7 = .ok (.lconst 0, 1) := by decide +kernel
theorem dU_pressed_8 : decode cU_pressed 8 = .ok (.lcmp, 1) := by decide +kernel
theorem dU_pressed_9 : decode cU_pressed 9 = .ok (.ifCond .ne 7, 3) := by decide +kernel
theorem dU_pressed_12 : decode cU_pressed 12 = .ok (.lconst 0, 1) := by decide +kernel
theorem dU_pressed_13 : decode cU_pressed 13 = .ok (.goto 4, 3) := by decide +kernel
theorem dU_pressed_16 : decode cU_pressed 16 = .ok (.lconst 1, 1) := by decide +kernel
theorem dU_pressed_17 : decode cU_pressed 17 = .ok (.lreturn, 1) := by decide +kernel
theorem dU_pressed_18 : decode cU_pressed 18 = .ok (.lload_n 0, 1) := by decide +kernel
theorem dU_pressed_19 : decode cU_pressed 19 = .ok (.iload_n 2, 1) := by decide +kernel
theorem dU_pressed_20 : decode cU_pressed 20 = .ok (.lushr, 1) := by decide +kernel
theorem dU_pressed_21 : decode cU_pressed 21 = .ok (.lstore_n 3, 1) := by decide +kernel
theorem dU_pressed_22 : decode cU_pressed 22 = .ok (.lload_n 3, 1) := by decide +kernel
theorem dU_pressed_23 : decode cU_pressed 23 = .ok (.iload_n 2, 1) := by decide +kernel
theorem dU_pressed_24 : decode cU_pressed 24 = .ok (.lshl, 1) := by decide +kernel
theorem dU_pressed_25 : decode cU_pressed 25 = .ok (.lload_n 0, 1) := by decide +kernel
theorem dU_pressed_26 : decode cU_pressed 26 = .ok (.lcmp, 1) := by decide +kernel
theorem dU_pressed_27 : decode cU_pressed 27 = .ok (.ifCond .ne 7, 3) := by decide +kernel
theorem dU_pressed_30 : decode cU_pressed 30 = .ok (.lload_n 3, 1) := by decide +kernel
theorem dU_pressed_31 : decode cU_pressed 31 = .ok (.goto 6, 3) := by decide +kernel
theorem dU_pressed_34 : decode cU_pressed 34 = .ok (.lload_n 3, 1) := by decide +kernel
theorem dU_pressed_35 : decode cU_pressed 35 = .ok (.lconst 1, 1) := by decide +kernel
theorem dU_pressed_36 : decode cU_pressed 36 = .ok (.lor, 1) := by decide +kernel
theorem dU_pressed_37 : decode cU_pressed 37 = .ok (.lreturn, 1) := by decide +kernel
theorem dU_rounded_0 : decode cU_rounded 0 = .ok (.lload_n 3, 1) := by decide +kernel
theorem dU_rounded_1 : decode cU_rounded 1 = .ok (.lconst 0, 1) := by decide +kernel
theorem dU_rounded_2 : decode cU_rounded 2 = .ok (.lcmp, 1) := by decide +kernel
theorem dU_rounded_3 : decode cU_rounded 3 = .ok (.ifCond .ge 13, 3) := by decide +kernel
theorem dU_rounded_6 : decode cU_rounded 6 = .ok (.lload_n 3, 1) := by decide +kernel
theorem dU_rounded_7 : decode cU_rounded 7 = .ok (.iconst 1, 1) := by decide +kernel
theorem dU_rounded_8 : decode cU_rounded 8 = .ok (.lushr, 1) := by decide +kernel
theorem dU_rounded_9 : decode cU_rounded 9 = .ok (.lload_n 3, 1) := by decide +kernel
theorem dU_rounded_10 : decode cU_rounded 10 = .ok (.lconst 1, 1) := by decide +kernel
theorem dU_rounded_11 : decode cU_rounded 11 = .ok (.land, 1) := by decide +kernel
theorem dU_rounded_12 : decode cU_rounded 12 = .ok (.lor, 1) := by decide +kernel
theorem dU_rounded_13 : decode cU_rounded 13 = .ok (.goto 4, 3) := by decide +kernel
theorem dU_rounded_16 : decode cU_rounded 16 = .ok (.lload_n 3, 1) := by decide +kernel
theorem dU_rounded_17 : decode cU_rounded 17 = .ok (.lstore 6, 2) := by decide +kernel
theorem dU_rounded_19 : decode cU_rounded 19 = .ok (.lload 6, 2) := by decide +kernel
theorem dU_rounded_21 : decode cU_rounded 21 = .ok (.invokestatic 171, 3) := by decide +kernel
theorem dU_rounded_24 : decode cU_rounded 24 = .ok (.istore 8, 2) := by decide +kernel
theorem dU_rounded_26 : decode cU_rounded 26 = .ok (.lload 6, 2) := by decide +kernel
theorem dU_rounded_28 : decode cU_rounded 28 = .ok (.iload 8, 2) := by decide +kernel
theorem dU_rounded_30 : decode cU_rounded 30 = .ok (.lshl, 1) := by decide +kernel
theorem dU_rounded_31 : decode cU_rounded 31 = .ok (.lstore 6, 2) := by decide +kernel
theorem dU_rounded_33 : decode cU_rounded 33 = .ok (.lload_n 3, 1) := by decide +kernel
theorem dU_rounded_34 : decode cU_rounded 34 = .ok (.lconst 0, 1) := by decide +kernel
theorem dU_rounded_35 : decode cU_rounded 35 = .ok (.lcmp, 1) := by decide +kernel
theorem dU_rounded_36 : decode cU_rounded 36 = .ok (.ifCond .ge 10, 3) := by decide +kernel
theorem dU_rounded_39 : decode cU_rounded 39 = .ok (.iload 5, 2) := by decide +kernel
theorem dU_rounded_41 : decode cU_rounded 41 = .ok (.iconst 1, 1) := by decide +kernel
theorem dU_rounded_42 : decode cU_rounded 42 = .ok (.iadd, 1) := by decide +kernel
theorem dU_rounded_43 : decode cU_rounded 43 = .ok (.goto 5, 3) := by decide +kernel
theorem dU_rounded_46 : decode cU_rounded 46 = .ok (.iload 5, 2) := by decide +kernel
theorem dU_rounded_48 : decode cU_rounded 48 = .ok (.iload 8, 2) := by decide +kernel
theorem dU_rounded_50 : decode cU_rounded 50 = .ok (.isub, 1) := by decide +kernel
theorem dU_rounded_51 : decode cU_rounded 51 = .ok (.istore 9, 2) := by decide +kernel
theorem dU_rounded_53 : decode cU_rounded 53 = .ok (.iload 9, 2) := by decide +kernel
theorem dU_rounded_55 : decode cU_rounded 55 = .ok (.bipush 62, 2) := by decide +kernel
theorem dU_rounded_57 : decode cU_rounded 57 = .ok (.iadd, 1) := by decide +kernel
theorem dU_rounded_58 : decode cU_rounded 58 = .ok (.aload_n 1, 1) := by decide +kernel
theorem dU_rounded_59 : decode cU_rounded 59 = .ok (.getfield 174, 3) := by decide +kernel
theorem dU_rounded_62 : decode cU_rounded 62 = .ok (.iadd, 1) := by decide +kernel
theorem dU_rounded_63 : decode cU_rounded 63 = .ok (.iconst 1, 1) := by decide +kernel
theorem dU_rounded_64 : decode cU_rounded 64 = .ok (.invokestatic 126, 3) := by decide +kernel
theorem dU_rounded_67 : decode cU_rounded 67 = .ok (.istore 10, 2) := by decide +kernel
theorem dU_rounded_69 : decode cU_rounded 69 = .ok (.iload 10, 2) := by decide +kernel
theorem dU_rounded_71 : decode cU_rounded 71 = .ok (.iconst 2, 1) := by decide +kernel
theorem dU_rounded_72 : decode cU_rounded 72 = .ok (.aload_n 1, 1) := by decide +kernel
theorem dU_rounded_73 : decode cU_rounded 73 = .ok (.getfield 174, 3) := by decide +kernel
theorem dU_rounded_76 : decode cU_rounded 76 = .ok (.imul, 1) := by decide +kernel
theorem dU_rounded_77 : decode cU_rounded 77 = .ok (.if_icmp .le 10, 3) := by decide +kernel
theorem dU_rounded_80 : decode cU_rounded 80 = .ok (.aload_n 0, 1) := by decide +kernel
theorem dU_rounded_81 : decode cU_rounded 81 = .ok (.aload_n 1, 1) := by decide +kernel
theorem dU_rounded_82 : decode cU_rounded 82 = .ok (.iload_n 2, 1) := by decide +kernel
theorem dU_rounded_83 : decode cU_rounded 83 = .ok (.invokevirtual 177, 3) := by decide +kernel
theorem dU_rounded_86 : decode cU_rounded 86 = .ok (.lreturn, 1) := by decide +kernel
theorem dU_rounded_87 : decode cU_rounded 87 = .ok (.aload_n 1, 1) := by decide +kernel
theorem dU_rounded_88 : decode cU_rounded 88 = .ok (.iload 10, 2) := by decide +kernel
theorem dU_rounded_90 : decode cU_rounded 90 = .ok (.invokevirtual 181, 3) := by decide +kernel
theorem dU_rounded_93 : decode cU_rounded 93 = .ok (.iload 9, 2) := by decide +kernel
theorem dU_rounded_95 : decode cU_rounded 95 = .ok (.isub, 1) := by decide +kernel
theorem dU_rounded_96 : decode cU_rounded 96 = .ok (.istore 11, 2) := by decide +kernel
theorem dU_rounded_98 : decode cU_rounded 98 = .ok (.iload 11, 2) := by decide +kernel
theorem dU_rounded_100 : decode cU_rounded 100 = .ok (.bipush 63, 2) := by decide +kernel
theorem dU_rounded_102 : decode cU_rounded 102 = .ok (.if_icmp .le 10, 3) := by decide +kernel
theorem dU_rounded_105 : decode cU_rounded 105 = .ok (.lconst 1, 1) := by decide +kernel
theorem dU_rounded_106 : decode cU_rounded 106 = .ok (.lstore 6, 2) := by decide +kernel
theorem dU_rounded_108 : decode cU_rounded 108 = .ok (.bipush 63, 2) := by decide +kernel
theorem dU_rounded_110 : decode cU_rounded 110 = .ok (.istore 11, 2) := by decide +kernel
theorem dU_rounded_112 : decode cU_rounded 112 = .ok (.lload 6, 2) := by decide +kernel
theorem dU_rounded_114 : decode cU_rounded 114 = .ok (.iload 11, 2) := by decide +kernel
theorem dU_rounded_116 : decode cU_rounded 116 = .ok (.lushr, 1) := by decide +kernel
theorem dU_rounded_117 : decode cU_rounded 117 = .ok (.lstore 12, 2) := by decide +kernel
theorem dU_rounded_119 : decode cU_rounded 119 = .ok (.lload 6, 2) := by decide +kernel
theorem dU_rounded_121 : decode cU_rounded 121 = .ok (.lload 12, 2) := by decide +kernel
theorem dU_rounded_123 : decode cU_rounded 123 = .ok (.iload 11, 2) := by decide +kernel
theorem dU_rounded_125 : decode cU_rounded 125 = .ok (.lshl, 1) := by decide +kernel
theorem dU_rounded_126 : decode cU_rounded 126 = .ok (.lsub, 1) := by decide +kernel
theorem dU_rounded_127 : decode cU_rounded 127 = .ok (.lstore 14, 2) := by decide +kernel
theorem dU_rounded_129 : decode cU_rounded 129 = .ok (.aload_n 0, 1) := by decide +kernel
theorem dU_rounded_130 : decode cU_rounded 130 = .ok (.iload_n 2, 1) := by decide +kernel
theorem dU_rounded_131 : decode cU_rounded 131 = .ok (.lload 12, 2) := by decide +kernel
theorem dU_rounded_133 : decode cU_rounded 133 = .ok (.lload 14, 2) := by decide +kernel
theorem dU_rounded_135 : decode cU_rounded 135 = .ok (.lconst 1, 1) := by decide +kernel
theorem dU_rounded_136 : decode cU_rounded 136 = .ok (.iload 11, 2) := by decide +kernel
theorem dU_rounded_138 : decode cU_rounded 138 = .ok (.iconst 1, 1) := by decide +kernel
theorem dU_rounded_139 : decode cU_rounded 139 = .ok (.isub, 1) := by decide +kernel
theorem dU_rounded_140 : decode cU_rounded 140 = .ok (.lshl, 1) := by decide +kernel
theorem dU_rounded_141 : decode cU_rounded 141 = .ok (.invokevirtual 185, 3) := by decide +kernel
theorem dU_rounded_144 : decode cU_rounded 144 = .ok (.ifCond .eq 9, 3) := by decide +kernel
theorem dU_rounded_147 : decode cU_rounded 147 = .ok (.lload 12, 2) := by decide +kernel
theorem dU_rounded_149 : decode cU_rounded 149 = .ok (.lconst 1, 1) := by decide +kernel
theorem dU_rounded_150 : decode cU_rounded 150 = .ok (.ladd, 1) := by decide +kernel
theorem dU_rounded_151 : decode cU_rounded 151 = .ok (.lstore 12, 2) := by decide +kernel
theorem dU_rounded_153 : decode cU_rounded 153 = .ok (.iload 10, 2) := by decide +kernel
theorem dU_rounded_155 : decode cU_rounded 155 = .ok (.iconst 1, 1) := by decide +kernel
theorem dU_rounded_156 : decode cU_rounded 156 = .ok (.isub, 1) := by decide +kernel
theorem dU_rounded_157 : decode cU_rounded 157 = .ok (.i2l, 1) := by decide +kernel
theorem dU_rounded_158 : decode cU_rounded 158 = .ok (.aload_n 1, 1) := by decide +kernel
theorem dU_rounded_159 : decode cU_rounded 159 = .ok (.getfield 189, 3) := by decide +kernel
theorem dU_rounded_162 : decode cU_rounded 162 = .ok (.lmul, 1) := by decide +kernel
theorem dU_rounded_163 : decode cU_rounded 163 = .ok (.lload 12, 2) := by decide +kernel
theorem dU_rounded_165 : decode cU_rounded 165 = .ok (.ladd, 1) := by decide +kernel
theorem dU_rounded_166 : decode cU_rounded 166 = .ok (.lstore 16, 2) := by decide +kernel
theorem dU_rounded_168 : decode cU_rounded 168 = .ok (.lload 16, 2) := by decide +kernel
theorem dU_rounded_170 : decode cU_rounded 170 = .ok (.aload_n 1, 1) := by decide +kernel
theorem dU_rounded_171 : decode cU_rounded 171 = .ok (.getfield 193, 3) := by decide +kernel
theorem dU_rounded_174 : decode cU_rounded 174 = .ok (.lcmp, 1) := by decide +kernel
theorem dU_rounded_175 : decode cU_rounded 175 = .ok (.ifCond .lt 10, 3) := by decide +kernel
theorem dU_rounded_178 : decode cU_rounded 178 = .ok (.aload_n 0, 1) := by decide +kernel
theorem dU_rounded_179 : decode cU_rounded 179 = .ok (.aload_n 1, 1) := by decide +kernel
theorem dU_rounded_180 : decode cU_rounded 180 = .ok (.iload_n 2, 1) := by decide +kernel
theorem dU_rounded_181 : decode cU_rounded 181 = .ok (.invokevirtual 177, 3) := by decide +kernel
theorem dU_rounded_184 : decode cU_rounded 184 = .ok (.lreturn, 1) := by decide +kernel
theorem dU_rounded_185 : decode cU_rounded 185 = .ok (.lload 14, 2) := by decide +kernel
theorem dU_rounded_187 : decode cU_rounded 187 = .ok (.lconst 0, 1) := by decide +kernel
theorem dU_rounded_188 : decode cU_rounded 188 = .ok (.lcmp, 1) := by decide +kernel
theorem dU_rounded_189 : decode cU_rounded 189 = .ok (.ifCond .eq 22, 3) := by decide +kernel
theorem dU_rounded_192 : decode cU_rounded 192 = .ok (.aload_n 0, 1) := by decide +kernel
theorem dU_rounded_193 : decode cU_rounded 193 = .ok (.lload 16, 2) := by decide +kernel
theorem dU_rounded_195 : decode cU_rounded 195 = .ok (.aload_n 1, 1) := by decide +kernel
theorem dU_rounded_196 : decode cU_rounded 196 = .ok (.getfield 189, 3) := by decide +kernel
theorem dU_rounded_199 : decode cU_rounded 199 = .ok (.lcmp, 1) := by decide +kernel
theorem dU_rounded_200 : decode cU_rounded 200 = .ok (.ifCond .ge 7, 3) := by decide +kernel
theorem dU_rounded_203 : decode cU_rounded 203 = .ok (.iconst 3, 1) := by decide +kernel
theorem dU_rounded_204 : decode cU_rounded 204 = .ok (.goto 4, 3) := by decide +kernel
theorem dU_rounded_207 : decode cU_rounded 207 = .ok (.iconst 1, 1) := by decide +kernel
theorem dU_rounded_208 : decode cU_rounded 208 = .ok (.invokevirtual 66, 3) := by decide +kernel
theorem dU_rounded_211 : decode cU_rounded 211 = .ok (.aload_n 1, 1) := by decide +kernel
theorem dU_rounded_212 : decode cU_rounded 212 = .ok (.iload_n 2, 1) := by decide +kernel
theorem dU_rounded_213 : decode cU_rounded 213 = .ok (.lload 16, 2) := by decide +kernel
theorem dU_rounded_215 : decode cU_rounded 215 = .ok (.invokevirtual 195, 3) := by decide +kernel
theorem dU_rounded_218 : decode cU_rounded 218 = .ok (.lreturn, 1) := by decide +kernel
theorem dU_huge_0 : decode cU_huge 0 = .ok (.aload_n 0, 1) := by decide +kernel
theorem dU_huge_1 : decode cU_huge 1 = .ok (.iconst 5, 1) := by decide +kernel
theorem dU_huge_2 : decode cU_huge 2 = .ok (.invokevirtual 66, 3) := by decide +kernel
theorem dU_huge_5 : decode cU_huge 5 = .ok (.aload_n 0, 1) := by decide +kernel
theorem dU_huge_6 : decode cU_huge 6 = .ok (.getfield 13, 3) := by decide +kernel
theorem dU_huge_9 : decode cU_huge 9 = .ok (.iconst 1, 1) := by decide +kernel
theorem dU_huge_10 : decode cU_huge 10 = .ok (.if_icmp .eq 19, 3) := by decide +kernel
theorem dU_huge_13 : decode cU_huge 13 = .ok (.aload_n 0, 1) := by decide +kernel
theorem dU_huge_14 : decode cU_huge 14 = .ok (.getfield 13, 3) := by decide +kernel
theorem dU_huge_17 : decode cU_huge 17 = .ok (.iload_n 2, 1) := by decide +kernel
theorem dU_huge_18 : decode cU_huge 18 = .ok (.ifCond .eq 7, 3) := by decide +kernel
theorem dU_huge_21 : decode cU_huge 21 = .ok (.iconst 2, 1) := by decide +kernel
theorem dU_huge_22 : decode cU_huge 22 = .ok (.goto 4, 3) := by decide +kernel
theorem dU_huge_25 : decode cU_huge 25 = .ok (.iconst 3, 1) := by decide +kernel
theorem dU_huge_26 : decode cU_huge 26 = .ok (.if_icmp .ne 7, 3) := by decide +kernel
theorem dU_huge_29 : decode cU_huge 29 = .ok (.iconst 1, 1) := by decide +kernel
theorem dU_huge_30 : decode cU_huge 30 = .ok (.goto 4, 3) := by decide +kernel
theorem dU_huge_33 : decode cU_huge 33 = .ok (.iconst 0, 1) := by decide +kernel
theorem dU_huge_34 : decode cU_huge 34 = .ok (.istore_n 3, 1) := by decide +kernel
theorem dU_huge_35 : decode cU_huge 35 = .ok (.iload_n 3, 1) := by decide +kernel
theorem dU_huge_36 : decode cU_huge 36 = .ok (.ifCond .eq 11, 3) := by decide +kernel
theorem dU_huge_39 : decode cU_huge 39 = .ok (.aload_n 1, 1) := by decide +kernel
theorem dU_huge_40 : decode cU_huge 40 = .ok (.iload_n 2, 1) := by decide +kernel
theorem dU_huge_41 : decode cU_huge 41 = .ok (.invokevirtual 199, 3) := by decide +kernel
theorem dU_huge_44 : decode cU_huge 44 = .ok (.goto 8, 3) := by decide +kernel
theorem dU_huge_47 : decode cU_huge 47 = .ok (.aload_n 1, 1) := by decide +kernel
theorem dU_huge_48 : decode cU_huge 48 = .ok (.iload_n 2, 1) := by decide +kernel
theorem dU_huge_49 : decode cU_huge 49 = .ok (.invokevirtual 146, 3) := by decide +kernel
theorem dU_huge_52 : decode cU_huge 52 = .ok (.lreturn, 1) := by decide +kernel
theorem dU_goesAwayFromZero_0 : decode cU_goesAwayFromZero 0 = .ok (.aload_n 0, 1) := by decide +kernel
theorem dU_goesAwayFromZero_1 : decode cU_goesAwayFromZero 1 = .ok (.getfield 13, 3) := by decide +kernel
theorem dU_goesAwayFromZero_4 : decode cU_goesAwayFromZero 4 = .ok (.tableswitch 77 0 2 #[28, 58, 60], 28) := by decide +kernel
theorem dU_goesAwayFromZero_32 : decode cU_goesAwayFromZero 32 = .ok (.lload 4, 2) := by decide +kernel
theorem dU_goesAwayFromZero_34 : decode cU_goesAwayFromZero 34 = .ok (.lload 6, 2) := by decide +kernel
theorem dU_goesAwayFromZero_36 : decode cU_goesAwayFromZero 36 = .ok (.lcmp, 1) := by decide +kernel
theorem dU_goesAwayFromZero_37 : decode cU_goesAwayFromZero 37 = .ok (.ifCond .gt 19, 3) := by decide +kernel
theorem dU_goesAwayFromZero_40 : decode cU_goesAwayFromZero 40 = .ok (.lload 4, 2) := by decide +kernel
theorem dU_goesAwayFromZero_42 : decode cU_goesAwayFromZero 42 = .ok (.lload 6, 2) := by decide +kernel
theorem dU_goesAwayFromZero_44 : decode cU_goesAwayFromZero 44 = .ok (.lcmp, 1) := by decide +kernel
theorem dU_goesAwayFromZero_45 : decode cU_goesAwayFromZero 45 = .ok (.ifCond .ne 15, 3) := by decide +kernel
theorem dU_goesAwayFromZero_48 : decode cU_goesAwayFromZero 48 = .ok (.lload_n 2, 1) := by decide +kernel
theorem dU_goesAwayFromZero_49 : decode cU_goesAwayFromZero 49 = .ok (.lconst 1, 1) := by decide +kernel
theorem dU_goesAwayFromZero_50 : decode cU_goesAwayFromZero 50 = .ok (.land, 1) := by decide +kernel
theorem dU_goesAwayFromZero_51 : decode cU_goesAwayFromZero 51 = .ok (.lconst 0, 1) := by decide +kernel
theorem dU_goesAwayFromZero_52 : decode cU_goesAwayFromZero 52 = .ok (.lcmp, 1) := by decide +kernel
theorem dU_goesAwayFromZero_53 : decode cU_goesAwayFromZero 53 = .ok (.ifCond .eq 7, 3) := by decide +kernel
theorem dU_goesAwayFromZero_56 : decode cU_goesAwayFromZero 56 = .ok (.iconst 1, 1) := by decide +kernel
theorem dU_goesAwayFromZero_57 : decode cU_goesAwayFromZero 57 = .ok (.goto 4, 3) := by decide +kernel
theorem dU_goesAwayFromZero_60 : decode cU_goesAwayFromZero 60 = .ok (.iconst 0, 1) := by decide +kernel
theorem dU_goesAwayFromZero_61 : decode cU_goesAwayFromZero 61 = .ok (.ireturn, 1) := by decide +kernel
theorem dU_goesAwayFromZero_62 : decode cU_goesAwayFromZero 62 = .ok (.iconst 0, 1) := by decide +kernel
theorem dU_goesAwayFromZero_63 : decode cU_goesAwayFromZero 63 = .ok (.ireturn, 1) := by decide +kernel
theorem dU_goesAwayFromZero_64 : decode cU_goesAwayFromZero 64 = .ok (.lload 4, 2) := by decide +kernel
theorem dU_goesAwayFromZero_66 : decode cU_goesAwayFromZero 66 = .ok (.lconst 0, 1) := by decide +kernel
theorem dU_goesAwayFromZero_67 : decode cU_goesAwayFromZero 67 = .ok (.lcmp, 1) := by decide +kernel
theorem dU_goesAwayFromZero_68 : decode cU_goesAwayFromZero 68 = .ok (.ifCond .eq 11, 3) := by decide +kernel
theorem dU_goesAwayFromZero_71 : decode cU_goesAwayFromZero 71 = .ok (.iload_n 1, 1) := by decide +kernel
theorem dU_goesAwayFromZero_72 : decode cU_goesAwayFromZero 72 = .ok (.ifCond .ne 7, 3) := by decide +kernel
theorem dU_goesAwayFromZero_75 : decode cU_goesAwayFromZero 75 = .ok (.iconst 1, 1) := by decide +kernel
theorem dU_goesAwayFromZero_76 : decode cU_goesAwayFromZero 76 = .ok (.goto 4, 3) := by decide +kernel
theorem dU_goesAwayFromZero_79 : decode cU_goesAwayFromZero 79 = .ok (.iconst 0, 1) := by decide +kernel
theorem dU_goesAwayFromZero_80 : decode cU_goesAwayFromZero 80 = .ok (.ireturn, 1) := by decide +kernel
theorem dU_goesAwayFromZero_81 : decode cU_goesAwayFromZero 81 = .ok (.lload 4, 2) := by decide +kernel
theorem dU_goesAwayFromZero_83 : decode cU_goesAwayFromZero 83 = .ok (.lconst 0, 1) := by decide +kernel
theorem dU_goesAwayFromZero_84 : decode cU_goesAwayFromZero 84 = .ok (.lcmp, 1) := by decide +kernel
theorem dU_goesAwayFromZero_85 : decode cU_goesAwayFromZero 85 = .ok (.ifCond .eq 11, 3) := by decide +kernel
theorem dU_goesAwayFromZero_88 : decode cU_goesAwayFromZero 88 = .ok (.iload_n 1, 1) := by decide +kernel
theorem dU_goesAwayFromZero_89 : decode cU_goesAwayFromZero 89 = .ok (.ifCond .eq 7, 3) := by decide +kernel
theorem dU_goesAwayFromZero_92 : decode cU_goesAwayFromZero 92 = .ok (.iconst 1, 1) := by decide +kernel
theorem dU_goesAwayFromZero_93 : decode cU_goesAwayFromZero 93 = .ok (.goto 4, 3) := by decide +kernel
theorem dU_goesAwayFromZero_96 : decode cU_goesAwayFromZero 96 = .ok (.iconst 0, 1) := by decide +kernel
theorem dU_goesAwayFromZero_97 : decode cU_goesAwayFromZero 97 = .ok (.ireturn, 1) := by decide +kernel
theorem dU_product_0 : decode cU_product 0 = .ok (.aload_n 1, 1) := by decide +kernel
theorem dU_product_1 : decode cU_product 1 = .ok (.lload_n 2, 1) := by decide +kernel
theorem dU_product_2 : decode cU_product 2 = .ok (.invokevirtual 69, 3) := by decide +kernel
theorem dU_product_5 : decode cU_product 5 = .ok (.aload_n 1, 1) := by decide +kernel
theorem dU_product_6 : decode cU_product 6 = .ok (.lload 4, 2) := by decide +kernel
theorem dU_product_8 : decode cU_product 8 = .ok (.invokevirtual 69, 3) := by decide +kernel
theorem dU_product_11 : decode cU_product 11 = .ok (.if_icmp .eq 7, 3) := by decide +kernel
theorem dU_product_14 : decode cU_product 14 = .ok (.iconst 1, 1) := by decide +kernel
theorem dU_product_15 : decode cU_product 15 = .ok (.goto 4, 3) := by decide +kernel
theorem dU_product_18 : decode cU_product 18 = .ok (.iconst 0, 1) := by decide +kernel
theorem dU_product_19 : decode cU_product 19 = .ok (.istore 6, 2) := by decide +kernel
theorem dU_product_21 : decode cU_product 21 = .ok (.aload_n 1, 1) := by decide +kernel
theorem dU_product_22 : decode cU_product 22 = .ok (.lload_n 2, 1) := by decide +kernel
theorem dU_product_23 : decode cU_product 23 = .ok (.invokevirtual 143, 3) := by decide +kernel
theorem dU_product_26 : decode cU_product 26 = .ok (.ifCond .ne 12, 3) := by decide +kernel
theorem dU_product_29 : decode cU_product 29 = .ok (.aload_n 1, 1) := by decide +kernel
theorem dU_product_30 : decode cU_product 30 = .ok (.lload 4, 2) := by decide +kernel
theorem dU_product_32 : decode cU_product 32 = .ok (.invokevirtual 143, 3) := by decide +kernel
theorem dU_product_35 : decode cU_product 35 = .ok (.ifCond .eq 7, 3) := by decide +kernel
theorem dU_product_38 : decode cU_product 38 = .ok (.iconst 1, 1) := by decide +kernel
theorem dU_product_39 : decode cU_product 39 = .ok (.goto 4, 3) := by decide +kernel
theorem dU_product_42 : decode cU_product 42 = .ok (.iconst 0, 1) := by decide +kernel
theorem dU_product_43 : decode cU_product 43 = .ok (.istore 7, 2) := by decide +kernel
theorem dU_product_45 : decode cU_product 45 = .ok (.aload_n 1, 1) := by decide +kernel
theorem dU_product_46 : decode cU_product 46 = .ok (.lload_n 2, 1) := by decide +kernel
theorem dU_product_47 : decode cU_product 47 = .ok (.invokevirtual 116, 3) := by decide +kernel
theorem dU_product_50 : decode cU_product 50 = .ok (.ifCond .ne 12, 3) := by decide +kernel
theorem dU_product_53 : decode cU_product 53 = .ok (.aload_n 1, 1) := by decide +kernel
theorem dU_product_54 : decode cU_product 54 = .ok (.lload 4, 2) := by decide +kernel
theorem dU_product_56 : decode cU_product 56 = .ok (.invokevirtual 116, 3) := by decide +kernel
theorem dU_product_59 : decode cU_product 59 = .ok (.ifCond .eq 23, 3) := by decide +kernel
theorem dU_product_62 : decode cU_product 62 = .ok (.iload 7, 2) := by decide +kernel
theorem dU_product_64 : decode cU_product 64 = .ok (.ifCond .eq 11, 3) := by decide +kernel
theorem dU_product_67 : decode cU_product 67 = .ok (.aload_n 0, 1) := by decide +kernel
theorem dU_product_68 : decode cU_product 68 = .ok (.aload_n 1, 1) := by decide +kernel
theorem dU_product_69 : decode cU_product 69 = .ok (.invokevirtual 119, 3) := by decide +kernel
theorem dU_product_72 : decode cU_product 72 = .ok (.goto 9, 3) := by decide +kernel
theorem dU_product_75 : decode cU_product 75 = .ok (.aload_n 1, 1) := by decide +kernel
theorem dU_product_76 : decode cU_product 76 = .ok (.iload 6, 2) := by decide +kernel
theorem dU_product_78 : decode cU_product 78 = .ok (.invokevirtual 146, 3) := by decide +kernel
theorem dU_product_81 : decode cU_product 81 = .ok (.lreturn, 1) := by decide +kernel
theorem dU_product_82 : decode cU_product 82 = .ok (.iload 7, 2) := by decide +kernel
theorem dU_product_84 : decode cU_product 84 = .ok (.ifCond .eq 10, 3) := by decide +kernel
theorem dU_product_87 : decode cU_product 87 = .ok (.aload_n 1, 1) := by decide +kernel
theorem dU_product_88 : decode cU_product 88 = .ok (.iload 6, 2) := by decide +kernel
theorem dU_product_90 : decode cU_product 90 = .ok (.invokevirtual 58, 3) := by decide +kernel
theorem dU_product_93 : decode cU_product 93 = .ok (.lreturn, 1) := by decide +kernel
theorem dU_product_94 : decode cU_product 94 = .ok (.aload_n 1, 1) := by decide +kernel
theorem dU_product_95 : decode cU_product 95 = .ok (.lload_n 2, 1) := by decide +kernel
theorem dU_product_96 : decode cU_product 96 = .ok (.invokevirtual 136, 3) := by decide +kernel
theorem dU_product_99 : decode cU_product 99 = .ok (.bipush 10, 2) := by decide +kernel
theorem dU_product_101 : decode cU_product 101 = .ok (.lshl, 1) := by decide +kernel
theorem dU_product_102 : decode cU_product 102 = .ok (.aload_n 1, 1) := by decide +kernel
theorem dU_product_103 : decode cU_product 103 = .ok (.lload 4, 2) := by decide +kernel
theorem dU_product_105 : decode cU_product 105 = .ok (.invokevirtual 136, 3) := by decide +kernel
theorem dU_product_108 : decode cU_product 108 = .ok (.bipush 10, 2) := by decide +kernel
theorem dU_product_110 : decode cU_product 110 = .ok (.lshl, 1) := by decide +kernel
theorem dU_product_111 : decode cU_product 111 = .ok (.invokestatic 149, 3) := by decide +kernel
theorem dU_product_114 : decode cU_product 114 = .ok (.lstore 8, 2) := by decide +kernel
theorem dU_product_116 : decode cU_product 116 = .ok (.aload_n 1, 1) := by decide +kernel
theorem dU_product_117 : decode cU_product 117 = .ok (.lload_n 2, 1) := by decide +kernel
theorem dU_product_118 : decode cU_product 118 = .ok (.invokevirtual 123, 3) := by decide +kernel
theorem dU_product_121 : decode cU_product 121 = .ok (.aload_n 1, 1) := by decide +kernel
theorem dU_product_122 : decode cU_product 122 = .ok (.lload 4, 2) := by decide +kernel
theorem dU_product_124 : decode cU_product 124 = .ok (.invokevirtual 123, 3) := by decide +kernel
theorem dU_product_127 : decode cU_product 127 = .ok (.iadd, 1) := by decide +kernel
theorem dU_product_128 : decode cU_product 128 = .ok (.bipush 20, 2) := by decide +kernel
theorem dU_product_130 : decode cU_product 130 = .ok (.isub, 1) := by decide +kernel
theorem dU_product_131 : decode cU_product 131 = .ok (.bipush 64, 2) := by decide +kernel
theorem dU_product_133 : decode cU_product 133 = .ok (.iadd, 1) := by decide +kernel
theorem dU_product_134 : decode cU_product 134 = .ok (.istore 10, 2) := by decide +kernel
theorem dU_product_136 : decode cU_product 136 = .ok (.aload_n 0, 1) := by decide +kernel
theorem dU_product_137 : decode cU_product 137 = .ok (.aload_n 1, 1) := by decide +kernel
theorem dU_product_138 : decode cU_product 138 = .ok (.iload 6, 2) := by decide +kernel
theorem dU_product_140 : decode cU_product 140 = .ok (.lload 8, 2) := by decide +kernel
theorem dU_product_142 : decode cU_product 142 = .ok (.iload 10, 2) := by decide +kernel
theorem dU_product_144 : decode cU_product 144 = .ok (.invokevirtual 62, 3) := by decide +kernel
theorem dU_product_147 : decode cU_product 147 = .ok (.lreturn, 1) := by decide +kernel
theorem dU_upperProduct_0 : decode cU_upperProduct 0 = .ok (.lload_n 0, 1) := by decide +kernel
theorem dU_upperProduct_1 : decode cU_upperProduct 1 = .ok (.bipush 32, 2) := by decide +kernel
theorem dU_upperProduct_3 : decode cU_upperProduct 3 = .ok (.lushr, 1) := by decide +kernel
theorem dU_upperProduct_4 : decode cU_upperProduct 4 = .ok (.lstore 4, 2) := by decide +kernel
theorem dU_upperProduct_6 : decode cU_upperProduct 6 = .ok (.lload_n 0, 1) := by decide +kernel
theorem dU_upperProduct_7 : decode cU_upperProduct 7 = .ok (.ldc2_w 153, 3) := by decide +kernel
theorem dU_upperProduct_10 : decode cU_upperProduct 10 = .ok (.land, 1) := by decide +kernel
theorem dU_upperProduct_11 : decode cU_upperProduct 11 = .ok (.lstore 6, 2) := by decide +kernel
theorem dU_upperProduct_13 : decode cU_upperProduct 13 = .ok (.lload_n 2, 1) := by decide +kernel
theorem dU_upperProduct_14 : decode cU_upperProduct 14 = .ok (.bipush 32, 2) := by decide +kernel
theorem dU_upperProduct_16 : decode cU_upperProduct 16 = .ok (.lushr, 1) := by decide +kernel
theorem dU_upperProduct_17 : decode cU_upperProduct 17 = .ok (.lstore 8, 2) := by decide +kernel
theorem dU_upperProduct_19 : decode cU_upperProduct 19 = .ok (.lload_n 2, 1) := by decide +kernel
theorem dU_upperProduct_20 : decode cU_upperProduct 20 = .ok (.ldc2_w 153, 3) := by decide +kernel
theorem dU_upperProduct_23 : decode cU_upperProduct 23 = .ok (.land, 1) := by decide +kernel
theorem dU_upperProduct_24 : decode cU_upperProduct 24 = .ok (.lstore 10, 2) := by decide +kernel
theorem dU_upperProduct_26 : decode cU_upperProduct 26 = .ok (.lload 6, 2) := by decide +kernel
theorem dU_upperProduct_28 : decode cU_upperProduct 28 = .ok (.lload 10, 2) := by decide +kernel
theorem dU_upperProduct_30 : decode cU_upperProduct 30 = .ok (.lmul, 1) := by decide +kernel
theorem dU_upperProduct_31 : decode cU_upperProduct 31 = .ok (.lstore 12, 2) := by decide +kernel
theorem dU_upperProduct_33 : decode cU_upperProduct 33 = .ok (.lload 4, 2) := by decide +kernel
theorem dU_upperProduct_35 : decode cU_upperProduct 35 = .ok (.lload 10, 2) := by decide +kernel
theorem dU_upperProduct_37 : decode cU_upperProduct 37 = .ok (.lmul, 1) := by decide +kernel
theorem dU_upperProduct_38 : decode cU_upperProduct 38 = .ok (.lload 12, 2) := by decide +kernel
theorem dU_upperProduct_40 : decode cU_upperProduct 40 = .ok (.bipush 32, 2) := by decide +kernel
theorem dU_upperProduct_42 : decode cU_upperProduct 42 = .ok (.lushr, 1) := by decide +kernel
theorem dU_upperProduct_43 : decode cU_upperProduct 43 = .ok (.ladd, 1) := by decide +kernel
theorem dU_upperProduct_44 : decode cU_upperProduct 44 = .ok (.lstore 14, 2) := by decide +kernel
theorem dU_upperProduct_46 : decode cU_upperProduct 46 = .ok (.lload 6, 2) := by decide +kernel
theorem dU_upperProduct_48 : decode cU_upperProduct 48 = .ok (.lload 8, 2) := by decide +kernel
theorem dU_upperProduct_50 : decode cU_upperProduct 50 = .ok (.lmul, 1) := by decide +kernel
theorem dU_upperProduct_51 : decode cU_upperProduct 51 = .ok (.lload 14, 2) := by decide +kernel
theorem dU_upperProduct_53 : decode cU_upperProduct 53 = .ok (.ldc2_w 153, 3) := by decide +kernel
theorem dU_upperProduct_56 : decode cU_upperProduct 56 = .ok (.land, 1) := by decide +kernel
theorem dU_upperProduct_57 : decode cU_upperProduct 57 = .ok (.ladd, 1) := by decide +kernel
theorem dU_upperProduct_58 : decode cU_upperProduct 58 = .ok (.lstore 16, 2) := by decide +kernel
theorem dU_upperProduct_60 : decode cU_upperProduct 60 = .ok (.lload 4, 2) := by decide +kernel
theorem dU_upperProduct_62 : decode cU_upperProduct 62 = .ok (.lload 8, 2) := by decide +kernel
theorem dU_upperProduct_64 : decode cU_upperProduct 64 = .ok (.lmul, 1) := by decide +kernel
theorem dU_upperProduct_65 : decode cU_upperProduct 65 = .ok (.lload 14, 2) := by decide +kernel
theorem dU_upperProduct_67 : decode cU_upperProduct 67 = .ok (.bipush 32, 2) := by decide +kernel
theorem dU_upperProduct_69 : decode cU_upperProduct 69 = .ok (.lushr, 1) := by decide +kernel
theorem dU_upperProduct_70 : decode cU_upperProduct 70 = .ok (.ladd, 1) := by decide +kernel
theorem dU_upperProduct_71 : decode cU_upperProduct 71 = .ok (.lload 16, 2) := by decide +kernel
theorem dU_upperProduct_73 : decode cU_upperProduct 73 = .ok (.bipush 32, 2) := by decide +kernel
theorem dU_upperProduct_75 : decode cU_upperProduct 75 = .ok (.lushr, 1) := by decide +kernel
theorem dU_upperProduct_76 : decode cU_upperProduct 76 = .ok (.ladd, 1) := by decide +kernel
theorem dU_upperProduct_77 : decode cU_upperProduct 77 = .ok (.lstore 18, 2) := by decide +kernel
theorem dU_upperProduct_79 : decode cU_upperProduct 79 = .ok (.lload 16, 2) := by decide +kernel
theorem dU_upperProduct_81 : decode cU_upperProduct 81 = .ok (.ldc2_w 153, 3) := by decide +kernel
theorem dU_upperProduct_84 : decode cU_upperProduct 84 = .ok (.land, 1) := by decide +kernel
theorem dU_upperProduct_85 : decode cU_upperProduct 85 = .ok (.lconst 0, 1) := by decide +kernel
theorem dU_upperProduct_86 : decode cU_upperProduct 86 = .ok (.lcmp, 1) := by decide +kernel
theorem dU_upperProduct_87 : decode cU_upperProduct 87 = .ok (.ifCond .ne 18, 3) := by decide +kernel
theorem dU_upperProduct_90 : decode cU_upperProduct 90 = .ok (.lload 12, 2) := by decide +kernel
theorem dU_upperProduct_92 : decode cU_upperProduct 92 = .ok (.ldc2_w 153, 3) := by decide +kernel
theorem dU_upperProduct_95 : decode cU_upperProduct 95 = .ok (.land, 1) := by decide +kernel
theorem dU_upperProduct_96 : decode cU_upperProduct 96 = .ok (.lconst 0, 1) := by decide +kernel
theorem dU_upperProduct_97 : decode cU_upperProduct 97 = .ok (.lcmp, 1) := by decide +kernel
theorem dU_upperProduct_98 : decode cU_upperProduct 98 = .ok (.ifCond .ne 7, 3) := by decide +kernel
theorem dU_upperProduct_101 : decode cU_upperProduct 101 = .ok (.iconst 1, 1) := by decide +kernel
theorem dU_upperProduct_102 : decode cU_upperProduct 102 = .ok (.goto 4, 3) := by decide +kernel
theorem dU_upperProduct_105 : decode cU_upperProduct 105 = .ok (.iconst 0, 1) := by decide +kernel
theorem dU_upperProduct_106 : decode cU_upperProduct 106 = .ok (.istore 20, 2) := by decide +kernel
theorem dU_upperProduct_108 : decode cU_upperProduct 108 = .ok (.iload 20, 2) := by decide +kernel
theorem dU_upperProduct_110 : decode cU_upperProduct 110 = .ok (.ifCond .eq 8, 3) := by decide +kernel
theorem dU_upperProduct_113 : decode cU_upperProduct 113 = .ok (.lload 18, 2) := by decide +kernel
theorem dU_upperProduct_115 : decode cU_upperProduct 115 = .ok (.goto 7, 3) := by decide +kernel
theorem dU_upperProduct_118 : decode cU_upperProduct 118 = .ok (.lload 18, 2) := by decide +kernel
theorem dU_upperProduct_120 : decode cU_upperProduct 120 = .ok (.lconst 1, 1) := by decide +kernel
theorem dU_upperProduct_121 : decode cU_upperProduct 121 = .ok (.lor, 1) := by decide +kernel
theorem dU_upperProduct_122 : decode cU_upperProduct 122 = .ok (.lreturn, 1) := by decide +kernel
theorem dU_quotient_0 : decode cU_quotient 0 = .ok (.aload_n 1, 1) := by decide +kernel
theorem dU_quotient_1 : decode cU_quotient 1 = .ok (.lload_n 2, 1) := by decide +kernel
theorem dU_quotient_2 : decode cU_quotient 2 = .ok (.invokevirtual 69, 3) := by decide +kernel
theorem dU_quotient_5 : decode cU_quotient 5 = .ok (.aload_n 1, 1) := by decide +kernel
theorem dU_quotient_6 : decode cU_quotient 6 = .ok (.lload 4, 2) := by decide +kernel
theorem dU_quotient_8 : decode cU_quotient 8 = .ok (.invokevirtual 69, 3) := by decide +kernel
theorem dU_quotient_11 : decode cU_quotient 11 = .ok (.if_icmp .eq 7, 3) := by decide +kernel
theorem dU_quotient_14 : decode cU_quotient 14 = .ok (.iconst 1, 1) := by decide +kernel
theorem dU_quotient_15 : decode cU_quotient 15 = .ok (.goto 4, 3) := by decide +kernel
theorem dU_quotient_18 : decode cU_quotient 18 = .ok (.iconst 0, 1) := by decide +kernel
theorem dU_quotient_19 : decode cU_quotient 19 = .ok (.istore 6, 2) := by decide +kernel
theorem dU_quotient_21 : decode cU_quotient 21 = .ok (.aload_n 1, 1) := by decide +kernel
theorem dU_quotient_22 : decode cU_quotient 22 = .ok (.lload_n 2, 1) := by decide +kernel
theorem dU_quotient_23 : decode cU_quotient 23 = .ok (.invokevirtual 116, 3) := by decide +kernel
theorem dU_quotient_26 : decode cU_quotient 26 = .ok (.ifCond .eq 27, 3) := by decide +kernel
theorem dU_quotient_29 : decode cU_quotient 29 = .ok (.aload_n 1, 1) := by decide +kernel
theorem dU_quotient_30 : decode cU_quotient 30 = .ok (.lload 4, 2) := by decide +kernel
theorem dU_quotient_32 : decode cU_quotient 32 = .ok (.invokevirtual 116, 3) := by decide +kernel
theorem dU_quotient_35 : decode cU_quotient 35 = .ok (.ifCond .eq 11, 3) := by decide +kernel
theorem dU_quotient_38 : decode cU_quotient 38 = .ok (.aload_n 0, 1) := by decide +kernel
theorem dU_quotient_39 : decode cU_quotient 39 = .ok (.aload_n 1, 1) := by decide +kernel
theorem dU_quotient_40 : decode cU_quotient 40 = .ok (.invokevirtual 119, 3) := by decide +kernel
theorem dU_quotient_43 : decode cU_quotient 43 = .ok (.goto 9, 3) := by decide +kernel
theorem dU_quotient_46 : decode cU_quotient 46 = .ok (.aload_n 1, 1) := by decide +kernel
theorem dU_quotient_47 : decode cU_quotient 47 = .ok (.iload 6, 2) := by decide +kernel
theorem dU_quotient_49 : decode cU_quotient 49 = .ok (.invokevirtual 146, 3) := by decide +kernel
theorem dU_quotient_52 : decode cU_quotient 52 = .ok (.lreturn, 1) := by decide +kernel
theorem dU_quotient_53 : decode cU_quotient 53 = .ok (.aload_n 1, 1) := by decide +kernel
theorem dU_quotient_54 : decode cU_quotient 54 = .ok (.lload 4, 2) := by decide +kernel
theorem dU_quotient_56 : decode cU_quotient 56 = .ok (.invokevirtual 116, 3) := by decide +kernel
theorem dU_quotient_59 : decode cU_quotient 59 = .ok (.ifCond .eq 10, 3) := by decide +kernel
theorem dU_quotient_62 : decode cU_quotient 62 = .ok (.aload_n 1, 1) := by decide +kernel
theorem dU_quotient_63 : decode cU_quotient 63 = .ok (.iload 6, 2) := by decide +kernel
theorem dU_quotient_65 : decode cU_quotient 65 = .ok (.invokevirtual 58, 3) := by decide +kernel
theorem dU_quotient_68 : decode cU_quotient 68 = .ok (.lreturn, 1) := by decide +kernel
theorem dU_quotient_69 : decode cU_quotient 69 = .ok (.aload_n 1, 1) := by decide +kernel
theorem dU_quotient_70 : decode cU_quotient 70 = .ok (.lload 4, 2) := by decide +kernel
theorem dU_quotient_72 : decode cU_quotient 72 = .ok (.invokevirtual 136, 3) := by decide +kernel
theorem dU_quotient_75 : decode cU_quotient 75 = .ok (.lstore 7, 2) := by decide +kernel
theorem dU_quotient_77 : decode cU_quotient 77 = .ok (.lload 7, 2) := by decide +kernel
theorem dU_quotient_79 : decode cU_quotient 79 = .ok (.lconst 0, 1) := by decide +kernel
theorem dU_quotient_80 : decode cU_quotient 80 = .ok (.lcmp, 1) := by decide +kernel
theorem dU_quotient_81 : decode cU_quotient 81 = .ok (.ifCond .ne 12, 3) := by decide +kernel
theorem dU_quotient_84 : decode cU_quotient 84 = .ok (.aload_n 0, 1) := by decide +kernel
theorem dU_quotient_85 : decode cU_quotient 85 = .ok (.aload_n 1, 1) := by decide +kernel
theorem dU_quotient_86 : decode cU_quotient 86 = .ok (.lload_n 2, 1) := by decide +kernel
theorem dU_quotient_87 : decode cU_quotient 87 = .ok (.iload 6, 2) := by decide +kernel
theorem dU_quotient_89 : decode cU_quotient 89 = .ok (.invokevirtual 155, 3) := by decide +kernel
theorem dU_quotient_92 : decode cU_quotient 92 = .ok (.lreturn, 1) := by decide +kernel
theorem dU_quotient_93 : decode cU_quotient 93 = .ok (.aload_n 1, 1) := by decide +kernel
theorem dU_quotient_94 : decode cU_quotient 94 = .ok (.lload_n 2, 1) := by decide +kernel
theorem dU_quotient_95 : decode cU_quotient 95 = .ok (.invokevirtual 143, 3) := by decide +kernel
theorem dU_quotient_98 : decode cU_quotient 98 = .ok (.ifCond .eq 10, 3) := by decide +kernel
theorem dU_quotient_101 : decode cU_quotient 101 = .ok (.aload_n 1, 1) := by decide +kernel
theorem dU_quotient_102 : decode cU_quotient 102 = .ok (.iload 6, 2) := by decide +kernel
theorem dU_quotient_104 : decode cU_quotient 104 = .ok (.invokevirtual 58, 3) := by decide +kernel
theorem dU_quotient_107 : decode cU_quotient 107 = .ok (.lreturn, 1) := by decide +kernel
theorem dU_quotient_108 : decode cU_quotient 108 = .ok (.aload_n 1, 1) := by decide +kernel
theorem dU_quotient_109 : decode cU_quotient 109 = .ok (.lload_n 2, 1) := by decide +kernel
theorem dU_quotient_110 : decode cU_quotient 110 = .ok (.invokevirtual 136, 3) := by decide +kernel
theorem dU_quotient_113 : decode cU_quotient 113 = .ok (.lstore 9, 2) := by decide +kernel
theorem dU_quotient_115 : decode cU_quotient 115 = .ok (.lload 9, 2) := by decide +kernel
theorem dU_quotient_117 : decode cU_quotient 117 = .ok (.lload 7, 2) := by decide +kernel
theorem dU_quotient_119 : decode cU_quotient 119 = .ok (.ldiv, 1) := by decide +kernel
theorem dU_quotient_120 : decode cU_quotient 120 = .ok (.lstore 11, 2) := by decide +kernel
theorem dU_quotient_122 : decode cU_quotient 122 = .ok (.lload 9, 2) := by decide +kernel
theorem dU_quotient_124 : decode cU_quotient 124 = .ok (.lload 7, 2) := by decide +kernel
theorem dU_quotient_126 : decode cU_quotient 126 = .ok (.lrem, 1) := by decide +kernel
theorem dU_quotient_127 : decode cU_quotient 127 = .ok (.lstore 9, 2) := by decide +kernel
theorem dU_quotient_129 : decode cU_quotient 129 = .ok (.aload_n 1, 1) := by decide +kernel
theorem dU_quotient_130 : decode cU_quotient 130 = .ok (.lload_n 2, 1) := by decide +kernel
theorem dU_quotient_131 : decode cU_quotient 131 = .ok (.invokevirtual 123, 3) := by decide +kernel
theorem dU_quotient_134 : decode cU_quotient 134 = .ok (.aload_n 1, 1) := by decide +kernel
theorem dU_quotient_135 : decode cU_quotient 135 = .ok (.lload 4, 2) := by decide +kernel
theorem dU_quotient_137 : decode cU_quotient 137 = .ok (.invokevirtual 123, 3) := by decide +kernel
theorem dU_quotient_140 : decode cU_quotient 140 = .ok (.isub, 1) := by decide +kernel
theorem dU_quotient_141 : decode cU_quotient 141 = .ok (.istore 13, 2) := by decide +kernel
theorem dU_quotient_143 : decode cU_quotient 143 = .ok (.iconst 0, 1) := by decide +kernel
theorem dU_quotient_144 : decode cU_quotient 144 = .ok (.istore 14, 2) := by decide +kernel
theorem dU_quotient_146 : decode cU_quotient 146 = .ok (.iload 14, 2) := by decide +kernel
theorem dU_quotient_148 : decode cU_quotient 148 = .ok (.bipush 6, 2) := by decide +kernel
theorem dU_quotient_150 : decode cU_quotient 150 = .ok (.if_icmp .ge 39, 3) := by decide +kernel
theorem dU_quotient_153 : decode cU_quotient 153 = .ok (.lload 9, 2) := by decide +kernel
theorem dU_quotient_155 : decode cU_quotient 155 = .ok (.bipush 10, 2) := by decide +kernel
theorem dU_quotient_157 : decode cU_quotient 157 = .ok (.lshl, 1) := by decide +kernel
theorem dU_quotient_158 : decode cU_quotient 158 = .ok (.lstore 9, 2) := by decide +kernel
theorem dU_quotient_160 : decode cU_quotient 160 = .ok (.lload 11, 2) := by decide +kernel
theorem dU_quotient_162 : decode cU_quotient 162 = .ok (.bipush 10, 2) := by decide +kernel
theorem dU_quotient_164 : decode cU_quotient 164 = .ok (.lshl, 1) := by decide +kernel
theorem dU_quotient_165 : decode cU_quotient 165 = .ok (.lload 9, 2) := by decide +kernel
theorem dU_quotient_167 : decode cU_quotient 167 = .ok (.lload 7, 2) := by decide +kernel
theorem dU_quotient_169 : decode cU_quotient 169 = .ok (.ldiv, 1) := by decide +kernel
theorem dU_quotient_170 : decode cU_quotient 170 = .ok (.ladd, 1) := by decide +kernel
theorem dU_quotient_171 : decode cU_quotient 171 = .ok (.lstore 11, 2) := by decide +kernel
theorem dU_quotient_173 : decode cU_quotient 173 = .ok (.lload 9, 2) := by decide +kernel
theorem dU_quotient_175 : decode cU_quotient 175 = .ok (.lload 7, 2) := by decide +kernel
theorem dU_quotient_177 : decode cU_quotient 177 = .ok (.lrem, 1) := by decide +kernel
theorem dU_quotient_178 : decode cU_quotient 178 = .ok (.lstore 9, 2) := by decide +kernel
theorem dU_quotient_180 : decode cU_quotient 180 = .ok (.iinc 13 (-10), 3) := by decide +kernel
theorem dU_quotient_183 : decode cU_quotient 183 = .ok (.iinc 14 1, 3) := by decide +kernel
theorem dU_quotient_186 : decode cU_quotient 186 = .ok (.goto (-40), 3) := by decide +kernel
theorem dU_quotient_189 : decode cU_quotient 189 = .ok (.aload_n 0, 1) := by decide +kernel
theorem dU_quotient_190 : decode cU_quotient 190 = .ok (.aload_n 1, 1) := by decide +kernel
theorem dU_quotient_191 : decode cU_quotient 191 = .ok (.iload 6, 2) := by decide +kernel
theorem dU_quotient_193 : decode cU_quotient 193 = .ok (.lload 9, 2) := by decide +kernel
theorem dU_quotient_195 : decode cU_quotient 195 = .ok (.lconst 0, 1) := by decide +kernel
theorem dU_quotient_196 : decode cU_quotient 196 = .ok (.lcmp, 1) := by decide +kernel
theorem dU_quotient_197 : decode cU_quotient 197 = .ok (.ifCond .ne 8, 3) := by decide +kernel
theorem dU_quotient_200 : decode cU_quotient 200 = .ok (.lload 11, 2) := by decide +kernel
theorem dU_quotient_202 : decode cU_quotient 202 = .ok (.goto 7, 3) := by decide +kernel
theorem dU_quotient_205 : decode cU_quotient 205 = .ok (.lload 11, 2) := by decide +kernel
theorem dU_quotient_207 : decode cU_quotient 207 = .ok (.lconst 1, 1) := by decide +kernel
theorem dU_quotient_208 : decode cU_quotient 208 = .ok (.lor, 1) := by decide +kernel
theorem dU_quotient_209 : decode cU_quotient 209 = .ok (.iload 13, 2) := by decide +kernel
theorem dU_quotient_211 : decode cU_quotient 211 = .ok (.invokevirtual 62, 3) := by decide +kernel
theorem dU_quotient_214 : decode cU_quotient 214 = .ok (.lreturn, 1) := by decide +kernel
theorem dU_quotientByZero_0 : decode cU_quotientByZero 0 = .ok (.aload_n 1, 1) := by decide +kernel
theorem dU_quotientByZero_1 : decode cU_quotientByZero 1 = .ok (.lload_n 2, 1) := by decide +kernel
theorem dU_quotientByZero_2 : decode cU_quotientByZero 2 = .ok (.invokevirtual 143, 3) := by decide +kernel
theorem dU_quotientByZero_5 : decode cU_quotientByZero 5 = .ok (.ifCond .eq 9, 3) := by decide +kernel
theorem dU_quotientByZero_8 : decode cU_quotientByZero 8 = .ok (.aload_n 0, 1) := by decide +kernel
theorem dU_quotientByZero_9 : decode cU_quotientByZero 9 = .ok (.aload_n 1, 1) := by decide +kernel
theorem dU_quotientByZero_10 : decode cU_quotientByZero 10 = .ok (.invokevirtual 119, 3) := by decide +kernel
theorem dU_quotientByZero_13 : decode cU_quotientByZero 13 = .ok (.lreturn, 1) := by decide +kernel
theorem dU_quotientByZero_14 : decode cU_quotientByZero 14 = .ok (.aload_n 0, 1) := by decide +kernel
theorem dU_quotientByZero_15 : decode cU_quotientByZero 15 = .ok (.bipush 8, 2) := by decide +kernel
theorem dU_quotientByZero_17 : decode cU_quotientByZero 17 = .ok (.invokevirtual 66, 3) := by decide +kernel
theorem dU_quotientByZero_20 : decode cU_quotientByZero 20 = .ok (.aload_n 1, 1) := by decide +kernel
theorem dU_quotientByZero_21 : decode cU_quotientByZero 21 = .ok (.iload 4, 2) := by decide +kernel
theorem dU_quotientByZero_23 : decode cU_quotientByZero 23 = .ok (.invokevirtual 146, 3) := by decide +kernel
theorem dU_quotientByZero_26 : decode cU_quotientByZero 26 = .ok (.lreturn, 1) := by decide +kernel
theorem dU_rest_0 : decode cU_rest 0 = .ok (.aload_n 1, 1) := by decide +kernel
theorem dU_rest_1 : decode cU_rest 1 = .ok (.lload 4, 2) := by decide +kernel
theorem dU_rest_3 : decode cU_rest 3 = .ok (.invokevirtual 136, 3) := by decide +kernel
theorem dU_rest_6 : decode cU_rest 6 = .ok (.lstore 6, 2) := by decide +kernel
theorem dU_rest_8 : decode cU_rest 8 = .ok (.aload_n 1, 1) := by decide +kernel
theorem dU_rest_9 : decode cU_rest 9 = .ok (.lload_n 2, 1) := by decide +kernel
theorem dU_rest_10 : decode cU_rest 10 = .ok (.invokevirtual 116, 3) := by decide +kernel
theorem dU_rest_13 : decode cU_rest 13 = .ok (.ifCond .ne 10, 3) := by decide +kernel
theorem dU_rest_16 : decode cU_rest 16 = .ok (.lload 6, 2) := by decide +kernel
theorem dU_rest_18 : decode cU_rest 18 = .ok (.lconst 0, 1) := by decide +kernel
theorem dU_rest_19 : decode cU_rest 19 = .ok (.lcmp, 1) := by decide +kernel
theorem dU_rest_20 : decode cU_rest 20 = .ok (.ifCond .ne 9, 3) := by decide +kernel
theorem dU_rest_23 : decode cU_rest 23 = .ok (.aload_n 0, 1) := by decide +kernel
theorem dU_rest_24 : decode cU_rest 24 = .ok (.aload_n 1, 1) := by decide +kernel
theorem dU_rest_25 : decode cU_rest 25 = .ok (.invokevirtual 119, 3) := by decide +kernel
theorem dU_rest_28 : decode cU_rest 28 = .ok (.lreturn, 1) := by decide +kernel
theorem dU_rest_29 : decode cU_rest 29 = .ok (.aload_n 1, 1) := by decide +kernel
theorem dU_rest_30 : decode cU_rest 30 = .ok (.lload_n 2, 1) := by decide +kernel
theorem dU_rest_31 : decode cU_rest 31 = .ok (.invokevirtual 123, 3) := by decide +kernel
theorem dU_rest_34 : decode cU_rest 34 = .ok (.aload_n 1, 1) := by decide +kernel
theorem dU_rest_35 : decode cU_rest 35 = .ok (.lload 4, 2) := by decide +kernel
theorem dU_rest_37 : decode cU_rest 37 = .ok (.invokevirtual 123, 3) := by decide +kernel
theorem dU_rest_40 : decode cU_rest 40 = .ok (.isub, 1) := by decide +kernel
theorem dU_rest_41 : decode cU_rest 41 = .ok (.istore 8, 2) := by decide +kernel
theorem dU_rest_43 : decode cU_rest 43 = .ok (.aload_n 1, 1) := by decide +kernel
theorem dU_rest_44 : decode cU_rest 44 = .ok (.lload 4, 2) := by decide +kernel
theorem dU_rest_46 : decode cU_rest 46 = .ok (.invokevirtual 116, 3) := by decide +kernel
theorem dU_rest_49 : decode cU_rest 49 = .ok (.ifCond .ne 8, 3) := by decide +kernel
theorem dU_rest_52 : decode cU_rest 52 = .ok (.iload 8, 2) := by decide +kernel
theorem dU_rest_54 : decode cU_rest 54 = .ok (.ifCond .ge 5, 3) := by decide +kernel
theorem dU_rest_57 : decode cU_rest 57 = .ok (.lload_n 2, 1) := by decide +kernel
theorem dU_rest_58 : decode cU_rest 58 = .ok (.lreturn, 1) := by decide +kernel
theorem dU_rest_59 : decode cU_rest 59 = .ok (.aload_n 1, 1) := by decide +kernel
theorem dU_rest_60 : decode cU_rest 60 = .ok (.lload_n 2, 1) := by decide +kernel
theorem dU_rest_61 : decode cU_rest 61 = .ok (.invokevirtual 136, 3) := by decide +kernel
theorem dU_rest_64 : decode cU_rest 64 = .ok (.lload 6, 2) := by decide +kernel
theorem dU_rest_66 : decode cU_rest 66 = .ok (.lrem, 1) := by decide +kernel
theorem dU_rest_67 : decode cU_rest 67 = .ok (.lstore 9, 2) := by decide +kernel
theorem dU_rest_69 : decode cU_rest 69 = .ok (.iload 8, 2) := by decide +kernel
theorem dU_rest_71 : decode cU_rest 71 = .ok (.istore 11, 2) := by decide +kernel
theorem dU_rest_73 : decode cU_rest 73 = .ok (.iload 11, 2) := by decide +kernel
theorem dU_rest_75 : decode cU_rest 75 = .ok (.ifCond .le 24, 3) := by decide +kernel
theorem dU_rest_78 : decode cU_rest 78 = .ok (.lload 9, 2) := by decide +kernel
theorem dU_rest_80 : decode cU_rest 80 = .ok (.iload 11, 2) := by decide +kernel
theorem dU_rest_82 : decode cU_rest 82 = .ok (.bipush 10, 2) := by decide +kernel
theorem dU_rest_84 : decode cU_rest 84 = .ok (.invokestatic 159, 3) := by decide +kernel
theorem dU_rest_87 : decode cU_rest 87 = .ok (.lshl, 1) := by decide +kernel
theorem dU_rest_88 : decode cU_rest 88 = .ok (.lload 6, 2) := by decide +kernel
theorem dU_rest_90 : decode cU_rest 90 = .ok (.lrem, 1) := by decide +kernel
theorem dU_rest_91 : decode cU_rest 91 = .ok (.lstore 9, 2) := by decide +kernel
theorem dU_rest_93 : decode cU_rest 93 = .ok (.iinc 11 (-10), 3) := by decide +kernel
theorem dU_rest_96 : decode cU_rest 96 = .ok (.goto (-23), 3) := by decide +kernel
theorem dU_rest_99 : decode cU_rest 99 = .ok (.aload_n 1, 1) := by decide +kernel
theorem dU_rest_100 : decode cU_rest 100 = .ok (.lload_n 2, 1) := by decide +kernel
theorem dU_rest_101 : decode cU_rest 101 = .ok (.invokevirtual 69, 3) := by decide +kernel
theorem dU_rest_104 : decode cU_rest 104 = .ok (.istore 11, 2) := by decide +kernel
theorem dU_rest_106 : decode cU_rest 106 = .ok (.lload 9, 2) := by decide +kernel
theorem dU_rest_108 : decode cU_rest 108 = .ok (.lconst 0, 1) := by decide +kernel
theorem dU_rest_109 : decode cU_rest 109 = .ok (.lcmp, 1) := by decide +kernel
theorem dU_rest_110 : decode cU_rest 110 = .ok (.ifCond .ne 12, 3) := by decide +kernel
theorem dU_rest_113 : decode cU_rest 113 = .ok (.aload_n 1, 1) := by decide +kernel
theorem dU_rest_114 : decode cU_rest 114 = .ok (.iload 11, 2) := by decide +kernel
theorem dU_rest_116 : decode cU_rest 116 = .ok (.invokevirtual 58, 3) := by decide +kernel
theorem dU_rest_119 : decode cU_rest 119 = .ok (.goto 18, 3) := by decide +kernel
theorem dU_rest_122 : decode cU_rest 122 = .ok (.aload_n 0, 1) := by decide +kernel
theorem dU_rest_123 : decode cU_rest 123 = .ok (.aload_n 1, 1) := by decide +kernel
theorem dU_rest_124 : decode cU_rest 124 = .ok (.iload 11, 2) := by decide +kernel
theorem dU_rest_126 : decode cU_rest 126 = .ok (.lload 9, 2) := by decide +kernel
theorem dU_rest_128 : decode cU_rest 128 = .ok (.aload_n 1, 1) := by decide +kernel
theorem dU_rest_129 : decode cU_rest 129 = .ok (.lload 4, 2) := by decide +kernel
theorem dU_rest_131 : decode cU_rest 131 = .ok (.invokevirtual 123, 3) := by decide +kernel
theorem dU_rest_134 : decode cU_rest 134 = .ok (.invokevirtual 62, 3) := by decide +kernel
theorem dU_rest_137 : decode cU_rest 137 = .ok (.lreturn, 1) := by decide +kernel
theorem dU_keep_0 : decode cU_keep 0 = .ok (.aload_n 0, 1) := by decide +kernel
theorem dU_keep_1 : decode cU_keep 1 = .ok (.getfield 9, 3) := by decide +kernel
theorem dU_keep_4 : decode cU_keep 4 = .ok (.iload_n 1, 1) := by decide +kernel
theorem dU_keep_5 : decode cU_keep 5 = .ok (.lload_n 2, 1) := by decide +kernel
theorem dU_keep_6 : decode cU_keep 6 = .ok (.lastore, 1) := by decide +kernel
theorem dU_keep_7 : decode cU_keep 7 = .ok (.lload_n 2, 1) := by decide +kernel
theorem dU_keep_8 : decode cU_keep 8 = .ok (.lreturn, 1) := by decide +kernel
theorem dU_compare_0 : decode cU_compare 0 = .ok (.iload_n 2, 1) := by decide +kernel
theorem dU_compare_1 : decode cU_compare 1 = .ok (.invokestatic 20, 3) := by decide +kernel
theorem dU_compare_4 : decode cU_compare 4 = .ok (.iload_n 3, 1) := by decide +kernel
theorem dU_compare_5 : decode cU_compare 5 = .ok (.invokestatic 20, 3) := by decide +kernel
theorem dU_compare_8 : decode cU_compare 8 = .ok (.iload_n 1, 1) := by decide +kernel
theorem dU_compare_9 : decode cU_compare 9 = .ok (.invokestatic 33, 3) := by decide +kernel
theorem dU_compare_12 : decode cU_compare 12 = .ok (.astore 5, 2) := by decide +kernel
theorem dU_compare_14 : decode cU_compare 14 = .ok (.aload 5, 2) := by decide +kernel
theorem dU_compare_16 : decode cU_compare 16 = .ok (.aload_n 0, 1) := by decide +kernel
theorem dU_compare_17 : decode cU_compare 17 = .ok (.getfield 9, 3) := by decide +kernel
theorem dU_compare_20 : decode cU_compare 20 = .ok (.iload_n 2, 1) := by decide +kernel
theorem dU_compare_21 : decode cU_compare 21 = .ok (.laload, 1) := by decide +kernel
theorem dU_compare_22 : decode cU_compare 22 = .ok (.invokevirtual 51, 3) := by decide +kernel
theorem dU_compare_25 : decode cU_compare 25 = .ok (.ifCond .ne 17, 3) := by decide +kernel
theorem dU_compare_28 : decode cU_compare 28 = .ok (.aload 5, 2) := by decide +kernel
theorem dU_compare_30 : decode cU_compare 30 = .ok (.aload_n 0, 1) := by decide +kernel
theorem dU_compare_31 : decode cU_compare 31 = .ok (.getfield 9, 3) := by decide +kernel
theorem dU_compare_34 : decode cU_compare 34 = .ok (.iload_n 3, 1) := by decide +kernel
theorem dU_compare_35 : decode cU_compare 35 = .ok (.laload, 1) := by decide +kernel
theorem dU_compare_36 : decode cU_compare 36 = .ok (.invokevirtual 51, 3) := by decide +kernel
theorem dU_compare_39 : decode cU_compare 39 = .ok (.ifCond .eq 6, 3) := by decide +kernel
theorem dU_compare_42 : decode cU_compare 42 = .ok (.iload 4, 2) := by decide +kernel
theorem dU_compare_44 : decode cU_compare 44 = .ok (.ireturn, 1) := by decide +kernel
theorem dU_compare_45 : decode cU_compare 45 = .ok (.aload 5, 2) := by decide +kernel
theorem dU_compare_47 : decode cU_compare 47 = .ok (.aload_n 0, 1) := by decide +kernel
theorem dU_compare_48 : decode cU_compare 48 = .ok (.getfield 9, 3) := by decide +kernel
theorem dU_compare_51 : decode cU_compare 51 = .ok (.iload_n 2, 1) := by decide +kernel
theorem dU_compare_52 : decode cU_compare 52 = .ok (.laload, 1) := by decide +kernel
theorem dU_compare_53 : decode cU_compare 53 = .ok (.invokevirtual 55, 3) := by decide +kernel
theorem dU_compare_56 : decode cU_compare 56 = .ok (.lstore 6, 2) := by decide +kernel
theorem dU_compare_58 : decode cU_compare 58 = .ok (.aload 5, 2) := by decide +kernel
theorem dU_compare_60 : decode cU_compare 60 = .ok (.aload_n 0, 1) := by decide +kernel
theorem dU_compare_61 : decode cU_compare 61 = .ok (.getfield 9, 3) := by decide +kernel
theorem dU_compare_64 : decode cU_compare 64 = .ok (.iload_n 3, 1) := by decide +kernel
theorem dU_compare_65 : decode cU_compare 65 = .ok (.laload, 1) := by decide +kernel
theorem dU_compare_66 : decode cU_compare 66 = .ok (.invokevirtual 55, 3) := by decide +kernel
theorem dU_compare_69 : decode cU_compare 69 = .ok (.lstore 8, 2) := by decide +kernel
theorem dU_compare_71 : decode cU_compare 71 = .ok (.lload 6, 2) := by decide +kernel
theorem dU_compare_73 : decode cU_compare 73 = .ok (.lload 8, 2) := by decide +kernel
theorem dU_compare_75 : decode cU_compare 75 = .ok (.lcmp, 1) := by decide +kernel
theorem dU_compare_76 : decode cU_compare 76 = .ok (.ifCond .ne 5, 3) := by decide +kernel
theorem dU_compare_79 : decode cU_compare 79 = .ok (.iconst 0, 1) := by decide +kernel
theorem dU_compare_80 : decode cU_compare 80 = .ok (.ireturn, 1) := by decide +kernel
theorem dU_compare_81 : decode cU_compare 81 = .ok (.lload 6, 2) := by decide +kernel
theorem dU_compare_83 : decode cU_compare 83 = .ok (.lload 8, 2) := by decide +kernel
theorem dU_compare_85 : decode cU_compare 85 = .ok (.lcmp, 1) := by decide +kernel
theorem dU_compare_86 : decode cU_compare 86 = .ok (.ifCond .ge 7, 3) := by decide +kernel
theorem dU_compare_89 : decode cU_compare 89 = .ok (.iconst (-1), 1) := by decide +kernel
theorem dU_compare_90 : decode cU_compare 90 = .ok (.goto 4, 3) := by decide +kernel
theorem dU_compare_93 : decode cU_compare 93 = .ok (.iconst 1, 1) := by decide +kernel
theorem dU_compare_94 : decode cU_compare 94 = .ok (.ireturn, 1) := by decide +kernel
theorem dU_of_0 : decode cU_of 0 = .ok (.iload_n 2, 1) := by decide +kernel
theorem dU_of_1 : decode cU_of 1 = .ok (.invokestatic 20, 3) := by decide +kernel
theorem dU_of_4 : decode cU_of 4 = .ok (.iload_n 1, 1) := by decide +kernel
theorem dU_of_5 : decode cU_of 5 = .ok (.invokestatic 33, 3) := by decide +kernel
theorem dU_of_8 : decode cU_of 8 = .ok (.astore 5, 2) := by decide +kernel
theorem dU_of_10 : decode cU_of 10 = .ok (.lload_n 3, 1) := by decide +kernel
theorem dU_of_11 : decode cU_of 11 = .ok (.lconst 0, 1) := by decide +kernel
theorem dU_of_12 : decode cU_of 12 = .ok (.lcmp, 1) := by decide +kernel
theorem dU_of_13 : decode cU_of 13 = .ok (.ifCond .ne 15, 3) := by decide +kernel
theorem dU_of_16 : decode cU_of 16 = .ok (.aload_n 0, 1) := by decide +kernel
theorem dU_of_17 : decode cU_of 17 = .ok (.iload_n 2, 1) := by decide +kernel
theorem dU_of_18 : decode cU_of 18 = .ok (.aload 5, 2) := by decide +kernel
theorem dU_of_20 : decode cU_of 20 = .ok (.iconst 0, 1) := by decide +kernel
theorem dU_of_21 : decode cU_of 21 = .ok (.invokevirtual 58, 3) := by decide +kernel
theorem dU_of_24 : decode cU_of 24 = .ok (.invokevirtual 47, 3) := by decide +kernel
theorem dU_of_27 : decode cU_of 27 = .ok (.lreturn, 1) := by decide +kernel
theorem dU_of_28 : decode cU_of 28 = .ok (.aload_n 0, 1) := by decide +kernel
theorem dU_of_29 : decode cU_of 29 = .ok (.iload_n 2, 1) := by decide +kernel
theorem dU_of_30 : decode cU_of 30 = .ok (.aload_n 0, 1) := by decide +kernel
theorem dU_of_31 : decode cU_of 31 = .ok (.aload 5, 2) := by decide +kernel
theorem dU_of_33 : decode cU_of 33 = .ok (.lload_n 3, 1) := by decide +kernel
theorem dU_of_34 : decode cU_of 34 = .ok (.lconst 0, 1) := by decide +kernel
theorem dU_of_35 : decode cU_of 35 = .ok (.lcmp, 1) := by decide +kernel
theorem dU_of_36 : decode cU_of 36 = .ok (.ifCond .ge 7, 3) := by decide +kernel
theorem dU_of_39 : decode cU_of 39 = .ok (.iconst 1, 1) := by decide +kernel
theorem dU_of_40 : decode cU_of 40 = .ok (.goto 4, 3) := by decide +kernel
theorem dU_of_43 : decode cU_of 43 = .ok (.iconst 0, 1) := by decide +kernel
theorem dU_of_44 : decode cU_of 44 = .ok (.lload_n 3, 1) := by decide +kernel
theorem dU_of_45 : decode cU_of 45 = .ok (.lconst 0, 1) := by decide +kernel
theorem dU_of_46 : decode cU_of 46 = .ok (.lcmp, 1) := by decide +kernel
theorem dU_of_47 : decode cU_of 47 = .ok (.ifCond .ge 8, 3) := by decide +kernel
theorem dU_of_50 : decode cU_of 50 = .ok (.lload_n 3, 1) := by decide +kernel
theorem dU_of_51 : decode cU_of 51 = .ok (.lneg, 1) := by decide +kernel
theorem dU_of_52 : decode cU_of 52 = .ok (.goto 4, 3) := by decide +kernel
theorem dU_of_55 : decode cU_of 55 = .ok (.lload_n 3, 1) := by decide +kernel
theorem dU_of_56 : decode cU_of 56 = .ok (.iconst 0, 1) := by decide +kernel
theorem dU_of_57 : decode cU_of 57 = .ok (.invokevirtual 62, 3) := by decide +kernel
theorem dU_of_60 : decode cU_of 60 = .ok (.invokevirtual 47, 3) := by decide +kernel
theorem dU_of_63 : decode cU_of 63 = .ok (.lreturn, 1) := by decide +kernel
theorem dU_whole_0 : decode cU_whole 0 = .ok (.iload_n 2, 1) := by decide +kernel
theorem dU_whole_1 : decode cU_whole 1 = .ok (.invokestatic 20, 3) := by decide +kernel
theorem dU_whole_4 : decode cU_whole 4 = .ok (.iload_n 1, 1) := by decide +kernel
theorem dU_whole_5 : decode cU_whole 5 = .ok (.invokestatic 33, 3) := by decide +kernel
theorem dU_whole_8 : decode cU_whole 8 = .ok (.astore 4, 2) := by decide +kernel
theorem dU_whole_10 : decode cU_whole 10 = .ok (.aload_n 0, 1) := by decide +kernel
theorem dU_whole_11 : decode cU_whole 11 = .ok (.getfield 9, 3) := by decide +kernel
theorem dU_whole_14 : decode cU_whole 14 = .ok (.iload_n 2, 1) := by decide +kernel
theorem dU_whole_15 : decode cU_whole 15 = .ok (.laload, 1) := by decide +kernel
theorem dU_whole_16 : decode cU_whole 16 = .ok (.lstore 5, 2) := by decide +kernel
theorem dU_whole_18 : decode cU_whole 18 = .ok (.aload 4, 2) := by decide +kernel
theorem dU_whole_20 : decode cU_whole 20 = .ok (.lload 5, 2) := by decide +kernel
theorem dU_whole_22 : decode cU_whole 22 = .ok (.invokevirtual 51, 3) := by decide +kernel
theorem dU_whole_25 : decode cU_whole 25 = .ok (.ifCond .eq 11, 3) := by decide +kernel
theorem dU_whole_28 : decode cU_whole 28 = .ok (.aload_n 0, 1) := by decide +kernel
theorem dU_whole_29 : decode cU_whole 29 = .ok (.bipush 16, 2) := by decide +kernel
theorem dU_whole_31 : decode cU_whole 31 = .ok (.invokevirtual 66, 3) := by decide +kernel
theorem dU_whole_34 : decode cU_whole 34 = .ok (.lconst 0, 1) := by decide +kernel
theorem dU_whole_35 : decode cU_whole 35 = .ok (.lreturn, 1) := by decide +kernel
theorem dU_whole_36 : decode cU_whole 36 = .ok (.aload 4, 2) := by decide +kernel
theorem dU_whole_38 : decode cU_whole 38 = .ok (.lload 5, 2) := by decide +kernel
theorem dU_whole_40 : decode cU_whole 40 = .ok (.invokevirtual 69, 3) := by decide +kernel
theorem dU_whole_43 : decode cU_whole 43 = .ok (.istore 7, 2) := by decide +kernel
theorem dU_whole_45 : decode cU_whole 45 = .ok (.iload_n 3, 1) := by decide +kernel
theorem dU_whole_46 : decode cU_whole 46 = .ok (.ifCond .eq 9, 3) := by decide +kernel
theorem dU_whole_49 : decode cU_whole 49 = .ok (.ldc2_w 72, 3) := by decide +kernel
theorem dU_whole_52 : decode cU_whole 52 = .ok (.goto 6, 3) := by decide +kernel
theorem dU_whole_55 : decode cU_whole 55 = .ok (.ldc2_w 74, 3) := by decide +kernel
theorem dU_whole_58 : decode cU_whole 58 = .ok (.lstore 8, 2) := by decide +kernel
theorem dU_whole_60 : decode cU_whole 60 = .ok (.iload 7, 2) := by decide +kernel
theorem dU_whole_62 : decode cU_whole 62 = .ok (.ifCond .eq 10, 3) := by decide +kernel
theorem dU_whole_65 : decode cU_whole 65 = .ok (.lload 8, 2) := by decide +kernel
theorem dU_whole_67 : decode cU_whole 67 = .ok (.lconst 1, 1) := by decide +kernel
theorem dU_whole_68 : decode cU_whole 68 = .ok (.ladd, 1) := by decide +kernel
theorem dU_whole_69 : decode cU_whole 69 = .ok (.goto 5, 3) := by decide +kernel
theorem dU_whole_72 : decode cU_whole 72 = .ok (.lload 8, 2) := by decide +kernel
theorem dU_whole_74 : decode cU_whole 74 = .ok (.lstore 10, 2) := by decide +kernel
theorem dU_whole_76 : decode cU_whole 76 = .ok (.aload_n 0, 1) := by decide +kernel
theorem dU_whole_77 : decode cU_whole 77 = .ok (.aload 4, 2) := by decide +kernel
theorem dU_whole_79 : decode cU_whole 79 = .ok (.lload 5, 2) := by decide +kernel
theorem dU_whole_81 : decode cU_whole 81 = .ok (.lload 10, 2) := by decide +kernel
theorem dU_whole_83 : decode cU_whole 83 = .ok (.invokevirtual 76, 3) := by decide +kernel
theorem dU_whole_86 : decode cU_whole 86 = .ok (.lstore 12, 2) := by decide +kernel
theorem dU_whole_88 : decode cU_whole 88 = .ok (.iload 7, 2) := by decide +kernel
theorem dU_whole_90 : decode cU_whole 90 = .ok (.ifCond .eq 9, 3) := by decide +kernel
theorem dU_whole_93 : decode cU_whole 93 = .ok (.lload 12, 2) := by decide +kernel
theorem dU_whole_95 : decode cU_whole 95 = .ok (.lneg, 1) := by decide +kernel
theorem dU_whole_96 : decode cU_whole 96 = .ok (.goto 5, 3) := by decide +kernel
theorem dU_whole_99 : decode cU_whole 99 = .ok (.lload 12, 2) := by decide +kernel
theorem dU_whole_101 : decode cU_whole 101 = .ok (.lreturn, 1) := by decide +kernel
theorem dU_cut_0 : decode cU_cut 0 = .ok (.aload_n 1, 1) := by decide +kernel
theorem dU_cut_1 : decode cU_cut 1 = .ok (.lload_n 2, 1) := by decide +kernel
theorem dU_cut_2 : decode cU_cut 2 = .ok (.invokevirtual 136, 3) := by decide +kernel
theorem dU_cut_5 : decode cU_cut 5 = .ok (.lstore 6, 2) := by decide +kernel
theorem dU_cut_7 : decode cU_cut 7 = .ok (.aload_n 1, 1) := by decide +kernel
theorem dU_cut_8 : decode cU_cut 8 = .ok (.lload_n 2, 1) := by decide +kernel
theorem dU_cut_9 : decode cU_cut 9 = .ok (.invokevirtual 123, 3) := by decide +kernel
theorem dU_cut_12 : decode cU_cut 12 = .ok (.istore 8, 2) := by decide +kernel
theorem dU_cut_14 : decode cU_cut 14 = .ok (.lload 6, 2) := by decide +kernel
theorem dU_cut_16 : decode cU_cut 16 = .ok (.iload 8, 2) := by decide +kernel
theorem dU_cut_18 : decode cU_cut 18 = .ok (.invokestatic 162, 3) := by decide +kernel
theorem dU_cut_21 : decode cU_cut 21 = .ok (.lstore 9, 2) := by decide +kernel
theorem dU_cut_23 : decode cU_cut 23 = .ok (.iload 8, 2) := by decide +kernel
theorem dU_cut_25 : decode cU_cut 25 = .ok (.bipush 12, 2) := by decide +kernel
theorem dU_cut_27 : decode cU_cut 27 = .ok (.if_icmp .ge 13, 3) := by decide +kernel
theorem dU_cut_30 : decode cU_cut 30 = .ok (.lload 9, 2) := by decide +kernel
theorem dU_cut_32 : decode cU_cut 32 = .ok (.lload 4, 2) := by decide +kernel
theorem dU_cut_34 : decode cU_cut 34 = .ok (.invokestatic 165, 3) := by decide +kernel
theorem dU_cut_37 : decode cU_cut 37 = .ok (.ifCond .eq 12, 3) := by decide +kernel
theorem dU_cut_40 : decode cU_cut 40 = .ok (.aload_n 0, 1) := by decide +kernel
theorem dU_cut_41 : decode cU_cut 41 = .ok (.bipush 16, 2) := by decide +kernel
theorem dU_cut_43 : decode cU_cut 43 = .ok (.invokevirtual 66, 3) := by decide +kernel
theorem dU_cut_46 : decode cU_cut 46 = .ok (.lload 4, 2) := by decide +kernel
theorem dU_cut_48 : decode cU_cut 48 = .ok (.lreturn, 1) := by decide +kernel
theorem dU_cut_49 : decode cU_cut 49 = .ok (.iload 8, 2) := by decide +kernel
theorem dU_cut_51 : decode cU_cut 51 = .ok (.ifCond .ge 22, 3) := by decide +kernel
theorem dU_cut_54 : decode cU_cut 54 = .ok (.lload 9, 2) := by decide +kernel
theorem dU_cut_56 : decode cU_cut 56 = .ok (.iload 8, 2) := by decide +kernel
theorem dU_cut_58 : decode cU_cut 58 = .ok (.ineg, 1) := by decide +kernel
theorem dU_cut_59 : decode cU_cut 59 = .ok (.invokestatic 162, 3) := by decide +kernel
theorem dU_cut_62 : decode cU_cut 62 = .ok (.lload 6, 2) := by decide +kernel
theorem dU_cut_64 : decode cU_cut 64 = .ok (.lcmp, 1) := by decide +kernel
theorem dU_cut_65 : decode cU_cut 65 = .ok (.ifCond .eq 8, 3) := by decide +kernel
theorem dU_cut_68 : decode cU_cut 68 = .ok (.aload_n 0, 1) := by decide +kernel
theorem dU_cut_69 : decode cU_cut 69 = .ok (.iconst 1, 1) := by decide +kernel
theorem dU_cut_70 : decode cU_cut 70 = .ok (.invokevirtual 66, 3) := by decide +kernel
theorem dU_cut_73 : decode cU_cut 73 = .ok (.lload 9, 2) := by decide +kernel
theorem dU_cut_75 : decode cU_cut 75 = .ok (.lreturn, 1) := by decide +kernel
theorem dU_moved_0 : decode cU_moved 0 = .ok (.iload_n 2, 1) := by decide +kernel
theorem dU_moved_1 : decode cU_moved 1 = .ok (.bipush (-64), 2) := by decide +kernel
theorem dU_moved_3 : decode cU_moved 3 = .ok (.if_icmp .le 9, 3) := by decide +kernel
theorem dU_moved_6 : decode cU_moved 6 = .ok (.iload_n 2, 1) := by decide +kernel
theorem dU_moved_7 : decode cU_moved 7 = .ok (.bipush 64, 2) := by decide +kernel
theorem dU_moved_9 : decode cU_moved 9 = .ok (.if_icmp .lt 5, 3) := by decide +kernel
theorem dU_moved_12 : decode cU_moved 12 = .ok (.lconst 0, 1) := by decide +kernel
theorem dU_moved_13 : decode cU_moved 13 = .ok (.lreturn, 1) := by decide +kernel
theorem dU_moved_14 : decode cU_moved 14 = .ok (.iload_n 2, 1) := by decide +kernel
theorem dU_moved_15 : decode cU_moved 15 = .ok (.ifCond .ge 10, 3) := by decide +kernel
theorem dU_moved_18 : decode cU_moved 18 = .ok (.lload_n 0, 1) := by decide +kernel
theorem dU_moved_19 : decode cU_moved 19 = .ok (.iload_n 2, 1) := by decide +kernel
theorem dU_moved_20 : decode cU_moved 20 = .ok (.ineg, 1) := by decide +kernel
theorem dU_moved_21 : decode cU_moved 21 = .ok (.lushr, 1) := by decide +kernel
theorem dU_moved_22 : decode cU_moved 22 = .ok (.goto 6, 3) := by decide +kernel
theorem dU_moved_25 : decode cU_moved 25 = .ok (.lload_n 0, 1) := by decide +kernel
theorem dU_moved_26 : decode cU_moved 26 = .ok (.iload_n 2, 1) := by decide +kernel
theorem dU_moved_27 : decode cU_moved 27 = .ok (.lshl, 1) := by decide +kernel
theorem dU_moved_28 : decode cU_moved 28 = .ok (.lreturn, 1) := by decide +kernel
theorem dU_isBeyond_0 : decode cU_isBeyond 0 = .ok (.lload_n 0, 1) := by decide +kernel
theorem dU_isBeyond_1 : decode cU_isBeyond 1 = .ok (.ldc2_w 169, 3) := by decide +kernel
theorem dU_isBeyond_4 : decode cU_isBeyond 4 = .ok (.lxor, 1) := by decide +kernel
theorem dU_isBeyond_5 : decode cU_isBeyond 5 = .ok (.lload_n 2, 1) := by decide +kernel
theorem dU_isBeyond_6 : decode cU_isBeyond 6 = .ok (.ldc2_w 169, 3) := by decide +kernel
theorem dU_isBeyond_9 : decode cU_isBeyond 9 = .ok (.lxor, 1) := by decide +kernel
theorem dU_isBeyond_10 : decode cU_isBeyond 10 = .ok (.lcmp, 1) := by decide +kernel
theorem dU_isBeyond_11 : decode cU_isBeyond 11 = .ok (.ifCond .le 7, 3) := by decide +kernel
theorem dU_isBeyond_14 : decode cU_isBeyond 14 = .ok (.iconst 1, 1) := by decide +kernel
theorem dU_isBeyond_15 : decode cU_isBeyond 15 = .ok (.goto 4, 3) := by decide +kernel
theorem dU_isBeyond_18 : decode cU_isBeyond 18 = .ok (.iconst 0, 1) := by decide +kernel
theorem dU_isBeyond_19 : decode cU_isBeyond 19 = .ok (.ireturn, 1) := by decide +kernel
theorem dU_turn_0 : decode cU_turn 0 = .ok (.iload_n 2, 1) := by decide +kernel
theorem dU_turn_1 : decode cU_turn 1 = .ok (.invokestatic 20, 3) := by decide +kernel
theorem dU_turn_4 : decode cU_turn 4 = .ok (.iload_n 3, 1) := by decide +kernel
theorem dU_turn_5 : decode cU_turn 5 = .ok (.invokestatic 20, 3) := by decide +kernel
theorem dU_turn_8 : decode cU_turn 8 = .ok (.aload_n 0, 1) := by decide +kernel
theorem dU_turn_9 : decode cU_turn 9 = .ok (.iload_n 2, 1) := by decide +kernel
theorem dU_turn_10 : decode cU_turn 10 = .ok (.aload_n 0, 1) := by decide +kernel
theorem dU_turn_11 : decode cU_turn 11 = .ok (.iload_n 1, 1) := by decide +kernel
theorem dU_turn_12 : decode cU_turn 12 = .ok (.invokestatic 33, 3) := by decide +kernel
theorem dU_turn_15 : decode cU_turn 15 = .ok (.iload_n 1, 1) := by decide +kernel
theorem dU_turn_16 : decode cU_turn 16 = .ok (.ifCond .ne 7, 3) := by decide +kernel
theorem dU_turn_19 : decode cU_turn 19 = .ok (.iconst 1, 1) := by decide +kernel
theorem dU_turn_20 : decode cU_turn 20 = .ok (.goto 4, 3) := by decide +kernel
theorem dU_turn_23 : decode cU_turn 23 = .ok (.iconst 0, 1) := by decide +kernel
theorem dU_turn_24 : decode cU_turn 24 = .ok (.invokestatic 33, 3) := by decide +kernel
theorem dU_turn_27 : decode cU_turn 27 = .ok (.aload_n 0, 1) := by decide +kernel
theorem dU_turn_28 : decode cU_turn 28 = .ok (.getfield 9, 3) := by decide +kernel
theorem dU_turn_31 : decode cU_turn 31 = .ok (.iload_n 3, 1) := by decide +kernel
theorem dU_turn_32 : decode cU_turn 32 = .ok (.laload, 1) := by decide +kernel
theorem dU_turn_33 : decode cU_turn 33 = .ok (.invokevirtual 80, 3) := by decide +kernel
theorem dU_turn_36 : decode cU_turn 36 = .ok (.invokevirtual 47, 3) := by decide +kernel
theorem dU_turn_39 : decode cU_turn 39 = .ok (.lreturn, 1) := by decide +kernel
theorem dU_turned_0 : decode cU_turned 0 = .ok (.aload_n 1, 1) := by decide +kernel
theorem dU_turned_1 : decode cU_turned 1 = .ok (.lload_n 3, 1) := by decide +kernel
theorem dU_turned_2 : decode cU_turned 2 = .ok (.invokevirtual 69, 3) := by decide +kernel
theorem dU_turned_5 : decode cU_turned 5 = .ok (.istore 5, 2) := by decide +kernel
theorem dU_turned_7 : decode cU_turned 7 = .ok (.aload_n 1, 1) := by decide +kernel
theorem dU_turned_8 : decode cU_turned 8 = .ok (.lload_n 3, 1) := by decide +kernel
theorem dU_turned_9 : decode cU_turned 9 = .ok (.invokevirtual 51, 3) := by decide +kernel
theorem dU_turned_12 : decode cU_turned 12 = .ok (.ifCond .eq 8, 3) := by decide +kernel
theorem dU_turned_15 : decode cU_turned 15 = .ok (.aload_n 2, 1) := by decide +kernel
theorem dU_turned_16 : decode cU_turned 16 = .ok (.invokevirtual 88, 3) := by decide +kernel
theorem dU_turned_19 : decode cU_turned 19 = .ok (.lreturn, 1) := by decide +kernel
theorem dU_turned_20 : decode cU_turned 20 = .ok (.aload_n 1, 1) := by decide +kernel
theorem dU_turned_21 : decode cU_turned 21 = .ok (.lload_n 3, 1) := by decide +kernel
theorem dU_turned_22 : decode cU_turned 22 = .ok (.invokevirtual 116, 3) := by decide +kernel
theorem dU_turned_25 : decode cU_turned 25 = .ok (.ifCond .eq 10, 3) := by decide +kernel
theorem dU_turned_28 : decode cU_turned 28 = .ok (.aload_n 2, 1) := by decide +kernel
theorem dU_turned_29 : decode cU_turned 29 = .ok (.iload 5, 2) := by decide +kernel
theorem dU_turned_31 : decode cU_turned 31 = .ok (.invokevirtual 146, 3) := by decide +kernel
theorem dU_turned_34 : decode cU_turned 34 = .ok (.lreturn, 1) := by decide +kernel
theorem dU_turned_35 : decode cU_turned 35 = .ok (.aload_n 1, 1) := by decide +kernel
theorem dU_turned_36 : decode cU_turned 36 = .ok (.lload_n 3, 1) := by decide +kernel
theorem dU_turned_37 : decode cU_turned 37 = .ok (.invokevirtual 143, 3) := by decide +kernel
theorem dU_turned_40 : decode cU_turned 40 = .ok (.ifCond .eq 10, 3) := by decide +kernel
theorem dU_turned_43 : decode cU_turned 43 = .ok (.aload_n 2, 1) := by decide +kernel
theorem dU_turned_44 : decode cU_turned 44 = .ok (.iload 5, 2) := by decide +kernel
theorem dU_turned_46 : decode cU_turned 46 = .ok (.invokevirtual 58, 3) := by decide +kernel
theorem dU_turned_49 : decode cU_turned 49 = .ok (.lreturn, 1) := by decide +kernel
theorem dU_turned_50 : decode cU_turned 50 = .ok (.aload_n 0, 1) := by decide +kernel
theorem dU_turned_51 : decode cU_turned 51 = .ok (.aload_n 2, 1) := by decide +kernel
theorem dU_turned_52 : decode cU_turned 52 = .ok (.iload 5, 2) := by decide +kernel
theorem dU_turned_54 : decode cU_turned 54 = .ok (.aload_n 1, 1) := by decide +kernel
theorem dU_turned_55 : decode cU_turned 55 = .ok (.lload_n 3, 1) := by decide +kernel
theorem dU_turned_56 : decode cU_turned 56 = .ok (.invokevirtual 136, 3) := by decide +kernel
theorem dU_turned_59 : decode cU_turned 59 = .ok (.aload_n 1, 1) := by decide +kernel
theorem dU_turned_60 : decode cU_turned 60 = .ok (.lload_n 3, 1) := by decide +kernel
theorem dU_turned_61 : decode cU_turned 61 = .ok (.invokevirtual 123, 3) := by decide +kernel
theorem dU_turned_64 : decode cU_turned 64 = .ok (.invokevirtual 62, 3) := by decide +kernel
theorem dU_turned_67 : decode cU_turned 67 = .ok (.lreturn, 1) := by decide +kernel
theorem dU_kind_0 : decode cU_kind 0 = .ok (.iload_n 2, 1) := by decide +kernel
theorem dU_kind_1 : decode cU_kind 1 = .ok (.invokestatic 20, 3) := by decide +kernel
theorem dU_kind_4 : decode cU_kind 4 = .ok (.iload_n 1, 1) := by decide +kernel
theorem dU_kind_5 : decode cU_kind 5 = .ok (.invokestatic 33, 3) := by decide +kernel
theorem dU_kind_8 : decode cU_kind 8 = .ok (.astore_n 3, 1) := by decide +kernel
theorem dU_kind_9 : decode cU_kind 9 = .ok (.aload_n 3, 1) := by decide +kernel
theorem dU_kind_10 : decode cU_kind 10 = .ok (.aload_n 0, 1) := by decide +kernel
theorem dU_kind_11 : decode cU_kind 11 = .ok (.getfield 9, 3) := by decide +kernel
theorem dU_kind_14 : decode cU_kind 14 = .ok (.iload_n 2, 1) := by decide +kernel
theorem dU_kind_15 : decode cU_kind 15 = .ok (.laload, 1) := by decide +kernel
theorem dU_kind_16 : decode cU_kind 16 = .ok (.invokevirtual 84, 3) := by decide +kernel
theorem dU_kind_19 : decode cU_kind 19 = .ok (.istore 4, 2) := by decide +kernel
theorem dU_kind_21 : decode cU_kind 21 = .ok (.aload_n 3, 1) := by decide +kernel
theorem dU_kind_22 : decode cU_kind 22 = .ok (.aload_n 0, 1) := by decide +kernel
theorem dU_kind_23 : decode cU_kind 23 = .ok (.getfield 9, 3) := by decide +kernel
theorem dU_kind_26 : decode cU_kind 26 = .ok (.iload_n 2, 1) := by decide +kernel
theorem dU_kind_27 : decode cU_kind 27 = .ok (.laload, 1) := by decide +kernel
theorem dU_kind_28 : decode cU_kind 28 = .ok (.invokevirtual 69, 3) := by decide +kernel
theorem dU_kind_31 : decode cU_kind 31 = .ok (.ifCond .eq 11, 3) := by decide +kernel
theorem dU_kind_34 : decode cU_kind 34 = .ok (.iload 4, 2) := by decide +kernel
theorem dU_kind_36 : decode cU_kind 36 = .ok (.bipush 8, 2) := by decide +kernel
theorem dU_kind_38 : decode cU_kind 38 = .ok (.iadd, 1) := by decide +kernel
theorem dU_kind_39 : decode cU_kind 39 = .ok (.goto 5, 3) := by decide +kernel
theorem dU_kind_42 : decode cU_kind 42 = .ok (.iload 4, 2) := by decide +kernel
theorem dU_kind_44 : decode cU_kind 44 = .ok (.ireturn, 1) := by decide +kernel
theorem dU_negate_0 : decode cU_negate 0 = .ok (.iload_n 2, 1) := by decide +kernel
theorem dU_negate_1 : decode cU_negate 1 = .ok (.invokestatic 20, 3) := by decide +kernel
theorem dU_negate_4 : decode cU_negate 4 = .ok (.iload_n 3, 1) := by decide +kernel
theorem dU_negate_5 : decode cU_negate 5 = .ok (.invokestatic 20, 3) := by decide +kernel
theorem dU_negate_8 : decode cU_negate 8 = .ok (.iload_n 1, 1) := by decide +kernel
theorem dU_negate_9 : decode cU_negate 9 = .ok (.invokestatic 33, 3) := by decide +kernel
theorem dU_negate_12 : decode cU_negate 12 = .ok (.astore 4, 2) := by decide +kernel
theorem dU_negate_14 : decode cU_negate 14 = .ok (.aload 4, 2) := by decide +kernel
theorem dU_negate_16 : decode cU_negate 16 = .ok (.aload_n 0, 1) := by decide +kernel
theorem dU_negate_17 : decode cU_negate 17 = .ok (.getfield 9, 3) := by decide +kernel
theorem dU_negate_20 : decode cU_negate 20 = .ok (.iload_n 3, 1) := by decide +kernel
theorem dU_negate_21 : decode cU_negate 21 = .ok (.laload, 1) := by decide +kernel
theorem dU_negate_22 : decode cU_negate 22 = .ok (.invokevirtual 37, 3) := by decide +kernel
theorem dU_negate_25 : decode cU_negate 25 = .ok (.lstore 5, 2) := by decide +kernel
theorem dU_negate_27 : decode cU_negate 27 = .ok (.aload_n 0, 1) := by decide +kernel
theorem dU_negate_28 : decode cU_negate 28 = .ok (.iload_n 2, 1) := by decide +kernel
theorem dU_negate_29 : decode cU_negate 29 = .ok (.aload 4, 2) := by decide +kernel
theorem dU_negate_31 : decode cU_negate 31 = .ok (.lload 5, 2) := by decide +kernel
theorem dU_negate_33 : decode cU_negate 33 = .ok (.invokevirtual 51, 3) := by decide +kernel
theorem dU_negate_36 : decode cU_negate 36 = .ok (.ifCond .eq 11, 3) := by decide +kernel
theorem dU_negate_39 : decode cU_negate 39 = .ok (.aload 4, 2) := by decide +kernel
theorem dU_negate_41 : decode cU_negate 41 = .ok (.invokevirtual 88, 3) := by decide +kernel
theorem dU_negate_44 : decode cU_negate 44 = .ok (.goto 10, 3) := by decide +kernel
theorem dU_negate_47 : decode cU_negate 47 = .ok (.aload 4, 2) := by decide +kernel
theorem dU_negate_49 : decode cU_negate 49 = .ok (.lload 5, 2) := by decide +kernel
theorem dU_negate_51 : decode cU_negate 51 = .ok (.invokevirtual 92, 3) := by decide +kernel
theorem dU_negate_54 : decode cU_negate 54 = .ok (.invokevirtual 47, 3) := by decide +kernel
theorem dU_negate_57 : decode cU_negate 57 = .ok (.lreturn, 1) := by decide +kernel
end
section
/-! Decode rows (by program). -/
theorem dM_init_0 : decode cM_init 0 = .ok (.aload_n 0, 1) := by decide +kernel
theorem dM_init_1 : decode cM_init 1 = .ok (.invokespecial 1, 3) := by decide +kernel
theorem dM_init_4 : decode cM_init 4 = .ok (.aload_n 0, 1) := by decide +kernel
theorem dM_init_5 : decode cM_init 5 = .ok (.sipush 2200, 3) := by decide +kernel
theorem dM_init_8 : decode cM_init 8 = .ok (.newarray .int, 2) := by decide +kernel
theorem dM_init_10 : decode cM_init 10 = .ok (.putfield 7, 3) := by decide +kernel
theorem dM_init_13 : decode cM_init 13 = .ok (.aload_n 0, 1) := by decide +kernel
theorem dM_init_14 : decode cM_init 14 = .ok (.sipush 2200, 3) := by decide +kernel
theorem dM_init_17 : decode cM_init 17 = .ok (.newarray .int, 2) := by decide +kernel
theorem dM_init_19 : decode cM_init 19 = .ok (.putfield 13, 3) := by decide +kernel
theorem dM_init_22 : decode cM_init 22 = .ok (.aload_n 0, 1) := by decide +kernel
theorem dM_init_23 : decode cM_init 23 = .ok (.bipush 16, 2) := by decide +kernel
theorem dM_init_25 : decode cM_init 25 = .ok (.newarray .long, 2) := by decide +kernel
theorem dM_init_27 : decode cM_init 27 = .ok (.putfield 16, 3) := by decide +kernel
theorem dM_init_30 : decode cM_init 30 = .ok (.return_, 1) := by decide +kernel
theorem dM_thrown_0 : decode cM_thrown 0 = .ok (.aload_n 0, 1) := by decide +kernel
theorem dM_thrown_1 : decode cM_thrown 1 = .ok (.getfield 20, 3) := by decide +kernel
theorem dM_thrown_4 : decode cM_thrown 4 = .ok (.ireturn, 1) := by decide +kernel
theorem dM_put_0 : decode cM_put 0 = .ok (.aload_n 0, 1) := by decide +kernel
theorem dM_put_1 : decode cM_put 1 = .ok (.iload_n 1, 1) := by decide +kernel
theorem dM_put_2 : decode cM_put 2 = .ok (.bipush 15, 2) := by decide +kernel
theorem dM_put_4 : decode cM_put 4 = .ok (.invokestatic 83, 3) := by decide +kernel
theorem dM_put_7 : decode cM_put 7 = .ok (.ifCond .ne 7, 3) := by decide +kernel
theorem dM_put_10 : decode cM_put 10 = .ok (.iconst 1, 1) := by decide +kernel
theorem dM_put_11 : decode cM_put 11 = .ok (.goto 4, 3) := by decide +kernel
theorem dM_put_14 : decode cM_put 14 = .ok (.iconst 0, 1) := by decide +kernel
theorem dM_put_15 : decode cM_put 15 = .ok (.invokevirtual 87, 3) := by decide +kernel
theorem dM_put_18 : decode cM_put 18 = .ok (.ifCond .eq 5, 3) := by decide +kernel
theorem dM_put_21 : decode cM_put 21 = .ok (.lconst 0, 1) := by decide +kernel
theorem dM_put_22 : decode cM_put 22 = .ok (.lreturn, 1) := by decide +kernel
theorem dM_put_23 : decode cM_put 23 = .ok (.aload_n 0, 1) := by decide +kernel
theorem dM_put_24 : decode cM_put 24 = .ok (.getfield 16, 3) := by decide +kernel
theorem dM_put_27 : decode cM_put 27 = .ok (.iload_n 1, 1) := by decide +kernel
theorem dM_put_28 : decode cM_put 28 = .ok (.laload, 1) := by decide +kernel
theorem dM_put_29 : decode cM_put 29 = .ok (.lstore 4, 2) := by decide +kernel
theorem dM_put_31 : decode cM_put 31 = .ok (.aload_n 0, 1) := by decide +kernel
theorem dM_put_32 : decode cM_put 32 = .ok (.getfield 16, 3) := by decide +kernel
theorem dM_put_35 : decode cM_put 35 = .ok (.iload_n 1, 1) := by decide +kernel
theorem dM_put_36 : decode cM_put 36 = .ok (.lload_n 2, 1) := by decide +kernel
theorem dM_put_37 : decode cM_put 37 = .ok (.lastore, 1) := by decide +kernel
theorem dM_put_38 : decode cM_put 38 = .ok (.lload 4, 2) := by decide +kernel
theorem dM_put_40 : decode cM_put 40 = .ok (.lreturn, 1) := by decide +kernel
theorem dM_in_0 : decode cM_in 0 = .ok (.iload_n 0, 1) := by decide +kernel
theorem dM_in_1 : decode cM_in 1 = .ok (.ifCond .lt 12, 3) := by decide +kernel
theorem dM_in_4 : decode cM_in 4 = .ok (.iload_n 0, 1) := by decide +kernel
theorem dM_in_5 : decode cM_in 5 = .ok (.iload_n 1, 1) := by decide +kernel
theorem dM_in_6 : decode cM_in 6 = .ok (.if_icmp .gt 7, 3) := by decide +kernel
theorem dM_in_9 : decode cM_in 9 = .ok (.iconst 1, 1) := by decide +kernel
theorem dM_in_10 : decode cM_in 10 = .ok (.goto 4, 3) := by decide +kernel
theorem dM_in_13 : decode cM_in 13 = .ok (.iconst 0, 1) := by decide +kernel
theorem dM_in_14 : decode cM_in 14 = .ok (.ireturn, 1) := by decide +kernel
theorem dM_fails_0 : decode cM_fails 0 = .ok (.aload_n 0, 1) := by decide +kernel
theorem dM_fails_1 : decode cM_fails 1 = .ok (.iload_n 1, 1) := by decide +kernel
theorem dM_fails_2 : decode cM_fails 2 = .ok (.ifCond .eq 7, 3) := by decide +kernel
theorem dM_fails_5 : decode cM_fails 5 = .ok (.iconst 1, 1) := by decide +kernel
theorem dM_fails_6 : decode cM_fails 6 = .ok (.goto 4, 3) := by decide +kernel
theorem dM_fails_9 : decode cM_fails 9 = .ok (.iconst 0, 1) := by decide +kernel
theorem dM_fails_10 : decode cM_fails 10 = .ok (.putfield 20, 3) := by decide +kernel
theorem dM_fails_13 : decode cM_fails 13 = .ok (.iload_n 1, 1) := by decide +kernel
theorem dM_fails_14 : decode cM_fails 14 = .ok (.ireturn, 1) := by decide +kernel
theorem dM_bits_0 : decode cM_bits 0 = .ok (.aload_n 0, 1) := by decide +kernel
theorem dM_bits_1 : decode cM_bits 1 = .ok (.iload_n 1, 1) := by decide +kernel
theorem dM_bits_2 : decode cM_bits 2 = .ok (.bipush 15, 2) := by decide +kernel
theorem dM_bits_4 : decode cM_bits 4 = .ok (.invokestatic 83, 3) := by decide +kernel
theorem dM_bits_7 : decode cM_bits 7 = .ok (.ifCond .ne 7, 3) := by decide +kernel
theorem dM_bits_10 : decode cM_bits 10 = .ok (.iconst 1, 1) := by decide +kernel
theorem dM_bits_11 : decode cM_bits 11 = .ok (.goto 4, 3) := by decide +kernel
theorem dM_bits_14 : decode cM_bits 14 = .ok (.iconst 0, 1) := by decide +kernel
theorem dM_bits_15 : decode cM_bits 15 = .ok (.invokevirtual 87, 3) := by decide +kernel
theorem dM_bits_18 : decode cM_bits 18 = .ok (.ifCond .eq 7, 3) := by decide +kernel
theorem dM_bits_21 : decode cM_bits 21 = .ok (.lconst 0, 1) := by decide +kernel
theorem dM_bits_22 : decode cM_bits 22 = .ok (.goto 9, 3) := by decide +kernel
theorem dM_bits_25 : decode cM_bits 25 = .ok (.aload_n 0, 1) := by decide +kernel
theorem dM_bits_26 : decode cM_bits 26 = .ok (.getfield 16, 3) := by decide +kernel
theorem dM_bits_29 : decode cM_bits 29 = .ok (.iload_n 1, 1) := by decide +kernel
theorem dM_bits_30 : decode cM_bits 30 = .ok (.laload, 1) := by decide +kernel
theorem dM_bits_31 : decode cM_bits 31 = .ok (.lreturn, 1) := by decide +kernel
theorem dM_mode_0 : decode cM_mode 0 = .ok (.aload_n 0, 1) := by decide +kernel
theorem dM_mode_1 : decode cM_mode 1 = .ok (.iload_n 1, 1) := by decide +kernel
theorem dM_mode_2 : decode cM_mode 2 = .ok (.iconst 3, 1) := by decide +kernel
theorem dM_mode_3 : decode cM_mode 3 = .ok (.invokestatic 83, 3) := by decide +kernel
theorem dM_mode_6 : decode cM_mode 6 = .ok (.ifCond .ne 7, 3) := by decide +kernel
theorem dM_mode_9 : decode cM_mode 9 = .ok (.iconst 1, 1) := by decide +kernel
theorem dM_mode_10 : decode cM_mode 10 = .ok (.goto 4, 3) := by decide +kernel
theorem dM_mode_13 : decode cM_mode 13 = .ok (.iconst 0, 1) := by decide +kernel
theorem dM_mode_14 : decode cM_mode 14 = .ok (.invokevirtual 87, 3) := by decide +kernel
theorem dM_mode_17 : decode cM_mode 17 = .ok (.ifCond .eq 5, 3) := by decide +kernel
theorem dM_mode_20 : decode cM_mode 20 = .ok (.iconst 0, 1) := by decide +kernel
theorem dM_mode_21 : decode cM_mode 21 = .ok (.ireturn, 1) := by decide +kernel
theorem dM_mode_22 : decode cM_mode 22 = .ok (.aload_n 0, 1) := by decide +kernel
theorem dM_mode_23 : decode cM_mode 23 = .ok (.getfield 76, 3) := by decide +kernel
theorem dM_mode_26 : decode cM_mode 26 = .ok (.istore_n 2, 1) := by decide +kernel
theorem dM_mode_27 : decode cM_mode 27 = .ok (.aload_n 0, 1) := by decide +kernel
theorem dM_mode_28 : decode cM_mode 28 = .ok (.iload_n 1, 1) := by decide +kernel
theorem dM_mode_29 : decode cM_mode 29 = .ok (.putfield 76, 3) := by decide +kernel
theorem dM_mode_32 : decode cM_mode 32 = .ok (.iload_n 2, 1) := by decide +kernel
theorem dM_mode_33 : decode cM_mode 33 = .ok (.ireturn, 1) := by decide +kernel
theorem dM_flags_0 : decode cM_flags 0 = .ok (.aload_n 0, 1) := by decide +kernel
theorem dM_flags_1 : decode cM_flags 1 = .ok (.iconst 0, 1) := by decide +kernel
theorem dM_flags_2 : decode cM_flags 2 = .ok (.putfield 20, 3) := by decide +kernel
theorem dM_flags_5 : decode cM_flags 5 = .ok (.aload_n 0, 1) := by decide +kernel
theorem dM_flags_6 : decode cM_flags 6 = .ok (.getfield 63, 3) := by decide +kernel
theorem dM_flags_9 : decode cM_flags 9 = .ok (.istore_n 2, 1) := by decide +kernel
theorem dM_flags_10 : decode cM_flags 10 = .ok (.aload_n 0, 1) := by decide +kernel
theorem dM_flags_11 : decode cM_flags 11 = .ok (.aload_n 0, 1) := by decide +kernel
theorem dM_flags_12 : decode cM_flags 12 = .ok (.getfield 63, 3) := by decide +kernel
theorem dM_flags_15 : decode cM_flags 15 = .ok (.iload_n 1, 1) := by decide +kernel
theorem dM_flags_16 : decode cM_flags 16 = .ok (.iconst (-1), 1) := by decide +kernel
theorem dM_flags_17 : decode cM_flags 17 = .ok (.ixor, 1) := by decide +kernel
theorem dM_flags_18 : decode cM_flags 18 = .ok (.iand, 1) := by decide +kernel
theorem dM_flags_19 : decode cM_flags 19 = .ok (.putfield 63, 3) := by decide +kernel
theorem dM_flags_22 : decode cM_flags 22 = .ok (.iload_n 2, 1) := by decide +kernel
theorem dM_flags_23 : decode cM_flags 23 = .ok (.ireturn, 1) := by decide +kernel
theorem dM_work_0 : decode cM_work 0 = .ok (.aload_n 0, 1) := by decide +kernel
theorem dM_work_1 : decode cM_work 1 = .ok (.iload_n 3, 1) := by decide +kernel
theorem dM_work_2 : decode cM_work 2 = .ok (.bipush 15, 2) := by decide +kernel
theorem dM_work_4 : decode cM_work 4 = .ok (.invokestatic 83, 3) := by decide +kernel
theorem dM_work_7 : decode cM_work 7 = .ok (.ifCond .eq 31, 3) := by decide +kernel
theorem dM_work_10 : decode cM_work 10 = .ok (.iload 4, 2) := by decide +kernel
theorem dM_work_12 : decode cM_work 12 = .ok (.bipush 15, 2) := by decide +kernel
theorem dM_work_14 : decode cM_work 14 = .ok (.invokestatic 83, 3) := by decide +kernel
theorem dM_work_17 : decode cM_work 17 = .ok (.ifCond .eq 21, 3) := by decide +kernel
theorem dM_work_20 : decode cM_work 20 = .ok (.iload 5, 2) := by decide +kernel
theorem dM_work_22 : decode cM_work 22 = .ok (.bipush 15, 2) := by decide +kernel
theorem dM_work_24 : decode cM_work 24 = .ok (.invokestatic 83, 3) := by decide +kernel
theorem dM_work_27 : decode cM_work 27 = .ok (.ifCond .eq 11, 3) := by decide +kernel
theorem dM_work_30 : decode cM_work 30 = .ok (.iload_n 1, 1) := by decide +kernel
theorem dM_work_31 : decode cM_work 31 = .ok (.iconst 4, 1) := by decide +kernel
theorem dM_work_32 : decode cM_work 32 = .ok (.invokestatic 83, 3) := by decide +kernel
theorem dM_work_35 : decode cM_work 35 = .ok (.ifCond .ne 7, 3) := by decide +kernel
theorem dM_work_38 : decode cM_work 38 = .ok (.iconst 1, 1) := by decide +kernel
theorem dM_work_39 : decode cM_work 39 = .ok (.goto 4, 3) := by decide +kernel
theorem dM_work_42 : decode cM_work 42 = .ok (.iconst 0, 1) := by decide +kernel
theorem dM_work_43 : decode cM_work 43 = .ok (.invokevirtual 87, 3) := by decide +kernel
theorem dM_work_46 : decode cM_work 46 = .ok (.ifCond .eq 5, 3) := by decide +kernel
theorem dM_work_49 : decode cM_work 49 = .ok (.lconst 0, 1) := by decide +kernel
theorem dM_work_50 : decode cM_work 50 = .ok (.lreturn, 1) := by decide +kernel
theorem dM_work_51 : decode cM_work 51 = .ok (.aload_n 0, 1) := by decide +kernel
theorem dM_work_52 : decode cM_work 52 = .ok (.iload_n 2, 1) := by decide +kernel
theorem dM_work_53 : decode cM_work 53 = .ok (.invokevirtual 91, 3) := by decide +kernel
theorem dM_work_56 : decode cM_work 56 = .ok (.aload_n 0, 1) := by decide +kernel
theorem dM_work_57 : decode cM_work 57 = .ok (.iload 4, 2) := by decide +kernel
theorem dM_work_59 : decode cM_work 59 = .ok (.iload 5, 2) := by decide +kernel
theorem dM_work_61 : decode cM_work 61 = .ok (.invokevirtual 95, 3) := by decide +kernel
theorem dM_work_64 : decode cM_work 64 = .ok (.aload_n 0, 1) := by decide +kernel
theorem dM_work_65 : decode cM_work 65 = .ok (.getfield 33, 3) := by decide +kernel
theorem dM_work_68 : decode cM_work 68 = .ok (.ifCond .eq 10, 3) := by decide +kernel
theorem dM_work_71 : decode cM_work 71 = .ok (.aload_n 0, 1) := by decide +kernel
theorem dM_work_72 : decode cM_work 72 = .ok (.getfield 47, 3) := by decide +kernel
theorem dM_work_75 : decode cM_work 75 = .ok (.ifCond .ne 12, 3) := by decide +kernel
theorem dM_work_78 : decode cM_work 78 = .ok (.aload_n 0, 1) := by decide +kernel
theorem dM_work_79 : decode cM_work 79 = .ok (.invokevirtual 66, 3) := by decide +kernel
theorem dM_work_82 : decode cM_work 82 = .ok (.lstore 6, 2) := by decide +kernel
theorem dM_work_84 : decode cM_work 84 = .ok (.goto 69, 3) := by decide +kernel
theorem dM_work_87 : decode cM_work 87 = .ok (.iload_n 1, 1) := by decide +kernel
theorem dM_work_88 : decode cM_work 88 = .ok (.iconst 2, 1) := by decide +kernel
theorem dM_work_89 : decode cM_work 89 = .ok (.if_icmp .ge 30, 3) := by decide +kernel
theorem dM_work_92 : decode cM_work 92 = .ok (.aload_n 0, 1) := by decide +kernel
theorem dM_work_93 : decode cM_work 93 = .ok (.iload_n 1, 1) := by decide +kernel
theorem dM_work_94 : decode cM_work 94 = .ok (.iconst 1, 1) := by decide +kernel
theorem dM_work_95 : decode cM_work 95 = .ok (.if_icmp .ne 12, 3) := by decide +kernel
theorem dM_work_98 : decode cM_work 98 = .ok (.iconst 1, 1) := by decide +kernel
theorem dM_work_99 : decode cM_work 99 = .ok (.aload_n 0, 1) := by decide +kernel
theorem dM_work_100 : decode cM_work 100 = .ok (.getfield 50, 3) := by decide +kernel
theorem dM_work_103 : decode cM_work 103 = .ok (.isub, 1) := by decide +kernel
theorem dM_work_104 : decode cM_work 104 = .ok (.goto 7, 3) := by decide +kernel
theorem dM_work_107 : decode cM_work 107 = .ok (.aload_n 0, 1) := by decide +kernel
theorem dM_work_108 : decode cM_work 108 = .ok (.getfield 50, 3) := by decide +kernel
theorem dM_work_111 : decode cM_work 111 = .ok (.invokevirtual 99, 3) := by decide +kernel
theorem dM_work_114 : decode cM_work 114 = .ok (.lstore 6, 2) := by decide +kernel
theorem dM_work_116 : decode cM_work 116 = .ok (.goto 37, 3) := by decide +kernel
theorem dM_work_119 : decode cM_work 119 = .ok (.iload_n 1, 1) := by decide +kernel
theorem dM_work_120 : decode cM_work 120 = .ok (.iconst 2, 1) := by decide +kernel
theorem dM_work_121 : decode cM_work 121 = .ok (.if_icmp .ne 12, 3) := by decide +kernel
theorem dM_work_124 : decode cM_work 124 = .ok (.aload_n 0, 1) := by decide +kernel
theorem dM_work_125 : decode cM_work 125 = .ok (.invokevirtual 102, 3) := by decide +kernel
theorem dM_work_128 : decode cM_work 128 = .ok (.lstore 6, 2) := by decide +kernel
theorem dM_work_130 : decode cM_work 130 = .ok (.goto 23, 3) := by decide +kernel
theorem dM_work_133 : decode cM_work 133 = .ok (.iload_n 1, 1) := by decide +kernel
theorem dM_work_134 : decode cM_work 134 = .ok (.iconst 3, 1) := by decide +kernel
theorem dM_work_135 : decode cM_work 135 = .ok (.if_icmp .ne 12, 3) := by decide +kernel
theorem dM_work_138 : decode cM_work 138 = .ok (.aload_n 0, 1) := by decide +kernel
theorem dM_work_139 : decode cM_work 139 = .ok (.invokevirtual 105, 3) := by decide +kernel
theorem dM_work_142 : decode cM_work 142 = .ok (.lstore 6, 2) := by decide +kernel
theorem dM_work_144 : decode cM_work 144 = .ok (.goto 9, 3) := by decide +kernel
theorem dM_work_147 : decode cM_work 147 = .ok (.aload_n 0, 1) := by decide +kernel
theorem dM_work_148 : decode cM_work 148 = .ok (.invokevirtual 108, 3) := by decide +kernel
theorem dM_work_151 : decode cM_work 151 = .ok (.lstore 6, 2) := by decide +kernel
theorem dM_work_153 : decode cM_work 153 = .ok (.aload_n 0, 1) := by decide +kernel
theorem dM_work_154 : decode cM_work 154 = .ok (.getfield 16, 3) := by decide +kernel
theorem dM_work_157 : decode cM_work 157 = .ok (.iload_n 3, 1) := by decide +kernel
theorem dM_work_158 : decode cM_work 158 = .ok (.lload 6, 2) := by decide +kernel
theorem dM_work_160 : decode cM_work 160 = .ok (.lastore, 1) := by decide +kernel
theorem dM_work_161 : decode cM_work 161 = .ok (.lload 6, 2) := by decide +kernel
theorem dM_work_163 : decode cM_work 163 = .ok (.lreturn, 1) := by decide +kernel
theorem dM_format_0 : decode cM_format 0 = .ok (.aload_n 0, 1) := by decide +kernel
theorem dM_format_1 : decode cM_format 1 = .ok (.iload_n 1, 1) := by decide +kernel
theorem dM_format_2 : decode cM_format 2 = .ok (.ifCond .eq 8, 3) := by decide +kernel
theorem dM_format_5 : decode cM_format 5 = .ok (.bipush 24, 2) := by decide +kernel
theorem dM_format_7 : decode cM_format 7 = .ok (.goto 5, 3) := by decide +kernel
theorem dM_format_10 : decode cM_format 10 = .ok (.bipush 53, 2) := by decide +kernel
theorem dM_format_12 : decode cM_format 12 = .ok (.putfield 24, 3) := by decide +kernel
theorem dM_format_15 : decode cM_format 15 = .ok (.aload_n 0, 1) := by decide +kernel
theorem dM_format_16 : decode cM_format 16 = .ok (.iload_n 1, 1) := by decide +kernel
theorem dM_format_17 : decode cM_format 17 = .ok (.ifCond .eq 8, 3) := by decide +kernel
theorem dM_format_20 : decode cM_format 20 = .ok (.bipush 127, 2) := by decide +kernel
theorem dM_format_22 : decode cM_format 22 = .ok (.goto 6, 3) := by decide +kernel
theorem dM_format_25 : decode cM_format 25 = .ok (.sipush 1023, 3) := by decide +kernel
theorem dM_format_28 : decode cM_format 28 = .ok (.putfield 27, 3) := by decide +kernel
theorem dM_format_31 : decode cM_format 31 = .ok (.return_, 1) := by decide +kernel
theorem dM_takeBoth_0 : decode cM_takeBoth 0 = .ok (.aload_n 0, 1) := by decide +kernel
theorem dM_takeBoth_1 : decode cM_takeBoth 1 = .ok (.iload_n 2, 1) := by decide +kernel
theorem dM_takeBoth_2 : decode cM_takeBoth 2 = .ok (.invokevirtual 43, 3) := by decide +kernel
theorem dM_takeBoth_5 : decode cM_takeBoth 5 = .ok (.aload_n 0, 1) := by decide +kernel
theorem dM_takeBoth_6 : decode cM_takeBoth 6 = .ok (.aload_n 0, 1) := by decide +kernel
theorem dM_takeBoth_7 : decode cM_takeBoth 7 = .ok (.getfield 33, 3) := by decide +kernel
theorem dM_takeBoth_10 : decode cM_takeBoth 10 = .ok (.putfield 47, 3) := by decide +kernel
theorem dM_takeBoth_13 : decode cM_takeBoth 13 = .ok (.aload_n 0, 1) := by decide +kernel
theorem dM_takeBoth_14 : decode cM_takeBoth 14 = .ok (.aload_n 0, 1) := by decide +kernel
theorem dM_takeBoth_15 : decode cM_takeBoth 15 = .ok (.getfield 30, 3) := by decide +kernel
theorem dM_takeBoth_18 : decode cM_takeBoth 18 = .ok (.putfield 50, 3) := by decide +kernel
theorem dM_takeBoth_21 : decode cM_takeBoth 21 = .ok (.aload_n 0, 1) := by decide +kernel
theorem dM_takeBoth_22 : decode cM_takeBoth 22 = .ok (.aload_n 0, 1) := by decide +kernel
theorem dM_takeBoth_23 : decode cM_takeBoth 23 = .ok (.getfield 36, 3) := by decide +kernel
theorem dM_takeBoth_26 : decode cM_takeBoth 26 = .ok (.putfield 53, 3) := by decide +kernel
theorem dM_takeBoth_29 : decode cM_takeBoth 29 = .ok (.aload_n 0, 1) := by decide +kernel
theorem dM_takeBoth_30 : decode cM_takeBoth 30 = .ok (.aload_n 0, 1) := by decide +kernel
theorem dM_takeBoth_31 : decode cM_takeBoth 31 = .ok (.getfield 40, 3) := by decide +kernel
theorem dM_takeBoth_34 : decode cM_takeBoth 34 = .ok (.putfield 56, 3) := by decide +kernel
theorem dM_takeBoth_37 : decode cM_takeBoth 37 = .ok (.aload_n 0, 1) := by decide +kernel
theorem dM_takeBoth_38 : decode cM_takeBoth 38 = .ok (.iload_n 1, 1) := by decide +kernel
theorem dM_takeBoth_39 : decode cM_takeBoth 39 = .ok (.invokevirtual 43, 3) := by decide +kernel
theorem dM_takeBoth_42 : decode cM_takeBoth 42 = .ok (.return_, 1) := by decide +kernel
theorem dM_take_0 : decode cM_take 0 = .ok (.aload_n 0, 1) := by decide +kernel
theorem dM_take_1 : decode cM_take 1 = .ok (.getfield 16, 3) := by decide +kernel
theorem dM_take_4 : decode cM_take 4 = .ok (.iload_n 1, 1) := by decide +kernel
theorem dM_take_5 : decode cM_take 5 = .ok (.laload, 1) := by decide +kernel
theorem dM_take_6 : decode cM_take 6 = .ok (.lstore_n 2, 1) := by decide +kernel
theorem dM_take_7 : decode cM_take 7 = .ok (.aload_n 0, 1) := by decide +kernel
theorem dM_take_8 : decode cM_take 8 = .ok (.getfield 24, 3) := by decide +kernel
theorem dM_take_11 : decode cM_take 11 = .ok (.bipush 24, 2) := by decide +kernel
theorem dM_take_13 : decode cM_take 13 = .ok (.if_icmp .ne 8, 3) := by decide +kernel
theorem dM_take_16 : decode cM_take 16 = .ok (.bipush 8, 2) := by decide +kernel
theorem dM_take_18 : decode cM_take 18 = .ok (.goto 5, 3) := by decide +kernel
theorem dM_take_21 : decode cM_take 21 = .ok (.bipush 11, 2) := by decide +kernel
theorem dM_take_23 : decode cM_take 23 = .ok (.istore 4, 2) := by decide +kernel
theorem dM_take_25 : decode cM_take 25 = .ok (.lload_n 2, 1) := by decide +kernel
theorem dM_take_26 : decode cM_take 26 = .ok (.aload_n 0, 1) := by decide +kernel
theorem dM_take_27 : decode cM_take 27 = .ok (.getfield 24, 3) := by decide +kernel
theorem dM_take_30 : decode cM_take 30 = .ok (.iconst 1, 1) := by decide +kernel
theorem dM_take_31 : decode cM_take 31 = .ok (.isub, 1) := by decide +kernel
theorem dM_take_32 : decode cM_take 32 = .ok (.lushr, 1) := by decide +kernel
theorem dM_take_33 : decode cM_take 33 = .ok (.l2i, 1) := by decide +kernel
theorem dM_take_34 : decode cM_take 34 = .ok (.iconst 1, 1) := by decide +kernel
theorem dM_take_35 : decode cM_take 35 = .ok (.iload 4, 2) := by decide +kernel
theorem dM_take_37 : decode cM_take 37 = .ok (.ishl, 1) := by decide +kernel
theorem dM_take_38 : decode cM_take 38 = .ok (.iconst 1, 1) := by decide +kernel
theorem dM_take_39 : decode cM_take 39 = .ok (.isub, 1) := by decide +kernel
theorem dM_take_40 : decode cM_take 40 = .ok (.iand, 1) := by decide +kernel
theorem dM_take_41 : decode cM_take 41 = .ok (.istore 5, 2) := by decide +kernel
theorem dM_take_43 : decode cM_take 43 = .ok (.lload_n 2, 1) := by decide +kernel
theorem dM_take_44 : decode cM_take 44 = .ok (.lconst 1, 1) := by decide +kernel
theorem dM_take_45 : decode cM_take 45 = .ok (.aload_n 0, 1) := by decide +kernel
theorem dM_take_46 : decode cM_take 46 = .ok (.getfield 24, 3) := by decide +kernel
theorem dM_take_49 : decode cM_take 49 = .ok (.iconst 1, 1) := by decide +kernel
theorem dM_take_50 : decode cM_take 50 = .ok (.isub, 1) := by decide +kernel
theorem dM_take_51 : decode cM_take 51 = .ok (.lshl, 1) := by decide +kernel
theorem dM_take_52 : decode cM_take 52 = .ok (.lconst 1, 1) := by decide +kernel
theorem dM_take_53 : decode cM_take 53 = .ok (.lsub, 1) := by decide +kernel
theorem dM_take_54 : decode cM_take 54 = .ok (.land, 1) := by decide +kernel
theorem dM_take_55 : decode cM_take 55 = .ok (.lstore 6, 2) := by decide +kernel
theorem dM_take_57 : decode cM_take 57 = .ok (.aload_n 0, 1) := by decide +kernel
theorem dM_take_58 : decode cM_take 58 = .ok (.lload_n 2, 1) := by decide +kernel
theorem dM_take_59 : decode cM_take 59 = .ok (.aload_n 0, 1) := by decide +kernel
theorem dM_take_60 : decode cM_take 60 = .ok (.getfield 24, 3) := by decide +kernel
theorem dM_take_63 : decode cM_take 63 = .ok (.iconst 1, 1) := by decide +kernel
theorem dM_take_64 : decode cM_take 64 = .ok (.isub, 1) := by decide +kernel
theorem dM_take_65 : decode cM_take 65 = .ok (.iload 4, 2) := by decide +kernel
theorem dM_take_67 : decode cM_take 67 = .ok (.iadd, 1) := by decide +kernel
theorem dM_take_68 : decode cM_take 68 = .ok (.lushr, 1) := by decide +kernel
theorem dM_take_69 : decode cM_take 69 = .ok (.l2i, 1) := by decide +kernel
theorem dM_take_70 : decode cM_take 70 = .ok (.iconst 1, 1) := by decide +kernel
theorem dM_take_71 : decode cM_take 71 = .ok (.iand, 1) := by decide +kernel
theorem dM_take_72 : decode cM_take 72 = .ok (.putfield 30, 3) := by decide +kernel
theorem dM_take_75 : decode cM_take 75 = .ok (.aload_n 0, 1) := by decide +kernel
theorem dM_take_76 : decode cM_take 76 = .ok (.iload 5, 2) := by decide +kernel
theorem dM_take_78 : decode cM_take 78 = .ok (.iconst 2, 1) := by decide +kernel
theorem dM_take_79 : decode cM_take 79 = .ok (.aload_n 0, 1) := by decide +kernel
theorem dM_take_80 : decode cM_take 80 = .ok (.getfield 27, 3) := by decide +kernel
theorem dM_take_83 : decode cM_take 83 = .ok (.imul, 1) := by decide +kernel
theorem dM_take_84 : decode cM_take 84 = .ok (.iconst 1, 1) := by decide +kernel
theorem dM_take_85 : decode cM_take 85 = .ok (.iadd, 1) := by decide +kernel
theorem dM_take_86 : decode cM_take 86 = .ok (.if_icmp .ge 7, 3) := by decide +kernel
theorem dM_take_89 : decode cM_take 89 = .ok (.iconst 2, 1) := by decide +kernel
theorem dM_take_90 : decode cM_take 90 = .ok (.goto 15, 3) := by decide +kernel
theorem dM_take_93 : decode cM_take 93 = .ok (.lload 6, 2) := by decide +kernel
theorem dM_take_95 : decode cM_take 95 = .ok (.lconst 0, 1) := by decide +kernel
theorem dM_take_96 : decode cM_take 96 = .ok (.lcmp, 1) := by decide +kernel
theorem dM_take_97 : decode cM_take 97 = .ok (.ifCond .ne 7, 3) := by decide +kernel
theorem dM_take_100 : decode cM_take 100 = .ok (.iconst 1, 1) := by decide +kernel
theorem dM_take_101 : decode cM_take 101 = .ok (.goto 4, 3) := by decide +kernel
theorem dM_take_104 : decode cM_take 104 = .ok (.iconst 0, 1) := by decide +kernel
theorem dM_take_105 : decode cM_take 105 = .ok (.putfield 33, 3) := by decide +kernel
theorem dM_take_108 : decode cM_take 108 = .ok (.aload_n 0, 1) := by decide +kernel
theorem dM_take_109 : decode cM_take 109 = .ok (.iload 5, 2) := by decide +kernel
theorem dM_take_111 : decode cM_take 111 = .ok (.ifCond .ne 8, 3) := by decide +kernel
theorem dM_take_114 : decode cM_take 114 = .ok (.lload 6, 2) := by decide +kernel
theorem dM_take_116 : decode cM_take 116 = .ok (.goto 14, 3) := by decide +kernel
theorem dM_take_119 : decode cM_take 119 = .ok (.lload 6, 2) := by decide +kernel
theorem dM_take_121 : decode cM_take 121 = .ok (.lconst 1, 1) := by decide +kernel
theorem dM_take_122 : decode cM_take 122 = .ok (.aload_n 0, 1) := by decide +kernel
theorem dM_take_123 : decode cM_take 123 = .ok (.getfield 24, 3) := by decide +kernel
theorem dM_take_126 : decode cM_take 126 = .ok (.iconst 1, 1) := by decide +kernel
theorem dM_take_127 : decode cM_take 127 = .ok (.isub, 1) := by decide +kernel
theorem dM_take_128 : decode cM_take 128 = .ok (.lshl, 1) := by decide +kernel
theorem dM_take_129 : decode cM_take 129 = .ok (.ladd, 1) := by decide +kernel
theorem dM_take_130 : decode cM_take 130 = .ok (.putfield 36, 3) := by decide +kernel
theorem dM_take_133 : decode cM_take 133 = .ok (.aload_n 0, 1) := by decide +kernel
theorem dM_take_134 : decode cM_take 134 = .ok (.iload 5, 2) := by decide +kernel
theorem dM_take_136 : decode cM_take 136 = .ok (.ifCond .ne 7, 3) := by decide +kernel
theorem dM_take_139 : decode cM_take 139 = .ok (.iconst 1, 1) := by decide +kernel
theorem dM_take_140 : decode cM_take 140 = .ok (.goto 5, 3) := by decide +kernel
theorem dM_take_143 : decode cM_take 143 = .ok (.iload 5, 2) := by decide +kernel
theorem dM_take_145 : decode cM_take 145 = .ok (.aload_n 0, 1) := by decide +kernel
theorem dM_take_146 : decode cM_take 146 = .ok (.getfield 27, 3) := by decide +kernel
theorem dM_take_149 : decode cM_take 149 = .ok (.isub, 1) := by decide +kernel
theorem dM_take_150 : decode cM_take 150 = .ok (.aload_n 0, 1) := by decide +kernel
theorem dM_take_151 : decode cM_take 151 = .ok (.getfield 24, 3) := by decide +kernel
theorem dM_take_154 : decode cM_take 154 = .ok (.iconst 1, 1) := by decide +kernel
theorem dM_take_155 : decode cM_take 155 = .ok (.isub, 1) := by decide +kernel
theorem dM_take_156 : decode cM_take 156 = .ok (.isub, 1) := by decide +kernel
theorem dM_take_157 : decode cM_take 157 = .ok (.putfield 40, 3) := by decide +kernel
theorem dM_take_160 : decode cM_take 160 = .ok (.return_, 1) := by decide +kernel
theorem dM_none_0 : decode cM_none 0 = .ok (.aload_n 0, 1) := by decide +kernel
theorem dM_none_1 : decode cM_none 1 = .ok (.iconst 0, 1) := by decide +kernel
theorem dM_none_2 : decode cM_none 2 = .ok (.iconst 2, 1) := by decide +kernel
theorem dM_none_3 : decode cM_none 3 = .ok (.aload_n 0, 1) := by decide +kernel
theorem dM_none_4 : decode cM_none 4 = .ok (.getfield 27, 3) := by decide +kernel
theorem dM_none_7 : decode cM_none 7 = .ok (.imul, 1) := by decide +kernel
theorem dM_none_8 : decode cM_none 8 = .ok (.iconst 1, 1) := by decide +kernel
theorem dM_none_9 : decode cM_none 9 = .ok (.iadd, 1) := by decide +kernel
theorem dM_none_10 : decode cM_none 10 = .ok (.i2l, 1) := by decide +kernel
theorem dM_none_11 : decode cM_none 11 = .ok (.lconst 1, 1) := by decide +kernel
theorem dM_none_12 : decode cM_none 12 = .ok (.aload_n 0, 1) := by decide +kernel
theorem dM_none_13 : decode cM_none 13 = .ok (.getfield 24, 3) := by decide +kernel
theorem dM_none_16 : decode cM_none 16 = .ok (.iconst 2, 1) := by decide +kernel
theorem dM_none_17 : decode cM_none 17 = .ok (.isub, 1) := by decide +kernel
theorem dM_none_18 : decode cM_none 18 = .ok (.lshl, 1) := by decide +kernel
theorem dM_none_19 : decode cM_none 19 = .ok (.invokevirtual 59, 3) := by decide +kernel
theorem dM_none_22 : decode cM_none 22 = .ok (.lreturn, 1) := by decide +kernel
theorem dM_made_0 : decode cM_made 0 = .ok (.iload_n 1, 1) := by decide +kernel
theorem dM_made_1 : decode cM_made 1 = .ok (.i2l, 1) := by decide +kernel
theorem dM_made_2 : decode cM_made 2 = .ok (.aload_n 0, 1) := by decide +kernel
theorem dM_made_3 : decode cM_made 3 = .ok (.getfield 24, 3) := by decide +kernel
theorem dM_made_6 : decode cM_made 6 = .ok (.aload_n 0, 1) := by decide +kernel
theorem dM_made_7 : decode cM_made 7 = .ok (.getfield 24, 3) := by decide +kernel
theorem dM_made_10 : decode cM_made 10 = .ok (.bipush 24, 2) := by decide +kernel
theorem dM_made_12 : decode cM_made 12 = .ok (.if_icmp .ne 8, 3) := by decide +kernel
theorem dM_made_15 : decode cM_made 15 = .ok (.bipush 7, 2) := by decide +kernel
theorem dM_made_17 : decode cM_made 17 = .ok (.goto 5, 3) := by decide +kernel
theorem dM_made_20 : decode cM_made 20 = .ok (.bipush 10, 2) := by decide +kernel
theorem dM_made_22 : decode cM_made 22 = .ok (.iadd, 1) := by decide +kernel
theorem dM_made_23 : decode cM_made 23 = .ok (.lshl, 1) := by decide +kernel
theorem dM_made_24 : decode cM_made 24 = .ok (.lload_n 2, 1) := by decide +kernel
theorem dM_made_25 : decode cM_made 25 = .ok (.aload_n 0, 1) := by decide +kernel
theorem dM_made_26 : decode cM_made 26 = .ok (.getfield 24, 3) := by decide +kernel
theorem dM_made_29 : decode cM_made 29 = .ok (.iconst 1, 1) := by decide +kernel
theorem dM_made_30 : decode cM_made 30 = .ok (.isub, 1) := by decide +kernel
theorem dM_made_31 : decode cM_made 31 = .ok (.lshl, 1) := by decide +kernel
theorem dM_made_32 : decode cM_made 32 = .ok (.lor, 1) := by decide +kernel
theorem dM_made_33 : decode cM_made 33 = .ok (.lload 4, 2) := by decide +kernel
theorem dM_made_35 : decode cM_made 35 = .ok (.lor, 1) := by decide +kernel
theorem dM_made_36 : decode cM_made 36 = .ok (.lreturn, 1) := by decide +kernel
theorem dM_sum_0 : decode cM_sum 0 = .ok (.aload_n 0, 1) := by decide +kernel
theorem dM_sum_1 : decode cM_sum 1 = .ok (.getfield 33, 3) := by decide +kernel
theorem dM_sum_4 : decode cM_sum 4 = .ok (.iconst 1, 1) := by decide +kernel
theorem dM_sum_5 : decode cM_sum 5 = .ok (.if_icmp .ne 35, 3) := by decide +kernel
theorem dM_sum_8 : decode cM_sum 8 = .ok (.aload_n 0, 1) := by decide +kernel
theorem dM_sum_9 : decode cM_sum 9 = .ok (.getfield 47, 3) := by decide +kernel
theorem dM_sum_12 : decode cM_sum 12 = .ok (.iconst 1, 1) := by decide +kernel
theorem dM_sum_13 : decode cM_sum 13 = .ok (.if_icmp .ne 18, 3) := by decide +kernel
theorem dM_sum_16 : decode cM_sum 16 = .ok (.aload_n 0, 1) := by decide +kernel
theorem dM_sum_17 : decode cM_sum 17 = .ok (.getfield 30, 3) := by decide +kernel
theorem dM_sum_20 : decode cM_sum 20 = .ok (.iload_n 1, 1) := by decide +kernel
theorem dM_sum_21 : decode cM_sum 21 = .ok (.if_icmp .eq 10, 3) := by decide +kernel
theorem dM_sum_24 : decode cM_sum 24 = .ok (.aload_n 0, 1) := by decide +kernel
theorem dM_sum_25 : decode cM_sum 25 = .ok (.invokevirtual 111, 3) := by decide +kernel
theorem dM_sum_28 : decode cM_sum 28 = .ok (.goto 11, 3) := by decide +kernel
theorem dM_sum_31 : decode cM_sum 31 = .ok (.aload_n 0, 1) := by decide +kernel
theorem dM_sum_32 : decode cM_sum 32 = .ok (.aload_n 0, 1) := by decide +kernel
theorem dM_sum_33 : decode cM_sum 33 = .ok (.getfield 30, 3) := by decide +kernel
theorem dM_sum_36 : decode cM_sum 36 = .ok (.invokevirtual 79, 3) := by decide +kernel
theorem dM_sum_39 : decode cM_sum 39 = .ok (.lreturn, 1) := by decide +kernel
theorem dM_sum_40 : decode cM_sum 40 = .ok (.aload_n 0, 1) := by decide +kernel
theorem dM_sum_41 : decode cM_sum 41 = .ok (.getfield 47, 3) := by decide +kernel
theorem dM_sum_44 : decode cM_sum 44 = .ok (.iconst 1, 1) := by decide +kernel
theorem dM_sum_45 : decode cM_sum 45 = .ok (.if_icmp .ne 9, 3) := by decide +kernel
theorem dM_sum_48 : decode cM_sum 48 = .ok (.aload_n 0, 1) := by decide +kernel
theorem dM_sum_49 : decode cM_sum 49 = .ok (.iload_n 1, 1) := by decide +kernel
theorem dM_sum_50 : decode cM_sum 50 = .ok (.invokevirtual 79, 3) := by decide +kernel
theorem dM_sum_53 : decode cM_sum 53 = .ok (.lreturn, 1) := by decide +kernel
theorem dM_sum_54 : decode cM_sum 54 = .ok (.aload_n 0, 1) := by decide +kernel
theorem dM_sum_55 : decode cM_sum 55 = .ok (.getfield 36, 3) := by decide +kernel
theorem dM_sum_58 : decode cM_sum 58 = .ok (.lconst 0, 1) := by decide +kernel
theorem dM_sum_59 : decode cM_sum 59 = .ok (.lcmp, 1) := by decide +kernel
theorem dM_sum_60 : decode cM_sum 60 = .ok (.ifCond .ne 44, 3) := by decide +kernel
theorem dM_sum_63 : decode cM_sum 63 = .ok (.aload_n 0, 1) := by decide +kernel
theorem dM_sum_64 : decode cM_sum 64 = .ok (.getfield 53, 3) := by decide +kernel
theorem dM_sum_67 : decode cM_sum 67 = .ok (.lconst 0, 1) := by decide +kernel
theorem dM_sum_68 : decode cM_sum 68 = .ok (.lcmp, 1) := by decide +kernel
theorem dM_sum_69 : decode cM_sum 69 = .ok (.ifCond .ne 35, 3) := by decide +kernel
theorem dM_sum_72 : decode cM_sum 72 = .ok (.aload_n 0, 1) := by decide +kernel
theorem dM_sum_73 : decode cM_sum 73 = .ok (.aload_n 0, 1) := by decide +kernel
theorem dM_sum_74 : decode cM_sum 74 = .ok (.getfield 30, 3) := by decide +kernel
theorem dM_sum_77 : decode cM_sum 77 = .ok (.iload_n 1, 1) := by decide +kernel
theorem dM_sum_78 : decode cM_sum 78 = .ok (.if_icmp .ne 7, 3) := by decide +kernel
theorem dM_sum_81 : decode cM_sum 81 = .ok (.iload_n 1, 1) := by decide +kernel
theorem dM_sum_82 : decode cM_sum 82 = .ok (.goto 16, 3) := by decide +kernel
theorem dM_sum_85 : decode cM_sum 85 = .ok (.aload_n 0, 1) := by decide +kernel
theorem dM_sum_86 : decode cM_sum 86 = .ok (.getfield 76, 3) := by decide +kernel
theorem dM_sum_89 : decode cM_sum 89 = .ok (.iconst 3, 1) := by decide +kernel
theorem dM_sum_90 : decode cM_sum 90 = .ok (.if_icmp .ne 7, 3) := by decide +kernel
theorem dM_sum_93 : decode cM_sum 93 = .ok (.iconst 1, 1) := by decide +kernel
theorem dM_sum_94 : decode cM_sum 94 = .ok (.goto 4, 3) := by decide +kernel
theorem dM_sum_97 : decode cM_sum 97 = .ok (.iconst 0, 1) := by decide +kernel
theorem dM_sum_98 : decode cM_sum 98 = .ok (.lconst 0, 1) := by decide +kernel
theorem dM_sum_99 : decode cM_sum 99 = .ok (.lconst 0, 1) := by decide +kernel
theorem dM_sum_100 : decode cM_sum 100 = .ok (.invokevirtual 59, 3) := by decide +kernel
theorem dM_sum_103 : decode cM_sum 103 = .ok (.lreturn, 1) := by decide +kernel
theorem dM_sum_104 : decode cM_sum 104 = .ok (.iconst 1, 1) := by decide +kernel
theorem dM_sum_105 : decode cM_sum 105 = .ok (.aload_n 0, 1) := by decide +kernel
theorem dM_sum_106 : decode cM_sum 106 = .ok (.getfield 27, 3) := by decide +kernel
theorem dM_sum_109 : decode cM_sum 109 = .ok (.isub, 1) := by decide +kernel
theorem dM_sum_110 : decode cM_sum 110 = .ok (.aload_n 0, 1) := by decide +kernel
theorem dM_sum_111 : decode cM_sum 111 = .ok (.getfield 24, 3) := by decide +kernel
theorem dM_sum_114 : decode cM_sum 114 = .ok (.iconst 1, 1) := by decide +kernel
theorem dM_sum_115 : decode cM_sum 115 = .ok (.isub, 1) := by decide +kernel
theorem dM_sum_116 : decode cM_sum 116 = .ok (.isub, 1) := by decide +kernel
theorem dM_sum_117 : decode cM_sum 117 = .ok (.istore_n 2, 1) := by decide +kernel
theorem dM_sum_118 : decode cM_sum 118 = .ok (.aload_n 0, 1) := by decide +kernel
theorem dM_sum_119 : decode cM_sum 119 = .ok (.invokevirtual 114, 3) := by decide +kernel
theorem dM_sum_122 : decode cM_sum 122 = .ok (.aload_n 0, 1) := by decide +kernel
theorem dM_sum_123 : decode cM_sum 123 = .ok (.aload_n 0, 1) := by decide +kernel
theorem dM_sum_124 : decode cM_sum 124 = .ok (.getfield 53, 3) := by decide +kernel
theorem dM_sum_127 : decode cM_sum 127 = .ok (.aload_n 0, 1) := by decide +kernel
theorem dM_sum_128 : decode cM_sum 128 = .ok (.getfield 56, 3) := by decide +kernel
theorem dM_sum_131 : decode cM_sum 131 = .ok (.iload_n 2, 1) := by decide +kernel
theorem dM_sum_132 : decode cM_sum 132 = .ok (.isub, 1) := by decide +kernel
theorem dM_sum_133 : decode cM_sum 133 = .ok (.invokevirtual 117, 3) := by decide +kernel
theorem dM_sum_136 : decode cM_sum 136 = .ok (.iconst 0, 1) := by decide +kernel
theorem dM_sum_137 : decode cM_sum 137 = .ok (.istore_n 3, 1) := by decide +kernel
theorem dM_sum_138 : decode cM_sum 138 = .ok (.iload_n 3, 1) := by decide +kernel
theorem dM_sum_139 : decode cM_sum 139 = .ok (.aload_n 0, 1) := by decide +kernel
theorem dM_sum_140 : decode cM_sum 140 = .ok (.getfield 7, 3) := by decide +kernel
theorem dM_sum_143 : decode cM_sum 143 = .ok (.arraylength, 1) := by decide +kernel
theorem dM_sum_144 : decode cM_sum 144 = .ok (.if_icmp .ge 21, 3) := by decide +kernel
theorem dM_sum_147 : decode cM_sum 147 = .ok (.aload_n 0, 1) := by decide +kernel
theorem dM_sum_148 : decode cM_sum 148 = .ok (.getfield 13, 3) := by decide +kernel
theorem dM_sum_151 : decode cM_sum 151 = .ok (.iload_n 3, 1) := by decide +kernel
theorem dM_sum_152 : decode cM_sum 152 = .ok (.aload_n 0, 1) := by decide +kernel
theorem dM_sum_153 : decode cM_sum 153 = .ok (.getfield 7, 3) := by decide +kernel
theorem dM_sum_156 : decode cM_sum 156 = .ok (.iload_n 3, 1) := by decide +kernel
theorem dM_sum_157 : decode cM_sum 157 = .ok (.iaload, 1) := by decide +kernel
theorem dM_sum_158 : decode cM_sum 158 = .ok (.iastore, 1) := by decide +kernel
theorem dM_sum_159 : decode cM_sum 159 = .ok (.iinc 3 1, 3) := by decide +kernel
theorem dM_sum_162 : decode cM_sum 162 = .ok (.goto (-24), 3) := by decide +kernel
theorem dM_sum_165 : decode cM_sum 165 = .ok (.aload_n 0, 1) := by decide +kernel
theorem dM_sum_166 : decode cM_sum 166 = .ok (.invokevirtual 114, 3) := by decide +kernel
theorem dM_sum_169 : decode cM_sum 169 = .ok (.aload_n 0, 1) := by decide +kernel
theorem dM_sum_170 : decode cM_sum 170 = .ok (.aload_n 0, 1) := by decide +kernel
theorem dM_sum_171 : decode cM_sum 171 = .ok (.getfield 36, 3) := by decide +kernel
theorem dM_sum_174 : decode cM_sum 174 = .ok (.aload_n 0, 1) := by decide +kernel
theorem dM_sum_175 : decode cM_sum 175 = .ok (.getfield 40, 3) := by decide +kernel
theorem dM_sum_178 : decode cM_sum 178 = .ok (.iload_n 2, 1) := by decide +kernel
theorem dM_sum_179 : decode cM_sum 179 = .ok (.isub, 1) := by decide +kernel
theorem dM_sum_180 : decode cM_sum 180 = .ok (.invokevirtual 117, 3) := by decide +kernel
theorem dM_sum_183 : decode cM_sum 183 = .ok (.aload_n 0, 1) := by decide +kernel
theorem dM_sum_184 : decode cM_sum 184 = .ok (.getfield 30, 3) := by decide +kernel
theorem dM_sum_187 : decode cM_sum 187 = .ok (.iload_n 1, 1) := by decide +kernel
theorem dM_sum_188 : decode cM_sum 188 = .ok (.if_icmp .ne 67, 3) := by decide +kernel
theorem dM_sum_191 : decode cM_sum 191 = .ok (.iconst 0, 1) := by decide +kernel
theorem dM_sum_192 : decode cM_sum 192 = .ok (.istore_n 3, 1) := by decide +kernel
theorem dM_sum_193 : decode cM_sum 193 = .ok (.iconst 0, 1) := by decide +kernel
theorem dM_sum_194 : decode cM_sum 194 = .ok (.istore 4, 2) := by decide +kernel
theorem dM_sum_196 : decode cM_sum 196 = .ok (.iload 4, 2) := by decide +kernel
theorem dM_sum_198 : decode cM_sum 198 = .ok (.aload_n 0, 1) := by decide +kernel
theorem dM_sum_199 : decode cM_sum 199 = .ok (.getfield 7, 3) := by decide +kernel
theorem dM_sum_202 : decode cM_sum 202 = .ok (.arraylength, 1) := by decide +kernel
theorem dM_sum_203 : decode cM_sum 203 = .ok (.if_icmp .ge 44, 3) := by decide +kernel
theorem dM_sum_206 : decode cM_sum 206 = .ok (.aload_n 0, 1) := by decide +kernel
theorem dM_sum_207 : decode cM_sum 207 = .ok (.getfield 7, 3) := by decide +kernel
theorem dM_sum_210 : decode cM_sum 210 = .ok (.iload 4, 2) := by decide +kernel
theorem dM_sum_212 : decode cM_sum 212 = .ok (.iaload, 1) := by decide +kernel
theorem dM_sum_213 : decode cM_sum 213 = .ok (.aload_n 0, 1) := by decide +kernel
theorem dM_sum_214 : decode cM_sum 214 = .ok (.getfield 13, 3) := by decide +kernel
theorem dM_sum_217 : decode cM_sum 217 = .ok (.iload 4, 2) := by decide +kernel
theorem dM_sum_219 : decode cM_sum 219 = .ok (.iaload, 1) := by decide +kernel
theorem dM_sum_220 : decode cM_sum 220 = .ok (.iadd, 1) := by decide +kernel
theorem dM_sum_221 : decode cM_sum 221 = .ok (.iload_n 3, 1) := by decide +kernel
theorem dM_sum_222 : decode cM_sum 222 = .ok (.iadd, 1) := by decide +kernel
theorem dM_sum_223 : decode cM_sum 223 = .ok (.istore 5, 2) := by decide +kernel
theorem dM_sum_225 : decode cM_sum 225 = .ok (.aload_n 0, 1) := by decide +kernel
theorem dM_sum_226 : decode cM_sum 226 = .ok (.getfield 7, 3) := by decide +kernel
theorem dM_sum_229 : decode cM_sum 229 = .ok (.iload 4, 2) := by decide +kernel
theorem dM_sum_231 : decode cM_sum 231 = .ok (.iload 5, 2) := by decide +kernel
theorem dM_sum_233 : decode cM_sum 233 = .ok (.iconst 1, 1) := by decide +kernel
theorem dM_sum_234 : decode cM_sum 234 = .ok (.iand, 1) := by decide +kernel
theorem dM_sum_235 : decode cM_sum 235 = .ok (.iastore, 1) := by decide +kernel
theorem dM_sum_236 : decode cM_sum 236 = .ok (.iload 5, 2) := by decide +kernel
theorem dM_sum_238 : decode cM_sum 238 = .ok (.iconst 1, 1) := by decide +kernel
theorem dM_sum_239 : decode cM_sum 239 = .ok (.ishr, 1) := by decide +kernel
theorem dM_sum_240 : decode cM_sum 240 = .ok (.istore_n 3, 1) := by decide +kernel
theorem dM_sum_241 : decode cM_sum 241 = .ok (.iinc 4 1, 3) := by decide +kernel
theorem dM_sum_244 : decode cM_sum 244 = .ok (.goto (-48), 3) := by decide +kernel
theorem dM_sum_247 : decode cM_sum 247 = .ok (.aload_n 0, 1) := by decide +kernel
theorem dM_sum_248 : decode cM_sum 248 = .ok (.iload_n 1, 1) := by decide +kernel
theorem dM_sum_249 : decode cM_sum 249 = .ok (.iload_n 2, 1) := by decide +kernel
theorem dM_sum_250 : decode cM_sum 250 = .ok (.iconst 0, 1) := by decide +kernel
theorem dM_sum_251 : decode cM_sum 251 = .ok (.invokevirtual 121, 3) := by decide +kernel
theorem dM_sum_254 : decode cM_sum 254 = .ok (.lreturn, 1) := by decide +kernel
theorem dM_sum_255 : decode cM_sum 255 = .ok (.iconst 0, 1) := by decide +kernel
theorem dM_sum_256 : decode cM_sum 256 = .ok (.istore_n 3, 1) := by decide +kernel
theorem dM_sum_257 : decode cM_sum 257 = .ok (.aload_n 0, 1) := by decide +kernel
theorem dM_sum_258 : decode cM_sum 258 = .ok (.getfield 7, 3) := by decide +kernel
theorem dM_sum_261 : decode cM_sum 261 = .ok (.arraylength, 1) := by decide +kernel
theorem dM_sum_262 : decode cM_sum 262 = .ok (.iconst 1, 1) := by decide +kernel
theorem dM_sum_263 : decode cM_sum 263 = .ok (.isub, 1) := by decide +kernel
theorem dM_sum_264 : decode cM_sum 264 = .ok (.istore 4, 2) := by decide +kernel
theorem dM_sum_266 : decode cM_sum 266 = .ok (.iload 4, 2) := by decide +kernel
theorem dM_sum_268 : decode cM_sum 268 = .ok (.ifCond .lt 29, 3) := by decide +kernel
theorem dM_sum_271 : decode cM_sum 271 = .ok (.iload_n 3, 1) := by decide +kernel
theorem dM_sum_272 : decode cM_sum 272 = .ok (.ifCond .ne 25, 3) := by decide +kernel
theorem dM_sum_275 : decode cM_sum 275 = .ok (.aload_n 0, 1) := by decide +kernel
theorem dM_sum_276 : decode cM_sum 276 = .ok (.getfield 7, 3) := by decide +kernel
theorem dM_sum_279 : decode cM_sum 279 = .ok (.iload 4, 2) := by decide +kernel
theorem dM_sum_281 : decode cM_sum 281 = .ok (.iaload, 1) := by decide +kernel
theorem dM_sum_282 : decode cM_sum 282 = .ok (.aload_n 0, 1) := by decide +kernel
theorem dM_sum_283 : decode cM_sum 283 = .ok (.getfield 13, 3) := by decide +kernel
theorem dM_sum_286 : decode cM_sum 286 = .ok (.iload 4, 2) := by decide +kernel
theorem dM_sum_288 : decode cM_sum 288 = .ok (.iaload, 1) := by decide +kernel
theorem dM_sum_289 : decode cM_sum 289 = .ok (.isub, 1) := by decide +kernel
theorem dM_sum_290 : decode cM_sum 290 = .ok (.istore_n 3, 1) := by decide +kernel
theorem dM_sum_291 : decode cM_sum 291 = .ok (.iinc 4 (-1), 3) := by decide +kernel
theorem dM_sum_294 : decode cM_sum 294 = .ok (.goto (-28), 3) := by decide +kernel
theorem dM_sum_297 : decode cM_sum 297 = .ok (.iload_n 3, 1) := by decide +kernel
theorem dM_sum_298 : decode cM_sum 298 = .ok (.ifCond .ne 23, 3) := by decide +kernel
theorem dM_sum_301 : decode cM_sum 301 = .ok (.aload_n 0, 1) := by decide +kernel
theorem dM_sum_302 : decode cM_sum 302 = .ok (.aload_n 0, 1) := by decide +kernel
theorem dM_sum_303 : decode cM_sum 303 = .ok (.getfield 76, 3) := by decide +kernel
theorem dM_sum_306 : decode cM_sum 306 = .ok (.iconst 3, 1) := by decide +kernel
theorem dM_sum_307 : decode cM_sum 307 = .ok (.if_icmp .ne 7, 3) := by decide +kernel
theorem dM_sum_310 : decode cM_sum 310 = .ok (.iconst 1, 1) := by decide +kernel
theorem dM_sum_311 : decode cM_sum 311 = .ok (.goto 4, 3) := by decide +kernel
theorem dM_sum_314 : decode cM_sum 314 = .ok (.iconst 0, 1) := by decide +kernel
theorem dM_sum_315 : decode cM_sum 315 = .ok (.lconst 0, 1) := by decide +kernel
theorem dM_sum_316 : decode cM_sum 316 = .ok (.lconst 0, 1) := by decide +kernel
theorem dM_sum_317 : decode cM_sum 317 = .ok (.invokevirtual 59, 3) := by decide +kernel
theorem dM_sum_320 : decode cM_sum 320 = .ok (.lreturn, 1) := by decide +kernel
theorem dM_sum_321 : decode cM_sum 321 = .ok (.iconst 0, 1) := by decide +kernel
theorem dM_sum_322 : decode cM_sum 322 = .ok (.istore 4, 2) := by decide +kernel
theorem dM_sum_324 : decode cM_sum 324 = .ok (.iconst 0, 1) := by decide +kernel
theorem dM_sum_325 : decode cM_sum 325 = .ok (.istore 5, 2) := by decide +kernel
theorem dM_sum_327 : decode cM_sum 327 = .ok (.iload 5, 2) := by decide +kernel
theorem dM_sum_329 : decode cM_sum 329 = .ok (.aload_n 0, 1) := by decide +kernel
theorem dM_sum_330 : decode cM_sum 330 = .ok (.getfield 7, 3) := by decide +kernel
theorem dM_sum_333 : decode cM_sum 333 = .ok (.arraylength, 1) := by decide +kernel
theorem dM_sum_334 : decode cM_sum 334 = .ok (.if_icmp .ge 77, 3) := by decide +kernel
theorem dM_sum_337 : decode cM_sum 337 = .ok (.iload_n 3, 1) := by decide +kernel
theorem dM_sum_338 : decode cM_sum 338 = .ok (.ifCond .le 24, 3) := by decide +kernel
theorem dM_sum_341 : decode cM_sum 341 = .ok (.aload_n 0, 1) := by decide +kernel
theorem dM_sum_342 : decode cM_sum 342 = .ok (.getfield 7, 3) := by decide +kernel
theorem dM_sum_345 : decode cM_sum 345 = .ok (.iload 5, 2) := by decide +kernel
theorem dM_sum_347 : decode cM_sum 347 = .ok (.iaload, 1) := by decide +kernel
theorem dM_sum_348 : decode cM_sum 348 = .ok (.aload_n 0, 1) := by decide +kernel
theorem dM_sum_349 : decode cM_sum 349 = .ok (.getfield 13, 3) := by decide +kernel
theorem dM_sum_352 : decode cM_sum 352 = .ok (.iload 5, 2) := by decide +kernel
theorem dM_sum_354 : decode cM_sum 354 = .ok (.iaload, 1) := by decide +kernel
theorem dM_sum_355 : decode cM_sum 355 = .ok (.isub, 1) := by decide +kernel
theorem dM_sum_356 : decode cM_sum 356 = .ok (.iload 4, 2) := by decide +kernel
theorem dM_sum_358 : decode cM_sum 358 = .ok (.isub, 1) := by decide +kernel
theorem dM_sum_359 : decode cM_sum 359 = .ok (.goto 21, 3) := by decide +kernel
theorem dM_sum_362 : decode cM_sum 362 = .ok (.aload_n 0, 1) := by decide +kernel
theorem dM_sum_363 : decode cM_sum 363 = .ok (.getfield 13, 3) := by decide +kernel
theorem dM_sum_366 : decode cM_sum 366 = .ok (.iload 5, 2) := by decide +kernel
theorem dM_sum_368 : decode cM_sum 368 = .ok (.iaload, 1) := by decide +kernel
theorem dM_sum_369 : decode cM_sum 369 = .ok (.aload_n 0, 1) := by decide +kernel
theorem dM_sum_370 : decode cM_sum 370 = .ok (.getfield 7, 3) := by decide +kernel
theorem dM_sum_373 : decode cM_sum 373 = .ok (.iload 5, 2) := by decide +kernel
theorem dM_sum_375 : decode cM_sum 375 = .ok (.iaload, 1) := by decide +kernel
theorem dM_sum_376 : decode cM_sum 376 = .ok (.isub, 1) := by decide +kernel
theorem dM_sum_377 : decode cM_sum 377 = .ok (.iload 4, 2) := by decide +kernel
theorem dM_sum_379 : decode cM_sum 379 = .ok (.isub, 1) := by decide +kernel
theorem dM_sum_380 : decode cM_sum 380 = .ok (.istore 6, 2) := by decide +kernel
theorem dM_sum_382 : decode cM_sum 382 = .ok (.iload 6, 2) := by decide +kernel
theorem dM_sum_384 : decode cM_sum 384 = .ok (.ifCond .ge 7, 3) := by decide +kernel
theorem dM_sum_387 : decode cM_sum 387 = .ok (.iconst 1, 1) := by decide +kernel
theorem dM_sum_388 : decode cM_sum 388 = .ok (.goto 4, 3) := by decide +kernel
theorem dM_sum_391 : decode cM_sum 391 = .ok (.iconst 0, 1) := by decide +kernel
theorem dM_sum_392 : decode cM_sum 392 = .ok (.istore 4, 2) := by decide +kernel
theorem dM_sum_394 : decode cM_sum 394 = .ok (.aload_n 0, 1) := by decide +kernel
theorem dM_sum_395 : decode cM_sum 395 = .ok (.getfield 7, 3) := by decide +kernel
theorem dM_sum_398 : decode cM_sum 398 = .ok (.iload 5, 2) := by decide +kernel
theorem dM_sum_400 : decode cM_sum 400 = .ok (.iload 6, 2) := by decide +kernel
theorem dM_sum_402 : decode cM_sum 402 = .ok (.iconst 1, 1) := by decide +kernel
theorem dM_sum_403 : decode cM_sum 403 = .ok (.iand, 1) := by decide +kernel
theorem dM_sum_404 : decode cM_sum 404 = .ok (.iastore, 1) := by decide +kernel
theorem dM_sum_405 : decode cM_sum 405 = .ok (.iinc 5 1, 3) := by decide +kernel
theorem dM_sum_408 : decode cM_sum 408 = .ok (.goto (-81), 3) := by decide +kernel
theorem dM_sum_411 : decode cM_sum 411 = .ok (.aload_n 0, 1) := by decide +kernel
theorem dM_sum_412 : decode cM_sum 412 = .ok (.iload_n 3, 1) := by decide +kernel
theorem dM_sum_413 : decode cM_sum 413 = .ok (.ifCond .le 10, 3) := by decide +kernel
theorem dM_sum_416 : decode cM_sum 416 = .ok (.aload_n 0, 1) := by decide +kernel
theorem dM_sum_417 : decode cM_sum 417 = .ok (.getfield 30, 3) := by decide +kernel
theorem dM_sum_420 : decode cM_sum 420 = .ok (.goto 4, 3) := by decide +kernel
theorem dM_sum_423 : decode cM_sum 423 = .ok (.iload_n 1, 1) := by decide +kernel
theorem dM_sum_424 : decode cM_sum 424 = .ok (.iload_n 2, 1) := by decide +kernel
theorem dM_sum_425 : decode cM_sum 425 = .ok (.iconst 0, 1) := by decide +kernel
theorem dM_sum_426 : decode cM_sum 426 = .ok (.invokevirtual 121, 3) := by decide +kernel
theorem dM_sum_429 : decode cM_sum 429 = .ok (.lreturn, 1) := by decide +kernel
theorem dM_invalid_0 : decode cM_invalid 0 = .ok (.aload_n 0, 1) := by decide +kernel
theorem dM_invalid_1 : decode cM_invalid 1 = .ok (.dup, 1) := by decide +kernel
theorem dM_invalid_2 : decode cM_invalid 2 = .ok (.getfield 63, 3) := by decide +kernel
theorem dM_invalid_5 : decode cM_invalid 5 = .ok (.bipush 16, 2) := by decide +kernel
theorem dM_invalid_7 : decode cM_invalid 7 = .ok (.ior, 1) := by decide +kernel
theorem dM_invalid_8 : decode cM_invalid 8 = .ok (.putfield 63, 3) := by decide +kernel
theorem dM_invalid_11 : decode cM_invalid 11 = .ok (.aload_n 0, 1) := by decide +kernel
theorem dM_invalid_12 : decode cM_invalid 12 = .ok (.invokevirtual 66, 3) := by decide +kernel
theorem dM_invalid_15 : decode cM_invalid 15 = .ok (.lreturn, 1) := by decide +kernel
theorem dM_endless_0 : decode cM_endless 0 = .ok (.aload_n 0, 1) := by decide +kernel
theorem dM_endless_1 : decode cM_endless 1 = .ok (.iload_n 1, 1) := by decide +kernel
theorem dM_endless_2 : decode cM_endless 2 = .ok (.iconst 2, 1) := by decide +kernel
theorem dM_endless_3 : decode cM_endless 3 = .ok (.aload_n 0, 1) := by decide +kernel
theorem dM_endless_4 : decode cM_endless 4 = .ok (.getfield 27, 3) := by decide +kernel
theorem dM_endless_7 : decode cM_endless 7 = .ok (.imul, 1) := by decide +kernel
theorem dM_endless_8 : decode cM_endless 8 = .ok (.iconst 1, 1) := by decide +kernel
theorem dM_endless_9 : decode cM_endless 9 = .ok (.iadd, 1) := by decide +kernel
theorem dM_endless_10 : decode cM_endless 10 = .ok (.i2l, 1) := by decide +kernel
theorem dM_endless_11 : decode cM_endless 11 = .ok (.lconst 0, 1) := by decide +kernel
theorem dM_endless_12 : decode cM_endless 12 = .ok (.invokevirtual 59, 3) := by decide +kernel
theorem dM_endless_15 : decode cM_endless 15 = .ok (.lreturn, 1) := by decide +kernel
theorem dM_clear_0 : decode cM_clear 0 = .ok (.iconst 0, 1) := by decide +kernel
theorem dM_clear_1 : decode cM_clear 1 = .ok (.istore_n 1, 1) := by decide +kernel
theorem dM_clear_2 : decode cM_clear 2 = .ok (.iload_n 1, 1) := by decide +kernel
theorem dM_clear_3 : decode cM_clear 3 = .ok (.aload_n 0, 1) := by decide +kernel
theorem dM_clear_4 : decode cM_clear 4 = .ok (.getfield 7, 3) := by decide +kernel
theorem dM_clear_7 : decode cM_clear 7 = .ok (.arraylength, 1) := by decide +kernel
theorem dM_clear_8 : decode cM_clear 8 = .ok (.if_icmp .ge 16, 3) := by decide +kernel
theorem dM_clear_11 : decode cM_clear 11 = .ok (.aload_n 0, 1) := by decide +kernel
theorem dM_clear_12 : decode cM_clear 12 = .ok (.getfield 7, 3) := by decide +kernel
theorem dM_clear_15 : decode cM_clear 15 = .ok (.iload_n 1, 1) := by decide +kernel
theorem dM_clear_16 : decode cM_clear 16 = .ok (.iconst 0, 1) := by decide +kernel
theorem dM_clear_17 : decode cM_clear 17 = .ok (.iastore, 1) := by decide +kernel
theorem dM_clear_18 : decode cM_clear 18 = .ok (.iinc 1 1, 3) := by decide +kernel
theorem dM_clear_21 : decode cM_clear 21 = .ok (.goto (-19), 3) := by decide +kernel
theorem dM_clear_24 : decode cM_clear 24 = .ok (.return_, 1) := by decide +kernel
theorem dM_lay_0 : decode cM_lay 0 = .ok (.iconst 0, 1) := by decide +kernel
theorem dM_lay_1 : decode cM_lay 1 = .ok (.istore 4, 2) := by decide +kernel
theorem dM_lay_3 : decode cM_lay 3 = .ok (.iload 4, 2) := by decide +kernel
theorem dM_lay_5 : decode cM_lay 5 = .ok (.bipush 64, 2) := by decide +kernel
theorem dM_lay_7 : decode cM_lay 7 = .ok (.if_icmp .ge 30, 3) := by decide +kernel
theorem dM_lay_10 : decode cM_lay 10 = .ok (.lload_n 1, 1) := by decide +kernel
theorem dM_lay_11 : decode cM_lay 11 = .ok (.iload 4, 2) := by decide +kernel
theorem dM_lay_13 : decode cM_lay 13 = .ok (.lushr, 1) := by decide +kernel
theorem dM_lay_14 : decode cM_lay 14 = .ok (.lconst 1, 1) := by decide +kernel
theorem dM_lay_15 : decode cM_lay 15 = .ok (.land, 1) := by decide +kernel
theorem dM_lay_16 : decode cM_lay 16 = .ok (.lconst 1, 1) := by decide +kernel
theorem dM_lay_17 : decode cM_lay 17 = .ok (.lcmp, 1) := by decide +kernel
theorem dM_lay_18 : decode cM_lay 18 = .ok (.ifCond .ne 13, 3) := by decide +kernel
theorem dM_lay_21 : decode cM_lay 21 = .ok (.aload_n 0, 1) := by decide +kernel
theorem dM_lay_22 : decode cM_lay 22 = .ok (.getfield 7, 3) := by decide +kernel
theorem dM_lay_25 : decode cM_lay 25 = .ok (.iload_n 3, 1) := by decide +kernel
theorem dM_lay_26 : decode cM_lay 26 = .ok (.iload 4, 2) := by decide +kernel
theorem dM_lay_28 : decode cM_lay 28 = .ok (.iadd, 1) := by decide +kernel
theorem dM_lay_29 : decode cM_lay 29 = .ok (.iconst 1, 1) := by decide +kernel
theorem dM_lay_30 : decode cM_lay 30 = .ok (.iastore, 1) := by decide +kernel
theorem dM_lay_31 : decode cM_lay 31 = .ok (.iinc 4 1, 3) := by decide +kernel
theorem dM_lay_34 : decode cM_lay 34 = .ok (.goto (-31), 3) := by decide +kernel
theorem dM_lay_37 : decode cM_lay 37 = .ok (.return_, 1) := by decide +kernel
theorem dM_rounded_0 : decode cM_rounded 0 = .ok (.aload_n 0, 1) := by decide +kernel
theorem dM_rounded_1 : decode cM_rounded 1 = .ok (.invokevirtual 70, 3) := by decide +kernel
theorem dM_rounded_4 : decode cM_rounded 4 = .ok (.istore 4, 2) := by decide +kernel
theorem dM_rounded_6 : decode cM_rounded 6 = .ok (.iconst 1, 1) := by decide +kernel
theorem dM_rounded_7 : decode cM_rounded 7 = .ok (.aload_n 0, 1) := by decide +kernel
theorem dM_rounded_8 : decode cM_rounded 8 = .ok (.getfield 27, 3) := by decide +kernel
theorem dM_rounded_11 : decode cM_rounded 11 = .ok (.isub, 1) := by decide +kernel
theorem dM_rounded_12 : decode cM_rounded 12 = .ok (.aload_n 0, 1) := by decide +kernel
theorem dM_rounded_13 : decode cM_rounded 13 = .ok (.getfield 24, 3) := by decide +kernel
theorem dM_rounded_16 : decode cM_rounded 16 = .ok (.iconst 1, 1) := by decide +kernel
theorem dM_rounded_17 : decode cM_rounded 17 = .ok (.isub, 1) := by decide +kernel
theorem dM_rounded_18 : decode cM_rounded 18 = .ok (.isub, 1) := by decide +kernel
theorem dM_rounded_19 : decode cM_rounded 19 = .ok (.iload_n 2, 1) := by decide +kernel
theorem dM_rounded_20 : decode cM_rounded 20 = .ok (.isub, 1) := by decide +kernel
theorem dM_rounded_21 : decode cM_rounded 21 = .ok (.istore 5, 2) := by decide +kernel
theorem dM_rounded_23 : decode cM_rounded 23 = .ok (.iload 4, 2) := by decide +kernel
theorem dM_rounded_25 : decode cM_rounded 25 = .ok (.aload_n 0, 1) := by decide +kernel
theorem dM_rounded_26 : decode cM_rounded 26 = .ok (.getfield 24, 3) := by decide +kernel
theorem dM_rounded_29 : decode cM_rounded 29 = .ok (.iconst 1, 1) := by decide +kernel
theorem dM_rounded_30 : decode cM_rounded 30 = .ok (.isub, 1) := by decide +kernel
theorem dM_rounded_31 : decode cM_rounded 31 = .ok (.isub, 1) := by decide +kernel
theorem dM_rounded_32 : decode cM_rounded 32 = .ok (.istore 6, 2) := by decide +kernel
theorem dM_rounded_34 : decode cM_rounded 34 = .ok (.iload 6, 2) := by decide +kernel
theorem dM_rounded_36 : decode cM_rounded 36 = .ok (.iload 5, 2) := by decide +kernel
theorem dM_rounded_38 : decode cM_rounded 38 = .ok (.if_icmp .ge 7, 3) := by decide +kernel
theorem dM_rounded_41 : decode cM_rounded 41 = .ok (.iload 5, 2) := by decide +kernel
theorem dM_rounded_43 : decode cM_rounded 43 = .ok (.istore 6, 2) := by decide +kernel
theorem dM_rounded_45 : decode cM_rounded 45 = .ok (.lconst 0, 1) := by decide +kernel
theorem dM_rounded_46 : decode cM_rounded 46 = .ok (.lstore 7, 2) := by decide +kernel
theorem dM_rounded_48 : decode cM_rounded 48 = .ok (.iload 4, 2) := by decide +kernel
theorem dM_rounded_50 : decode cM_rounded 50 = .ok (.istore 9, 2) := by decide +kernel
theorem dM_rounded_52 : decode cM_rounded 52 = .ok (.iload 9, 2) := by decide +kernel
theorem dM_rounded_54 : decode cM_rounded 54 = .ok (.iload 6, 2) := by decide +kernel
theorem dM_rounded_56 : decode cM_rounded 56 = .ok (.if_icmp .lt 35, 3) := by decide +kernel
theorem dM_rounded_59 : decode cM_rounded 59 = .ok (.ldc2_w 74, 3) := by decide +kernel
theorem dM_rounded_62 : decode cM_rounded 62 = .ok (.lload 7, 2) := by decide +kernel
theorem dM_rounded_64 : decode cM_rounded 64 = .ok (.lmul, 1) := by decide +kernel
theorem dM_rounded_65 : decode cM_rounded 65 = .ok (.iload 9, 2) := by decide +kernel
theorem dM_rounded_67 : decode cM_rounded 67 = .ok (.ifCond .lt 13, 3) := by decide +kernel
theorem dM_rounded_70 : decode cM_rounded 70 = .ok (.aload_n 0, 1) := by decide +kernel
theorem dM_rounded_71 : decode cM_rounded 71 = .ok (.getfield 7, 3) := by decide +kernel
theorem dM_rounded_74 : decode cM_rounded 74 = .ok (.iload 9, 2) := by decide +kernel
theorem dM_rounded_76 : decode cM_rounded 76 = .ok (.iaload, 1) := by decide +kernel
theorem dM_rounded_77 : decode cM_rounded 77 = .ok (.goto 4, 3) := by decide +kernel
theorem dM_rounded_80 : decode cM_rounded 80 = .ok (.iconst 0, 1) := by decide +kernel
theorem dM_rounded_81 : decode cM_rounded 81 = .ok (.i2l, 1) := by decide +kernel
theorem dM_rounded_82 : decode cM_rounded 82 = .ok (.ladd, 1) := by decide +kernel
theorem dM_rounded_83 : decode cM_rounded 83 = .ok (.lstore 7, 2) := by decide +kernel
theorem dM_rounded_85 : decode cM_rounded 85 = .ok (.iinc 9 (-1), 3) := by decide +kernel
theorem dM_rounded_88 : decode cM_rounded 88 = .ok (.goto (-36), 3) := by decide +kernel
theorem dM_rounded_91 : decode cM_rounded 91 = .ok (.iload 6, 2) := by decide +kernel
theorem dM_rounded_93 : decode cM_rounded 93 = .ok (.ifCond .le 24, 3) := by decide +kernel
theorem dM_rounded_96 : decode cM_rounded 96 = .ok (.iload 6, 2) := by decide +kernel
theorem dM_rounded_98 : decode cM_rounded 98 = .ok (.iconst 1, 1) := by decide +kernel
theorem dM_rounded_99 : decode cM_rounded 99 = .ok (.isub, 1) := by decide +kernel
theorem dM_rounded_100 : decode cM_rounded 100 = .ok (.iload 4, 2) := by decide +kernel
theorem dM_rounded_102 : decode cM_rounded 102 = .ok (.if_icmp .gt 15, 3) := by decide +kernel
theorem dM_rounded_105 : decode cM_rounded 105 = .ok (.aload_n 0, 1) := by decide +kernel
theorem dM_rounded_106 : decode cM_rounded 106 = .ok (.getfield 7, 3) := by decide +kernel
theorem dM_rounded_109 : decode cM_rounded 109 = .ok (.iload 6, 2) := by decide +kernel
theorem dM_rounded_111 : decode cM_rounded 111 = .ok (.iconst 1, 1) := by decide +kernel
theorem dM_rounded_112 : decode cM_rounded 112 = .ok (.isub, 1) := by decide +kernel
theorem dM_rounded_113 : decode cM_rounded 113 = .ok (.iaload, 1) := by decide +kernel
theorem dM_rounded_114 : decode cM_rounded 114 = .ok (.goto 4, 3) := by decide +kernel
theorem dM_rounded_117 : decode cM_rounded 117 = .ok (.iconst 0, 1) := by decide +kernel
theorem dM_rounded_118 : decode cM_rounded 118 = .ok (.istore 9, 2) := by decide +kernel
theorem dM_rounded_120 : decode cM_rounded 120 = .ok (.iload_n 3, 1) := by decide +kernel
theorem dM_rounded_121 : decode cM_rounded 121 = .ok (.istore 10, 2) := by decide +kernel
theorem dM_rounded_123 : decode cM_rounded 123 = .ok (.iconst 0, 1) := by decide +kernel
theorem dM_rounded_124 : decode cM_rounded 124 = .ok (.istore 11, 2) := by decide +kernel
theorem dM_rounded_126 : decode cM_rounded 126 = .ok (.iload 11, 2) := by decide +kernel
theorem dM_rounded_128 : decode cM_rounded 128 = .ok (.iload 6, 2) := by decide +kernel
theorem dM_rounded_130 : decode cM_rounded 130 = .ok (.iconst 1, 1) := by decide +kernel
theorem dM_rounded_131 : decode cM_rounded 131 = .ok (.isub, 1) := by decide +kernel
theorem dM_rounded_132 : decode cM_rounded 132 = .ok (.if_icmp .ge 30, 3) := by decide +kernel
theorem dM_rounded_135 : decode cM_rounded 135 = .ok (.iload 11, 2) := by decide +kernel
theorem dM_rounded_137 : decode cM_rounded 137 = .ok (.iload 4, 2) := by decide +kernel
theorem dM_rounded_139 : decode cM_rounded 139 = .ok (.if_icmp .gt 23, 3) := by decide +kernel
theorem dM_rounded_142 : decode cM_rounded 142 = .ok (.aload_n 0, 1) := by decide +kernel
theorem dM_rounded_143 : decode cM_rounded 143 = .ok (.getfield 7, 3) := by decide +kernel
theorem dM_rounded_146 : decode cM_rounded 146 = .ok (.iload 11, 2) := by decide +kernel
theorem dM_rounded_148 : decode cM_rounded 148 = .ok (.iaload, 1) := by decide +kernel
theorem dM_rounded_149 : decode cM_rounded 149 = .ok (.iconst 1, 1) := by decide +kernel
theorem dM_rounded_150 : decode cM_rounded 150 = .ok (.if_icmp .ne 6, 3) := by decide +kernel
theorem dM_rounded_153 : decode cM_rounded 153 = .ok (.iconst 1, 1) := by decide +kernel
theorem dM_rounded_154 : decode cM_rounded 154 = .ok (.istore 10, 2) := by decide +kernel
theorem dM_rounded_156 : decode cM_rounded 156 = .ok (.iinc 11 1, 3) := by decide +kernel
theorem dM_rounded_159 : decode cM_rounded 159 = .ok (.goto (-33), 3) := by decide +kernel
theorem dM_rounded_162 : decode cM_rounded 162 = .ok (.iload 9, 2) := by decide +kernel
theorem dM_rounded_164 : decode cM_rounded 164 = .ok (.ifCond .ne 12, 3) := by decide +kernel
theorem dM_rounded_167 : decode cM_rounded 167 = .ok (.iload 10, 2) := by decide +kernel
theorem dM_rounded_169 : decode cM_rounded 169 = .ok (.ifCond .ne 7, 3) := by decide +kernel
theorem dM_rounded_172 : decode cM_rounded 172 = .ok (.iconst 1, 1) := by decide +kernel
theorem dM_rounded_173 : decode cM_rounded 173 = .ok (.goto 4, 3) := by decide +kernel
theorem dM_rounded_176 : decode cM_rounded 176 = .ok (.iconst 0, 1) := by decide +kernel
theorem dM_rounded_177 : decode cM_rounded 177 = .ok (.istore 11, 2) := by decide +kernel
theorem dM_rounded_179 : decode cM_rounded 179 = .ok (.iconst 0, 1) := by decide +kernel
theorem dM_rounded_180 : decode cM_rounded 180 = .ok (.istore 12, 2) := by decide +kernel
theorem dM_rounded_182 : decode cM_rounded 182 = .ok (.aload_n 0, 1) := by decide +kernel
theorem dM_rounded_183 : decode cM_rounded 183 = .ok (.getfield 76, 3) := by decide +kernel
theorem dM_rounded_186 : decode cM_rounded 186 = .ok (.ifCond .ne 30, 3) := by decide +kernel
theorem dM_rounded_189 : decode cM_rounded 189 = .ok (.iload 9, 2) := by decide +kernel
theorem dM_rounded_191 : decode cM_rounded 191 = .ok (.iconst 1, 1) := by decide +kernel
theorem dM_rounded_192 : decode cM_rounded 192 = .ok (.if_icmp .ne 21, 3) := by decide +kernel
theorem dM_rounded_195 : decode cM_rounded 195 = .ok (.iload 10, 2) := by decide +kernel
theorem dM_rounded_197 : decode cM_rounded 197 = .ok (.ifCond .ne 12, 3) := by decide +kernel
theorem dM_rounded_200 : decode cM_rounded 200 = .ok (.lload 7, 2) := by decide +kernel
theorem dM_rounded_202 : decode cM_rounded 202 = .ok (.lconst 1, 1) := by decide +kernel
theorem dM_rounded_203 : decode cM_rounded 203 = .ok (.land, 1) := by decide +kernel
theorem dM_rounded_204 : decode cM_rounded 204 = .ok (.lconst 1, 1) := by decide +kernel
theorem dM_rounded_205 : decode cM_rounded 205 = .ok (.lcmp, 1) := by decide +kernel
theorem dM_rounded_206 : decode cM_rounded 206 = .ok (.ifCond .ne 7, 3) := by decide +kernel
theorem dM_rounded_209 : decode cM_rounded 209 = .ok (.iconst 1, 1) := by decide +kernel
theorem dM_rounded_210 : decode cM_rounded 210 = .ok (.goto 4, 3) := by decide +kernel
theorem dM_rounded_213 : decode cM_rounded 213 = .ok (.iconst 0, 1) := by decide +kernel
theorem dM_rounded_214 : decode cM_rounded 214 = .ok (.istore 12, 2) := by decide +kernel
theorem dM_rounded_216 : decode cM_rounded 216 = .ok (.aload_n 0, 1) := by decide +kernel
theorem dM_rounded_217 : decode cM_rounded 217 = .ok (.getfield 76, 3) := by decide +kernel
theorem dM_rounded_220 : decode cM_rounded 220 = .ok (.iconst 2, 1) := by decide +kernel
theorem dM_rounded_221 : decode cM_rounded 221 = .ok (.if_icmp .ne 19, 3) := by decide +kernel
theorem dM_rounded_224 : decode cM_rounded 224 = .ok (.iload 11, 2) := by decide +kernel
theorem dM_rounded_226 : decode cM_rounded 226 = .ok (.ifCond .ne 11, 3) := by decide +kernel
theorem dM_rounded_229 : decode cM_rounded 229 = .ok (.iload_n 1, 1) := by decide +kernel
theorem dM_rounded_230 : decode cM_rounded 230 = .ok (.ifCond .ne 7, 3) := by decide +kernel
theorem dM_rounded_233 : decode cM_rounded 233 = .ok (.iconst 1, 1) := by decide +kernel
theorem dM_rounded_234 : decode cM_rounded 234 = .ok (.goto 4, 3) := by decide +kernel
theorem dM_rounded_237 : decode cM_rounded 237 = .ok (.iconst 0, 1) := by decide +kernel
theorem dM_rounded_238 : decode cM_rounded 238 = .ok (.istore 12, 2) := by decide +kernel
theorem dM_rounded_240 : decode cM_rounded 240 = .ok (.aload_n 0, 1) := by decide +kernel
theorem dM_rounded_241 : decode cM_rounded 241 = .ok (.getfield 76, 3) := by decide +kernel
theorem dM_rounded_244 : decode cM_rounded 244 = .ok (.iconst 3, 1) := by decide +kernel
theorem dM_rounded_245 : decode cM_rounded 245 = .ok (.if_icmp .ne 20, 3) := by decide +kernel
theorem dM_rounded_248 : decode cM_rounded 248 = .ok (.iload 11, 2) := by decide +kernel
theorem dM_rounded_250 : decode cM_rounded 250 = .ok (.ifCond .ne 12, 3) := by decide +kernel
theorem dM_rounded_253 : decode cM_rounded 253 = .ok (.iload_n 1, 1) := by decide +kernel
theorem dM_rounded_254 : decode cM_rounded 254 = .ok (.iconst 1, 1) := by decide +kernel
theorem dM_rounded_255 : decode cM_rounded 255 = .ok (.if_icmp .ne 7, 3) := by decide +kernel
theorem dM_rounded_258 : decode cM_rounded 258 = .ok (.iconst 1, 1) := by decide +kernel
theorem dM_rounded_259 : decode cM_rounded 259 = .ok (.goto 4, 3) := by decide +kernel
theorem dM_rounded_262 : decode cM_rounded 262 = .ok (.iconst 0, 1) := by decide +kernel
theorem dM_rounded_263 : decode cM_rounded 263 = .ok (.istore 12, 2) := by decide +kernel
theorem dM_rounded_265 : decode cM_rounded 265 = .ok (.iload 12, 2) := by decide +kernel
theorem dM_rounded_267 : decode cM_rounded 267 = .ok (.ifCond .eq 9, 3) := by decide +kernel
theorem dM_rounded_270 : decode cM_rounded 270 = .ok (.lload 7, 2) := by decide +kernel
theorem dM_rounded_272 : decode cM_rounded 272 = .ok (.lconst 1, 1) := by decide +kernel
theorem dM_rounded_273 : decode cM_rounded 273 = .ok (.ladd, 1) := by decide +kernel
theorem dM_rounded_274 : decode cM_rounded 274 = .ok (.lstore 7, 2) := by decide +kernel
theorem dM_rounded_276 : decode cM_rounded 276 = .ok (.iload 6, 2) := by decide +kernel
theorem dM_rounded_278 : decode cM_rounded 278 = .ok (.iload_n 2, 1) := by decide +kernel
theorem dM_rounded_279 : decode cM_rounded 279 = .ok (.iadd, 1) := by decide +kernel
theorem dM_rounded_280 : decode cM_rounded 280 = .ok (.istore 13, 2) := by decide +kernel
theorem dM_rounded_282 : decode cM_rounded 282 = .ok (.lload 7, 2) := by decide +kernel
theorem dM_rounded_284 : decode cM_rounded 284 = .ok (.lconst 1, 1) := by decide +kernel
theorem dM_rounded_285 : decode cM_rounded 285 = .ok (.aload_n 0, 1) := by decide +kernel
theorem dM_rounded_286 : decode cM_rounded 286 = .ok (.getfield 24, 3) := by decide +kernel
theorem dM_rounded_289 : decode cM_rounded 289 = .ok (.lshl, 1) := by decide +kernel
theorem dM_rounded_290 : decode cM_rounded 290 = .ok (.lcmp, 1) := by decide +kernel
theorem dM_rounded_291 : decode cM_rounded 291 = .ok (.ifCond .ne 12, 3) := by decide +kernel
theorem dM_rounded_294 : decode cM_rounded 294 = .ok (.lload 7, 2) := by decide +kernel
theorem dM_rounded_296 : decode cM_rounded 296 = .ok (.iconst 1, 1) := by decide +kernel
theorem dM_rounded_297 : decode cM_rounded 297 = .ok (.lshr, 1) := by decide +kernel
theorem dM_rounded_298 : decode cM_rounded 298 = .ok (.lstore 7, 2) := by decide +kernel
theorem dM_rounded_300 : decode cM_rounded 300 = .ok (.iinc 13 1, 3) := by decide +kernel
theorem dM_rounded_303 : decode cM_rounded 303 = .ok (.lload 7, 2) := by decide +kernel
theorem dM_rounded_305 : decode cM_rounded 305 = .ok (.lconst 1, 1) := by decide +kernel
theorem dM_rounded_306 : decode cM_rounded 306 = .ok (.aload_n 0, 1) := by decide +kernel
theorem dM_rounded_307 : decode cM_rounded 307 = .ok (.getfield 24, 3) := by decide +kernel
theorem dM_rounded_310 : decode cM_rounded 310 = .ok (.iconst 1, 1) := by decide +kernel
theorem dM_rounded_311 : decode cM_rounded 311 = .ok (.isub, 1) := by decide +kernel
theorem dM_rounded_312 : decode cM_rounded 312 = .ok (.lshl, 1) := by decide +kernel
theorem dM_rounded_313 : decode cM_rounded 313 = .ok (.lcmp, 1) := by decide +kernel
theorem dM_rounded_314 : decode cM_rounded 314 = .ok (.ifCond .lt 7, 3) := by decide +kernel
theorem dM_rounded_317 : decode cM_rounded 317 = .ok (.iconst 1, 1) := by decide +kernel
theorem dM_rounded_318 : decode cM_rounded 318 = .ok (.goto 4, 3) := by decide +kernel
theorem dM_rounded_321 : decode cM_rounded 321 = .ok (.iconst 0, 1) := by decide +kernel
theorem dM_rounded_322 : decode cM_rounded 322 = .ok (.istore 14, 2) := by decide +kernel
theorem dM_rounded_324 : decode cM_rounded 324 = .ok (.iload 14, 2) := by decide +kernel
theorem dM_rounded_326 : decode cM_rounded 326 = .ok (.ifCond .eq 105, 3) := by decide +kernel
theorem dM_rounded_329 : decode cM_rounded 329 = .ok (.iload 13, 2) := by decide +kernel
theorem dM_rounded_331 : decode cM_rounded 331 = .ok (.aload_n 0, 1) := by decide +kernel
theorem dM_rounded_332 : decode cM_rounded 332 = .ok (.getfield 24, 3) := by decide +kernel
theorem dM_rounded_335 : decode cM_rounded 335 = .ok (.iadd, 1) := by decide +kernel
theorem dM_rounded_336 : decode cM_rounded 336 = .ok (.iconst 1, 1) := by decide +kernel
theorem dM_rounded_337 : decode cM_rounded 337 = .ok (.isub, 1) := by decide +kernel
theorem dM_rounded_338 : decode cM_rounded 338 = .ok (.aload_n 0, 1) := by decide +kernel
theorem dM_rounded_339 : decode cM_rounded 339 = .ok (.getfield 27, 3) := by decide +kernel
theorem dM_rounded_342 : decode cM_rounded 342 = .ok (.if_icmp .le 89, 3) := by decide +kernel
theorem dM_rounded_345 : decode cM_rounded 345 = .ok (.aload_n 0, 1) := by decide +kernel
theorem dM_rounded_346 : decode cM_rounded 346 = .ok (.dup, 1) := by decide +kernel
theorem dM_rounded_347 : decode cM_rounded 347 = .ok (.getfield 63, 3) := by decide +kernel
theorem dM_rounded_350 : decode cM_rounded 350 = .ok (.iconst 5, 1) := by decide +kernel
theorem dM_rounded_351 : decode cM_rounded 351 = .ok (.ior, 1) := by decide +kernel
theorem dM_rounded_352 : decode cM_rounded 352 = .ok (.putfield 63, 3) := by decide +kernel
theorem dM_rounded_355 : decode cM_rounded 355 = .ok (.aload_n 0, 1) := by decide +kernel
theorem dM_rounded_356 : decode cM_rounded 356 = .ok (.getfield 76, 3) := by decide +kernel
theorem dM_rounded_359 : decode cM_rounded 359 = .ok (.iconst 1, 1) := by decide +kernel
theorem dM_rounded_360 : decode cM_rounded 360 = .ok (.if_icmp .eq 28, 3) := by decide +kernel
theorem dM_rounded_363 : decode cM_rounded 363 = .ok (.aload_n 0, 1) := by decide +kernel
theorem dM_rounded_364 : decode cM_rounded 364 = .ok (.getfield 76, 3) := by decide +kernel
theorem dM_rounded_367 : decode cM_rounded 367 = .ok (.iconst 2, 1) := by decide +kernel
theorem dM_rounded_368 : decode cM_rounded 368 = .ok (.if_icmp .ne 8, 3) := by decide +kernel
theorem dM_rounded_371 : decode cM_rounded 371 = .ok (.iload_n 1, 1) := by decide +kernel
theorem dM_rounded_372 : decode cM_rounded 372 = .ok (.iconst 1, 1) := by decide +kernel
theorem dM_rounded_373 : decode cM_rounded 373 = .ok (.if_icmp .eq 15, 3) := by decide +kernel
theorem dM_rounded_376 : decode cM_rounded 376 = .ok (.aload_n 0, 1) := by decide +kernel
theorem dM_rounded_377 : decode cM_rounded 377 = .ok (.getfield 76, 3) := by decide +kernel
theorem dM_rounded_380 : decode cM_rounded 380 = .ok (.iconst 3, 1) := by decide +kernel
theorem dM_rounded_381 : decode cM_rounded 381 = .ok (.if_icmp .ne 11, 3) := by decide +kernel
theorem dM_rounded_384 : decode cM_rounded 384 = .ok (.iload_n 1, 1) := by decide +kernel
theorem dM_rounded_385 : decode cM_rounded 385 = .ok (.ifCond .ne 7, 3) := by decide +kernel
theorem dM_rounded_388 : decode cM_rounded 388 = .ok (.iconst 1, 1) := by decide +kernel
theorem dM_rounded_389 : decode cM_rounded 389 = .ok (.goto 4, 3) := by decide +kernel
theorem dM_rounded_392 : decode cM_rounded 392 = .ok (.iconst 0, 1) := by decide +kernel
theorem dM_rounded_393 : decode cM_rounded 393 = .ok (.istore 15, 2) := by decide +kernel
theorem dM_rounded_395 : decode cM_rounded 395 = .ok (.iload 15, 2) := by decide +kernel
theorem dM_rounded_397 : decode cM_rounded 397 = .ok (.ifCond .eq 28, 3) := by decide +kernel
theorem dM_rounded_400 : decode cM_rounded 400 = .ok (.aload_n 0, 1) := by decide +kernel
theorem dM_rounded_401 : decode cM_rounded 401 = .ok (.iload_n 1, 1) := by decide +kernel
theorem dM_rounded_402 : decode cM_rounded 402 = .ok (.iconst 2, 1) := by decide +kernel
theorem dM_rounded_403 : decode cM_rounded 403 = .ok (.aload_n 0, 1) := by decide +kernel
theorem dM_rounded_404 : decode cM_rounded 404 = .ok (.getfield 27, 3) := by decide +kernel
theorem dM_rounded_407 : decode cM_rounded 407 = .ok (.imul, 1) := by decide +kernel
theorem dM_rounded_408 : decode cM_rounded 408 = .ok (.i2l, 1) := by decide +kernel
theorem dM_rounded_409 : decode cM_rounded 409 = .ok (.lconst 1, 1) := by decide +kernel
theorem dM_rounded_410 : decode cM_rounded 410 = .ok (.aload_n 0, 1) := by decide +kernel
theorem dM_rounded_411 : decode cM_rounded 411 = .ok (.getfield 24, 3) := by decide +kernel
theorem dM_rounded_414 : decode cM_rounded 414 = .ok (.iconst 1, 1) := by decide +kernel
theorem dM_rounded_415 : decode cM_rounded 415 = .ok (.isub, 1) := by decide +kernel
theorem dM_rounded_416 : decode cM_rounded 416 = .ok (.lshl, 1) := by decide +kernel
theorem dM_rounded_417 : decode cM_rounded 417 = .ok (.lconst 1, 1) := by decide +kernel
theorem dM_rounded_418 : decode cM_rounded 418 = .ok (.lsub, 1) := by decide +kernel
theorem dM_rounded_419 : decode cM_rounded 419 = .ok (.invokevirtual 59, 3) := by decide +kernel
theorem dM_rounded_422 : decode cM_rounded 422 = .ok (.goto 8, 3) := by decide +kernel
theorem dM_rounded_425 : decode cM_rounded 425 = .ok (.aload_n 0, 1) := by decide +kernel
theorem dM_rounded_426 : decode cM_rounded 426 = .ok (.iload_n 1, 1) := by decide +kernel
theorem dM_rounded_427 : decode cM_rounded 427 = .ok (.invokevirtual 79, 3) := by decide +kernel
theorem dM_rounded_430 : decode cM_rounded 430 = .ok (.lreturn, 1) := by decide +kernel
theorem dM_rounded_431 : decode cM_rounded 431 = .ok (.iload 11, 2) := by decide +kernel
theorem dM_rounded_433 : decode cM_rounded 433 = .ok (.ifCond .ne 22, 3) := by decide +kernel
theorem dM_rounded_436 : decode cM_rounded 436 = .ok (.aload_n 0, 1) := by decide +kernel
theorem dM_rounded_437 : decode cM_rounded 437 = .ok (.dup, 1) := by decide +kernel
theorem dM_rounded_438 : decode cM_rounded 438 = .ok (.getfield 63, 3) := by decide +kernel
theorem dM_rounded_441 : decode cM_rounded 441 = .ok (.iload 14, 2) := by decide +kernel
theorem dM_rounded_443 : decode cM_rounded 443 = .ok (.ifCond .eq 7, 3) := by decide +kernel
theorem dM_rounded_446 : decode cM_rounded 446 = .ok (.iconst 1, 1) := by decide +kernel
theorem dM_rounded_447 : decode cM_rounded 447 = .ok (.goto 4, 3) := by decide +kernel
theorem dM_rounded_450 : decode cM_rounded 450 = .ok (.iconst 3, 1) := by decide +kernel
theorem dM_rounded_451 : decode cM_rounded 451 = .ok (.ior, 1) := by decide +kernel
theorem dM_rounded_452 : decode cM_rounded 452 = .ok (.putfield 63, 3) := by decide +kernel
theorem dM_rounded_455 : decode cM_rounded 455 = .ok (.iload 14, 2) := by decide +kernel
theorem dM_rounded_457 : decode cM_rounded 457 = .ok (.ifCond .eq 37, 3) := by decide +kernel
theorem dM_rounded_460 : decode cM_rounded 460 = .ok (.aload_n 0, 1) := by decide +kernel
theorem dM_rounded_461 : decode cM_rounded 461 = .ok (.iload_n 1, 1) := by decide +kernel
theorem dM_rounded_462 : decode cM_rounded 462 = .ok (.iload 13, 2) := by decide +kernel
theorem dM_rounded_464 : decode cM_rounded 464 = .ok (.aload_n 0, 1) := by decide +kernel
theorem dM_rounded_465 : decode cM_rounded 465 = .ok (.getfield 24, 3) := by decide +kernel
theorem dM_rounded_468 : decode cM_rounded 468 = .ok (.iadd, 1) := by decide +kernel
theorem dM_rounded_469 : decode cM_rounded 469 = .ok (.iconst 1, 1) := by decide +kernel
theorem dM_rounded_470 : decode cM_rounded 470 = .ok (.isub, 1) := by decide +kernel
theorem dM_rounded_471 : decode cM_rounded 471 = .ok (.aload_n 0, 1) := by decide +kernel
theorem dM_rounded_472 : decode cM_rounded 472 = .ok (.getfield 27, 3) := by decide +kernel
theorem dM_rounded_475 : decode cM_rounded 475 = .ok (.iadd, 1) := by decide +kernel
theorem dM_rounded_476 : decode cM_rounded 476 = .ok (.i2l, 1) := by decide +kernel
theorem dM_rounded_477 : decode cM_rounded 477 = .ok (.lload 7, 2) := by decide +kernel
theorem dM_rounded_479 : decode cM_rounded 479 = .ok (.lconst 1, 1) := by decide +kernel
theorem dM_rounded_480 : decode cM_rounded 480 = .ok (.aload_n 0, 1) := by decide +kernel
theorem dM_rounded_481 : decode cM_rounded 481 = .ok (.getfield 24, 3) := by decide +kernel
theorem dM_rounded_484 : decode cM_rounded 484 = .ok (.iconst 1, 1) := by decide +kernel
theorem dM_rounded_485 : decode cM_rounded 485 = .ok (.isub, 1) := by decide +kernel
theorem dM_rounded_486 : decode cM_rounded 486 = .ok (.lshl, 1) := by decide +kernel
theorem dM_rounded_487 : decode cM_rounded 487 = .ok (.lsub, 1) := by decide +kernel
theorem dM_rounded_488 : decode cM_rounded 488 = .ok (.invokevirtual 59, 3) := by decide +kernel
theorem dM_rounded_491 : decode cM_rounded 491 = .ok (.goto 11, 3) := by decide +kernel
theorem dM_rounded_494 : decode cM_rounded 494 = .ok (.aload_n 0, 1) := by decide +kernel
theorem dM_rounded_495 : decode cM_rounded 495 = .ok (.iload_n 1, 1) := by decide +kernel
theorem dM_rounded_496 : decode cM_rounded 496 = .ok (.lconst 0, 1) := by decide +kernel
theorem dM_rounded_497 : decode cM_rounded 497 = .ok (.lload 7, 2) := by decide +kernel
theorem dM_rounded_499 : decode cM_rounded 499 = .ok (.invokevirtual 59, 3) := by decide +kernel
theorem dM_rounded_502 : decode cM_rounded 502 = .ok (.lreturn, 1) := by decide +kernel
theorem dM_highest_0 : decode cM_highest 0 = .ok (.aload_n 0, 1) := by decide +kernel
theorem dM_highest_1 : decode cM_highest 1 = .ok (.getfield 7, 3) := by decide +kernel
theorem dM_highest_4 : decode cM_highest 4 = .ok (.arraylength, 1) := by decide +kernel
theorem dM_highest_5 : decode cM_highest 5 = .ok (.iconst 1, 1) := by decide +kernel
theorem dM_highest_6 : decode cM_highest 6 = .ok (.isub, 1) := by decide +kernel
theorem dM_highest_7 : decode cM_highest 7 = .ok (.istore_n 1, 1) := by decide +kernel
theorem dM_highest_8 : decode cM_highest 8 = .ok (.iload_n 1, 1) := by decide +kernel
theorem dM_highest_9 : decode cM_highest 9 = .ok (.ifCond .lt 18, 3) := by decide +kernel
theorem dM_highest_12 : decode cM_highest 12 = .ok (.aload_n 0, 1) := by decide +kernel
theorem dM_highest_13 : decode cM_highest 13 = .ok (.getfield 7, 3) := by decide +kernel
theorem dM_highest_16 : decode cM_highest 16 = .ok (.iload_n 1, 1) := by decide +kernel
theorem dM_highest_17 : decode cM_highest 17 = .ok (.iaload, 1) := by decide +kernel
theorem dM_highest_18 : decode cM_highest 18 = .ok (.ifCond .ne 9, 3) := by decide +kernel
theorem dM_highest_21 : decode cM_highest 21 = .ok (.iinc 1 (-1), 3) := by decide +kernel
theorem dM_highest_24 : decode cM_highest 24 = .ok (.goto (-16), 3) := by decide +kernel
theorem dM_highest_27 : decode cM_highest 27 = .ok (.iload_n 1, 1) := by decide +kernel
theorem dM_highest_28 : decode cM_highest 28 = .ok (.ireturn, 1) := by decide +kernel
theorem dM_product_0 : decode cM_product 0 = .ok (.aload_n 0, 1) := by decide +kernel
theorem dM_product_1 : decode cM_product 1 = .ok (.getfield 30, 3) := by decide +kernel
theorem dM_product_4 : decode cM_product 4 = .ok (.aload_n 0, 1) := by decide +kernel
theorem dM_product_5 : decode cM_product 5 = .ok (.getfield 50, 3) := by decide +kernel
theorem dM_product_8 : decode cM_product 8 = .ok (.ixor, 1) := by decide +kernel
theorem dM_product_9 : decode cM_product 9 = .ok (.istore_n 1, 1) := by decide +kernel
theorem dM_product_10 : decode cM_product 10 = .ok (.aload_n 0, 1) := by decide +kernel
theorem dM_product_11 : decode cM_product 11 = .ok (.getfield 33, 3) := by decide +kernel
theorem dM_product_14 : decode cM_product 14 = .ok (.iconst 1, 1) := by decide +kernel
theorem dM_product_15 : decode cM_product 15 = .ok (.if_icmp .eq 11, 3) := by decide +kernel
theorem dM_product_18 : decode cM_product 18 = .ok (.aload_n 0, 1) := by decide +kernel
theorem dM_product_19 : decode cM_product 19 = .ok (.getfield 47, 3) := by decide +kernel
theorem dM_product_22 : decode cM_product 22 = .ok (.iconst 1, 1) := by decide +kernel
theorem dM_product_23 : decode cM_product 23 = .ok (.if_icmp .ne 50, 3) := by decide +kernel
theorem dM_product_26 : decode cM_product 26 = .ok (.aload_n 0, 1) := by decide +kernel
theorem dM_product_27 : decode cM_product 27 = .ok (.getfield 33, 3) := by decide +kernel
theorem dM_product_30 : decode cM_product 30 = .ok (.iconst 2, 1) := by decide +kernel
theorem dM_product_31 : decode cM_product 31 = .ok (.if_icmp .ne 12, 3) := by decide +kernel
theorem dM_product_34 : decode cM_product 34 = .ok (.aload_n 0, 1) := by decide +kernel
theorem dM_product_35 : decode cM_product 35 = .ok (.getfield 36, 3) := by decide +kernel
theorem dM_product_38 : decode cM_product 38 = .ok (.lconst 0, 1) := by decide +kernel
theorem dM_product_39 : decode cM_product 39 = .ok (.lcmp, 1) := by decide +kernel
theorem dM_product_40 : decode cM_product 40 = .ok (.ifCond .eq 20, 3) := by decide +kernel
theorem dM_product_43 : decode cM_product 43 = .ok (.aload_n 0, 1) := by decide +kernel
theorem dM_product_44 : decode cM_product 44 = .ok (.getfield 47, 3) := by decide +kernel
theorem dM_product_47 : decode cM_product 47 = .ok (.iconst 2, 1) := by decide +kernel
theorem dM_product_48 : decode cM_product 48 = .ok (.if_icmp .ne 19, 3) := by decide +kernel
theorem dM_product_51 : decode cM_product 51 = .ok (.aload_n 0, 1) := by decide +kernel
theorem dM_product_52 : decode cM_product 52 = .ok (.getfield 53, 3) := by decide +kernel
theorem dM_product_55 : decode cM_product 55 = .ok (.lconst 0, 1) := by decide +kernel
theorem dM_product_56 : decode cM_product 56 = .ok (.lcmp, 1) := by decide +kernel
theorem dM_product_57 : decode cM_product 57 = .ok (.ifCond .ne 10, 3) := by decide +kernel
theorem dM_product_60 : decode cM_product 60 = .ok (.aload_n 0, 1) := by decide +kernel
theorem dM_product_61 : decode cM_product 61 = .ok (.invokevirtual 111, 3) := by decide +kernel
theorem dM_product_64 : decode cM_product 64 = .ok (.goto 8, 3) := by decide +kernel
theorem dM_product_67 : decode cM_product 67 = .ok (.aload_n 0, 1) := by decide +kernel
theorem dM_product_68 : decode cM_product 68 = .ok (.iload_n 1, 1) := by decide +kernel
theorem dM_product_69 : decode cM_product 69 = .ok (.invokevirtual 79, 3) := by decide +kernel
theorem dM_product_72 : decode cM_product 72 = .ok (.lreturn, 1) := by decide +kernel
theorem dM_product_73 : decode cM_product 73 = .ok (.aload_n 0, 1) := by decide +kernel
theorem dM_product_74 : decode cM_product 74 = .ok (.getfield 36, 3) := by decide +kernel
theorem dM_product_77 : decode cM_product 77 = .ok (.lconst 0, 1) := by decide +kernel
theorem dM_product_78 : decode cM_product 78 = .ok (.lcmp, 1) := by decide +kernel
theorem dM_product_79 : decode cM_product 79 = .ok (.ifCond .eq 12, 3) := by decide +kernel
theorem dM_product_82 : decode cM_product 82 = .ok (.aload_n 0, 1) := by decide +kernel
theorem dM_product_83 : decode cM_product 83 = .ok (.getfield 53, 3) := by decide +kernel
theorem dM_product_86 : decode cM_product 86 = .ok (.lconst 0, 1) := by decide +kernel
theorem dM_product_87 : decode cM_product 87 = .ok (.lcmp, 1) := by decide +kernel
theorem dM_product_88 : decode cM_product 88 = .ok (.ifCond .ne 11, 3) := by decide +kernel
theorem dM_product_91 : decode cM_product 91 = .ok (.aload_n 0, 1) := by decide +kernel
theorem dM_product_92 : decode cM_product 92 = .ok (.iload_n 1, 1) := by decide +kernel
theorem dM_product_93 : decode cM_product 93 = .ok (.lconst 0, 1) := by decide +kernel
theorem dM_product_94 : decode cM_product 94 = .ok (.lconst 0, 1) := by decide +kernel
theorem dM_product_95 : decode cM_product 95 = .ok (.invokevirtual 59, 3) := by decide +kernel
theorem dM_product_98 : decode cM_product 98 = .ok (.lreturn, 1) := by decide +kernel
theorem dM_product_99 : decode cM_product 99 = .ok (.aload_n 0, 1) := by decide +kernel
theorem dM_product_100 : decode cM_product 100 = .ok (.invokevirtual 114, 3) := by decide +kernel
theorem dM_product_103 : decode cM_product 103 = .ok (.iconst 0, 1) := by decide +kernel
theorem dM_product_104 : decode cM_product 104 = .ok (.istore_n 2, 1) := by decide +kernel
theorem dM_product_105 : decode cM_product 105 = .ok (.iload_n 2, 1) := by decide +kernel
theorem dM_product_106 : decode cM_product 106 = .ok (.bipush 53, 2) := by decide +kernel
theorem dM_product_108 : decode cM_product 108 = .ok (.if_icmp .ge 82, 3) := by decide +kernel
theorem dM_product_111 : decode cM_product 111 = .ok (.aload_n 0, 1) := by decide +kernel
theorem dM_product_112 : decode cM_product 112 = .ok (.getfield 53, 3) := by decide +kernel
theorem dM_product_115 : decode cM_product 115 = .ok (.iload_n 2, 1) := by decide +kernel
theorem dM_product_116 : decode cM_product 116 = .ok (.lshr, 1) := by decide +kernel
theorem dM_product_117 : decode cM_product 117 = .ok (.lconst 1, 1) := by decide +kernel
theorem dM_product_118 : decode cM_product 118 = .ok (.land, 1) := by decide +kernel
theorem dM_product_119 : decode cM_product 119 = .ok (.lconst 1, 1) := by decide +kernel
theorem dM_product_120 : decode cM_product 120 = .ok (.lcmp, 1) := by decide +kernel
theorem dM_product_121 : decode cM_product 121 = .ok (.ifCond .ne 63, 3) := by decide +kernel
theorem dM_product_124 : decode cM_product 124 = .ok (.iconst 0, 1) := by decide +kernel
theorem dM_product_125 : decode cM_product 125 = .ok (.istore_n 3, 1) := by decide +kernel
theorem dM_product_126 : decode cM_product 126 = .ok (.iconst 0, 1) := by decide +kernel
theorem dM_product_127 : decode cM_product 127 = .ok (.istore 4, 2) := by decide +kernel
theorem dM_product_129 : decode cM_product 129 = .ok (.iload 4, 2) := by decide +kernel
theorem dM_product_131 : decode cM_product 131 = .ok (.bipush 64, 2) := by decide +kernel
theorem dM_product_133 : decode cM_product 133 = .ok (.if_icmp .ge 51, 3) := by decide +kernel
theorem dM_product_136 : decode cM_product 136 = .ok (.aload_n 0, 1) := by decide +kernel
theorem dM_product_137 : decode cM_product 137 = .ok (.getfield 7, 3) := by decide +kernel
theorem dM_product_140 : decode cM_product 140 = .ok (.iload_n 2, 1) := by decide +kernel
theorem dM_product_141 : decode cM_product 141 = .ok (.iload 4, 2) := by decide +kernel
theorem dM_product_143 : decode cM_product 143 = .ok (.iadd, 1) := by decide +kernel
theorem dM_product_144 : decode cM_product 144 = .ok (.iaload, 1) := by decide +kernel
theorem dM_product_145 : decode cM_product 145 = .ok (.aload_n 0, 1) := by decide +kernel
theorem dM_product_146 : decode cM_product 146 = .ok (.getfield 36, 3) := by decide +kernel
theorem dM_product_149 : decode cM_product 149 = .ok (.iload 4, 2) := by decide +kernel
theorem dM_product_151 : decode cM_product 151 = .ok (.lshr, 1) := by decide +kernel
theorem dM_product_152 : decode cM_product 152 = .ok (.lconst 1, 1) := by decide +kernel
theorem dM_product_153 : decode cM_product 153 = .ok (.land, 1) := by decide +kernel
theorem dM_product_154 : decode cM_product 154 = .ok (.l2i, 1) := by decide +kernel
theorem dM_product_155 : decode cM_product 155 = .ok (.iadd, 1) := by decide +kernel
theorem dM_product_156 : decode cM_product 156 = .ok (.iload_n 3, 1) := by decide +kernel
theorem dM_product_157 : decode cM_product 157 = .ok (.iadd, 1) := by decide +kernel
theorem dM_product_158 : decode cM_product 158 = .ok (.istore 5, 2) := by decide +kernel
theorem dM_product_160 : decode cM_product 160 = .ok (.aload_n 0, 1) := by decide +kernel
theorem dM_product_161 : decode cM_product 161 = .ok (.getfield 7, 3) := by decide +kernel
theorem dM_product_164 : decode cM_product 164 = .ok (.iload_n 2, 1) := by decide +kernel
theorem dM_product_165 : decode cM_product 165 = .ok (.iload 4, 2) := by decide +kernel
theorem dM_product_167 : decode cM_product 167 = .ok (.iadd, 1) := by decide +kernel
theorem dM_product_168 : decode cM_product 168 = .ok (.iload 5, 2) := by decide +kernel
theorem dM_product_170 : decode cM_product 170 = .ok (.iconst 1, 1) := by decide +kernel
theorem dM_product_171 : decode cM_product 171 = .ok (.iand, 1) := by decide +kernel
theorem dM_product_172 : decode cM_product 172 = .ok (.iastore, 1) := by decide +kernel
theorem dM_product_173 : decode cM_product 173 = .ok (.iload 5, 2) := by decide +kernel
theorem dM_product_175 : decode cM_product 175 = .ok (.iconst 1, 1) := by decide +kernel
theorem dM_product_176 : decode cM_product 176 = .ok (.ishr, 1) := by decide +kernel
theorem dM_product_177 : decode cM_product 177 = .ok (.istore_n 3, 1) := by decide +kernel
theorem dM_product_178 : decode cM_product 178 = .ok (.iinc 4 1, 3) := by decide +kernel
theorem dM_product_181 : decode cM_product 181 = .ok (.goto (-52), 3) := by decide +kernel
theorem dM_product_184 : decode cM_product 184 = .ok (.iinc 2 1, 3) := by decide +kernel
theorem dM_product_187 : decode cM_product 187 = .ok (.goto (-82), 3) := by decide +kernel
theorem dM_product_190 : decode cM_product 190 = .ok (.aload_n 0, 1) := by decide +kernel
theorem dM_product_191 : decode cM_product 191 = .ok (.iload_n 1, 1) := by decide +kernel
theorem dM_product_192 : decode cM_product 192 = .ok (.aload_n 0, 1) := by decide +kernel
theorem dM_product_193 : decode cM_product 193 = .ok (.getfield 40, 3) := by decide +kernel
theorem dM_product_196 : decode cM_product 196 = .ok (.aload_n 0, 1) := by decide +kernel
theorem dM_product_197 : decode cM_product 197 = .ok (.getfield 56, 3) := by decide +kernel
theorem dM_product_200 : decode cM_product 200 = .ok (.iadd, 1) := by decide +kernel
theorem dM_product_201 : decode cM_product 201 = .ok (.iconst 0, 1) := by decide +kernel
theorem dM_product_202 : decode cM_product 202 = .ok (.invokevirtual 121, 3) := by decide +kernel
theorem dM_product_205 : decode cM_product 205 = .ok (.lreturn, 1) := by decide +kernel
theorem dM_quotient_0 : decode cM_quotient 0 = .ok (.aload_n 0, 1) := by decide +kernel
theorem dM_quotient_1 : decode cM_quotient 1 = .ok (.getfield 30, 3) := by decide +kernel
theorem dM_quotient_4 : decode cM_quotient 4 = .ok (.aload_n 0, 1) := by decide +kernel
theorem dM_quotient_5 : decode cM_quotient 5 = .ok (.getfield 50, 3) := by decide +kernel
theorem dM_quotient_8 : decode cM_quotient 8 = .ok (.ixor, 1) := by decide +kernel
theorem dM_quotient_9 : decode cM_quotient 9 = .ok (.istore_n 1, 1) := by decide +kernel
theorem dM_quotient_10 : decode cM_quotient 10 = .ok (.aload_n 0, 1) := by decide +kernel
theorem dM_quotient_11 : decode cM_quotient 11 = .ok (.getfield 33, 3) := by decide +kernel
theorem dM_quotient_14 : decode cM_quotient 14 = .ok (.iconst 1, 1) := by decide +kernel
theorem dM_quotient_15 : decode cM_quotient 15 = .ok (.if_icmp .ne 24, 3) := by decide +kernel
theorem dM_quotient_18 : decode cM_quotient 18 = .ok (.aload_n 0, 1) := by decide +kernel
theorem dM_quotient_19 : decode cM_quotient 19 = .ok (.getfield 47, 3) := by decide +kernel
theorem dM_quotient_22 : decode cM_quotient 22 = .ok (.iconst 1, 1) := by decide +kernel
theorem dM_quotient_23 : decode cM_quotient 23 = .ok (.if_icmp .ne 10, 3) := by decide +kernel
theorem dM_quotient_26 : decode cM_quotient 26 = .ok (.aload_n 0, 1) := by decide +kernel
theorem dM_quotient_27 : decode cM_quotient 27 = .ok (.invokevirtual 111, 3) := by decide +kernel
theorem dM_quotient_30 : decode cM_quotient 30 = .ok (.goto 8, 3) := by decide +kernel
theorem dM_quotient_33 : decode cM_quotient 33 = .ok (.aload_n 0, 1) := by decide +kernel
theorem dM_quotient_34 : decode cM_quotient 34 = .ok (.iload_n 1, 1) := by decide +kernel
theorem dM_quotient_35 : decode cM_quotient 35 = .ok (.invokevirtual 79, 3) := by decide +kernel
theorem dM_quotient_38 : decode cM_quotient 38 = .ok (.lreturn, 1) := by decide +kernel
theorem dM_quotient_39 : decode cM_quotient 39 = .ok (.aload_n 0, 1) := by decide +kernel
theorem dM_quotient_40 : decode cM_quotient 40 = .ok (.getfield 47, 3) := by decide +kernel
theorem dM_quotient_43 : decode cM_quotient 43 = .ok (.iconst 1, 1) := by decide +kernel
theorem dM_quotient_44 : decode cM_quotient 44 = .ok (.if_icmp .ne 11, 3) := by decide +kernel
theorem dM_quotient_47 : decode cM_quotient 47 = .ok (.aload_n 0, 1) := by decide +kernel
theorem dM_quotient_48 : decode cM_quotient 48 = .ok (.iload_n 1, 1) := by decide +kernel
theorem dM_quotient_49 : decode cM_quotient 49 = .ok (.lconst 0, 1) := by decide +kernel
theorem dM_quotient_50 : decode cM_quotient 50 = .ok (.lconst 0, 1) := by decide +kernel
theorem dM_quotient_51 : decode cM_quotient 51 = .ok (.invokevirtual 59, 3) := by decide +kernel
theorem dM_quotient_54 : decode cM_quotient 54 = .ok (.lreturn, 1) := by decide +kernel
theorem dM_quotient_55 : decode cM_quotient 55 = .ok (.aload_n 0, 1) := by decide +kernel
theorem dM_quotient_56 : decode cM_quotient 56 = .ok (.getfield 53, 3) := by decide +kernel
theorem dM_quotient_59 : decode cM_quotient 59 = .ok (.lconst 0, 1) := by decide +kernel
theorem dM_quotient_60 : decode cM_quotient 60 = .ok (.lcmp, 1) := by decide +kernel
theorem dM_quotient_61 : decode cM_quotient 61 = .ok (.ifCond .ne 34, 3) := by decide +kernel
theorem dM_quotient_64 : decode cM_quotient 64 = .ok (.aload_n 0, 1) := by decide +kernel
theorem dM_quotient_65 : decode cM_quotient 65 = .ok (.getfield 36, 3) := by decide +kernel
theorem dM_quotient_68 : decode cM_quotient 68 = .ok (.lconst 0, 1) := by decide +kernel
theorem dM_quotient_69 : decode cM_quotient 69 = .ok (.lcmp, 1) := by decide +kernel
theorem dM_quotient_70 : decode cM_quotient 70 = .ok (.ifCond .ne 8, 3) := by decide +kernel
theorem dM_quotient_73 : decode cM_quotient 73 = .ok (.aload_n 0, 1) := by decide +kernel
theorem dM_quotient_74 : decode cM_quotient 74 = .ok (.invokevirtual 111, 3) := by decide +kernel
theorem dM_quotient_77 : decode cM_quotient 77 = .ok (.lreturn, 1) := by decide +kernel
theorem dM_quotient_78 : decode cM_quotient 78 = .ok (.aload_n 0, 1) := by decide +kernel
theorem dM_quotient_79 : decode cM_quotient 79 = .ok (.dup, 1) := by decide +kernel
theorem dM_quotient_80 : decode cM_quotient 80 = .ok (.getfield 63, 3) := by decide +kernel
theorem dM_quotient_83 : decode cM_quotient 83 = .ok (.bipush 8, 2) := by decide +kernel
theorem dM_quotient_85 : decode cM_quotient 85 = .ok (.ior, 1) := by decide +kernel
theorem dM_quotient_86 : decode cM_quotient 86 = .ok (.putfield 63, 3) := by decide +kernel
theorem dM_quotient_89 : decode cM_quotient 89 = .ok (.aload_n 0, 1) := by decide +kernel
theorem dM_quotient_90 : decode cM_quotient 90 = .ok (.iload_n 1, 1) := by decide +kernel
theorem dM_quotient_91 : decode cM_quotient 91 = .ok (.invokevirtual 79, 3) := by decide +kernel
theorem dM_quotient_94 : decode cM_quotient 94 = .ok (.lreturn, 1) := by decide +kernel
theorem dM_quotient_95 : decode cM_quotient 95 = .ok (.aload_n 0, 1) := by decide +kernel
theorem dM_quotient_96 : decode cM_quotient 96 = .ok (.getfield 36, 3) := by decide +kernel
theorem dM_quotient_99 : decode cM_quotient 99 = .ok (.lconst 0, 1) := by decide +kernel
theorem dM_quotient_100 : decode cM_quotient 100 = .ok (.lcmp, 1) := by decide +kernel
theorem dM_quotient_101 : decode cM_quotient 101 = .ok (.ifCond .ne 11, 3) := by decide +kernel
theorem dM_quotient_104 : decode cM_quotient 104 = .ok (.aload_n 0, 1) := by decide +kernel
theorem dM_quotient_105 : decode cM_quotient 105 = .ok (.iload_n 1, 1) := by decide +kernel
theorem dM_quotient_106 : decode cM_quotient 106 = .ok (.lconst 0, 1) := by decide +kernel
theorem dM_quotient_107 : decode cM_quotient 107 = .ok (.lconst 0, 1) := by decide +kernel
theorem dM_quotient_108 : decode cM_quotient 108 = .ok (.invokevirtual 59, 3) := by decide +kernel
theorem dM_quotient_111 : decode cM_quotient 111 = .ok (.lreturn, 1) := by decide +kernel
theorem dM_quotient_112 : decode cM_quotient 112 = .ok (.aload_n 0, 1) := by decide +kernel
theorem dM_quotient_113 : decode cM_quotient 113 = .ok (.invokevirtual 114, 3) := by decide +kernel
theorem dM_quotient_116 : decode cM_quotient 116 = .ok (.lconst 0, 1) := by decide +kernel
theorem dM_quotient_117 : decode cM_quotient 117 = .ok (.lstore_n 2, 1) := by decide +kernel
theorem dM_quotient_118 : decode cM_quotient 118 = .ok (.sipush 172, 3) := by decide +kernel
theorem dM_quotient_121 : decode cM_quotient 121 = .ok (.istore 4, 2) := by decide +kernel
theorem dM_quotient_123 : decode cM_quotient 123 = .ok (.iload 4, 2) := by decide +kernel
theorem dM_quotient_125 : decode cM_quotient 125 = .ok (.ifCond .lt 63, 3) := by decide +kernel
theorem dM_quotient_128 : decode cM_quotient 128 = .ok (.ldc2_w 74, 3) := by decide +kernel
theorem dM_quotient_131 : decode cM_quotient 131 = .ok (.lload_n 2, 1) := by decide +kernel
theorem dM_quotient_132 : decode cM_quotient 132 = .ok (.lmul, 1) := by decide +kernel
theorem dM_quotient_133 : decode cM_quotient 133 = .ok (.iload 4, 2) := by decide +kernel
theorem dM_quotient_135 : decode cM_quotient 135 = .ok (.bipush 120, 2) := by decide +kernel
theorem dM_quotient_137 : decode cM_quotient 137 = .ok (.if_icmp .lt 18, 3) := by decide +kernel
theorem dM_quotient_140 : decode cM_quotient 140 = .ok (.aload_n 0, 1) := by decide +kernel
theorem dM_quotient_141 : decode cM_quotient 141 = .ok (.getfield 36, 3) := by decide +kernel
theorem dM_quotient_144 : decode cM_quotient 144 = .ok (.iload 4, 2) := by decide +kernel
theorem dM_quotient_146 : decode cM_quotient 146 = .ok (.bipush 120, 2) := by decide +kernel
theorem dM_quotient_148 : decode cM_quotient 148 = .ok (.isub, 1) := by decide +kernel
theorem dM_quotient_149 : decode cM_quotient 149 = .ok (.lshr, 1) := by decide +kernel
theorem dM_quotient_150 : decode cM_quotient 150 = .ok (.lconst 1, 1) := by decide +kernel
theorem dM_quotient_151 : decode cM_quotient 151 = .ok (.land, 1) := by decide +kernel
theorem dM_quotient_152 : decode cM_quotient 152 = .ok (.goto 4, 3) := by decide +kernel
theorem dM_quotient_155 : decode cM_quotient 155 = .ok (.lconst 0, 1) := by decide +kernel
theorem dM_quotient_156 : decode cM_quotient 156 = .ok (.ladd, 1) := by decide +kernel
theorem dM_quotient_157 : decode cM_quotient 157 = .ok (.lstore_n 2, 1) := by decide +kernel
theorem dM_quotient_158 : decode cM_quotient 158 = .ok (.lload_n 2, 1) := by decide +kernel
theorem dM_quotient_159 : decode cM_quotient 159 = .ok (.aload_n 0, 1) := by decide +kernel
theorem dM_quotient_160 : decode cM_quotient 160 = .ok (.getfield 53, 3) := by decide +kernel
theorem dM_quotient_163 : decode cM_quotient 163 = .ok (.lcmp, 1) := by decide +kernel
theorem dM_quotient_164 : decode cM_quotient 164 = .ok (.ifCond .lt 18, 3) := by decide +kernel
theorem dM_quotient_167 : decode cM_quotient 167 = .ok (.lload_n 2, 1) := by decide +kernel
theorem dM_quotient_168 : decode cM_quotient 168 = .ok (.aload_n 0, 1) := by decide +kernel
theorem dM_quotient_169 : decode cM_quotient 169 = .ok (.getfield 53, 3) := by decide +kernel
theorem dM_quotient_172 : decode cM_quotient 172 = .ok (.lsub, 1) := by decide +kernel
theorem dM_quotient_173 : decode cM_quotient 173 = .ok (.lstore_n 2, 1) := by decide +kernel
theorem dM_quotient_174 : decode cM_quotient 174 = .ok (.aload_n 0, 1) := by decide +kernel
theorem dM_quotient_175 : decode cM_quotient 175 = .ok (.getfield 7, 3) := by decide +kernel
theorem dM_quotient_178 : decode cM_quotient 178 = .ok (.iload 4, 2) := by decide +kernel
theorem dM_quotient_180 : decode cM_quotient 180 = .ok (.iconst 1, 1) := by decide +kernel
theorem dM_quotient_181 : decode cM_quotient 181 = .ok (.iastore, 1) := by decide +kernel
theorem dM_quotient_182 : decode cM_quotient 182 = .ok (.iinc 4 (-1), 3) := by decide +kernel
theorem dM_quotient_185 : decode cM_quotient 185 = .ok (.goto (-62), 3) := by decide +kernel
theorem dM_quotient_188 : decode cM_quotient 188 = .ok (.aload_n 0, 1) := by decide +kernel
theorem dM_quotient_189 : decode cM_quotient 189 = .ok (.iload_n 1, 1) := by decide +kernel
theorem dM_quotient_190 : decode cM_quotient 190 = .ok (.aload_n 0, 1) := by decide +kernel
theorem dM_quotient_191 : decode cM_quotient 191 = .ok (.getfield 40, 3) := by decide +kernel
theorem dM_quotient_194 : decode cM_quotient 194 = .ok (.aload_n 0, 1) := by decide +kernel
theorem dM_quotient_195 : decode cM_quotient 195 = .ok (.getfield 56, 3) := by decide +kernel
theorem dM_quotient_198 : decode cM_quotient 198 = .ok (.isub, 1) := by decide +kernel
theorem dM_quotient_199 : decode cM_quotient 199 = .ok (.bipush 120, 2) := by decide +kernel
theorem dM_quotient_201 : decode cM_quotient 201 = .ok (.isub, 1) := by decide +kernel
theorem dM_quotient_202 : decode cM_quotient 202 = .ok (.lload_n 2, 1) := by decide +kernel
theorem dM_quotient_203 : decode cM_quotient 203 = .ok (.lconst 0, 1) := by decide +kernel
theorem dM_quotient_204 : decode cM_quotient 204 = .ok (.lcmp, 1) := by decide +kernel
theorem dM_quotient_205 : decode cM_quotient 205 = .ok (.ifCond .eq 7, 3) := by decide +kernel
theorem dM_quotient_208 : decode cM_quotient 208 = .ok (.iconst 1, 1) := by decide +kernel
theorem dM_quotient_209 : decode cM_quotient 209 = .ok (.goto 4, 3) := by decide +kernel
theorem dM_quotient_212 : decode cM_quotient 212 = .ok (.iconst 0, 1) := by decide +kernel
theorem dM_quotient_213 : decode cM_quotient 213 = .ok (.invokevirtual 121, 3) := by decide +kernel
theorem dM_quotient_216 : decode cM_quotient 216 = .ok (.lreturn, 1) := by decide +kernel
theorem dM_rest_0 : decode cM_rest 0 = .ok (.aload_n 0, 1) := by decide +kernel
theorem dM_rest_1 : decode cM_rest 1 = .ok (.getfield 33, 3) := by decide +kernel
theorem dM_rest_4 : decode cM_rest 4 = .ok (.iconst 1, 1) := by decide +kernel
theorem dM_rest_5 : decode cM_rest 5 = .ok (.if_icmp .eq 20, 3) := by decide +kernel
theorem dM_rest_8 : decode cM_rest 8 = .ok (.aload_n 0, 1) := by decide +kernel
theorem dM_rest_9 : decode cM_rest 9 = .ok (.getfield 47, 3) := by decide +kernel
theorem dM_rest_12 : decode cM_rest 12 = .ok (.iconst 2, 1) := by decide +kernel
theorem dM_rest_13 : decode cM_rest 13 = .ok (.if_icmp .ne 17, 3) := by decide +kernel
theorem dM_rest_16 : decode cM_rest 16 = .ok (.aload_n 0, 1) := by decide +kernel
theorem dM_rest_17 : decode cM_rest 17 = .ok (.getfield 53, 3) := by decide +kernel
theorem dM_rest_20 : decode cM_rest 20 = .ok (.lconst 0, 1) := by decide +kernel
theorem dM_rest_21 : decode cM_rest 21 = .ok (.lcmp, 1) := by decide +kernel
theorem dM_rest_22 : decode cM_rest 22 = .ok (.ifCond .ne 8, 3) := by decide +kernel
theorem dM_rest_25 : decode cM_rest 25 = .ok (.aload_n 0, 1) := by decide +kernel
theorem dM_rest_26 : decode cM_rest 26 = .ok (.invokevirtual 111, 3) := by decide +kernel
theorem dM_rest_29 : decode cM_rest 29 = .ok (.lreturn, 1) := by decide +kernel
theorem dM_rest_30 : decode cM_rest 30 = .ok (.aload_n 0, 1) := by decide +kernel
theorem dM_rest_31 : decode cM_rest 31 = .ok (.getfield 36, 3) := by decide +kernel
theorem dM_rest_34 : decode cM_rest 34 = .ok (.lconst 0, 1) := by decide +kernel
theorem dM_rest_35 : decode cM_rest 35 = .ok (.lcmp, 1) := by decide +kernel
theorem dM_rest_36 : decode cM_rest 36 = .ok (.ifCond .ne 14, 3) := by decide +kernel
theorem dM_rest_39 : decode cM_rest 39 = .ok (.aload_n 0, 1) := by decide +kernel
theorem dM_rest_40 : decode cM_rest 40 = .ok (.aload_n 0, 1) := by decide +kernel
theorem dM_rest_41 : decode cM_rest 41 = .ok (.getfield 30, 3) := by decide +kernel
theorem dM_rest_44 : decode cM_rest 44 = .ok (.lconst 0, 1) := by decide +kernel
theorem dM_rest_45 : decode cM_rest 45 = .ok (.lconst 0, 1) := by decide +kernel
theorem dM_rest_46 : decode cM_rest 46 = .ok (.invokevirtual 59, 3) := by decide +kernel
theorem dM_rest_49 : decode cM_rest 49 = .ok (.lreturn, 1) := by decide +kernel
theorem dM_rest_50 : decode cM_rest 50 = .ok (.aload_n 0, 1) := by decide +kernel
theorem dM_rest_51 : decode cM_rest 51 = .ok (.getfield 36, 3) := by decide +kernel
theorem dM_rest_54 : decode cM_rest 54 = .ok (.lstore_n 1, 1) := by decide +kernel
theorem dM_rest_55 : decode cM_rest 55 = .ok (.aload_n 0, 1) := by decide +kernel
theorem dM_rest_56 : decode cM_rest 56 = .ok (.getfield 40, 3) := by decide +kernel
theorem dM_rest_59 : decode cM_rest 59 = .ok (.istore_n 3, 1) := by decide +kernel
theorem dM_rest_60 : decode cM_rest 60 = .ok (.aload_n 0, 1) := by decide +kernel
theorem dM_rest_61 : decode cM_rest 61 = .ok (.getfield 47, 3) := by decide +kernel
theorem dM_rest_64 : decode cM_rest 64 = .ok (.iconst 2, 1) := by decide +kernel
theorem dM_rest_65 : decode cM_rest 65 = .ok (.if_icmp .ne 64, 3) := by decide +kernel
theorem dM_rest_68 : decode cM_rest 68 = .ok (.aload_n 0, 1) := by decide +kernel
theorem dM_rest_69 : decode cM_rest 69 = .ok (.getfield 40, 3) := by decide +kernel
theorem dM_rest_72 : decode cM_rest 72 = .ok (.aload_n 0, 1) := by decide +kernel
theorem dM_rest_73 : decode cM_rest 73 = .ok (.getfield 56, 3) := by decide +kernel
theorem dM_rest_76 : decode cM_rest 76 = .ok (.if_icmp .lt 53, 3) := by decide +kernel
theorem dM_rest_79 : decode cM_rest 79 = .ok (.aload_n 0, 1) := by decide +kernel
theorem dM_rest_80 : decode cM_rest 80 = .ok (.getfield 36, 3) := by decide +kernel
theorem dM_rest_83 : decode cM_rest 83 = .ok (.aload_n 0, 1) := by decide +kernel
theorem dM_rest_84 : decode cM_rest 84 = .ok (.getfield 53, 3) := by decide +kernel
theorem dM_rest_87 : decode cM_rest 87 = .ok (.lrem, 1) := by decide +kernel
theorem dM_rest_88 : decode cM_rest 88 = .ok (.lstore_n 1, 1) := by decide +kernel
theorem dM_rest_89 : decode cM_rest 89 = .ok (.aload_n 0, 1) := by decide +kernel
theorem dM_rest_90 : decode cM_rest 90 = .ok (.getfield 40, 3) := by decide +kernel
theorem dM_rest_93 : decode cM_rest 93 = .ok (.istore 4, 2) := by decide +kernel
theorem dM_rest_95 : decode cM_rest 95 = .ok (.iload 4, 2) := by decide +kernel
theorem dM_rest_97 : decode cM_rest 97 = .ok (.aload_n 0, 1) := by decide +kernel
theorem dM_rest_98 : decode cM_rest 98 = .ok (.getfield 56, 3) := by decide +kernel
theorem dM_rest_101 : decode cM_rest 101 = .ok (.if_icmp .le 20, 3) := by decide +kernel
theorem dM_rest_104 : decode cM_rest 104 = .ok (.ldc2_w 74, 3) := by decide +kernel
theorem dM_rest_107 : decode cM_rest 107 = .ok (.lload_n 1, 1) := by decide +kernel
theorem dM_rest_108 : decode cM_rest 108 = .ok (.lmul, 1) := by decide +kernel
theorem dM_rest_109 : decode cM_rest 109 = .ok (.aload_n 0, 1) := by decide +kernel
theorem dM_rest_110 : decode cM_rest 110 = .ok (.getfield 53, 3) := by decide +kernel
theorem dM_rest_113 : decode cM_rest 113 = .ok (.lrem, 1) := by decide +kernel
theorem dM_rest_114 : decode cM_rest 114 = .ok (.lstore_n 1, 1) := by decide +kernel
theorem dM_rest_115 : decode cM_rest 115 = .ok (.iinc 4 (-1), 3) := by decide +kernel
theorem dM_rest_118 : decode cM_rest 118 = .ok (.goto (-23), 3) := by decide +kernel
theorem dM_rest_121 : decode cM_rest 121 = .ok (.aload_n 0, 1) := by decide +kernel
theorem dM_rest_122 : decode cM_rest 122 = .ok (.getfield 56, 3) := by decide +kernel
theorem dM_rest_125 : decode cM_rest 125 = .ok (.istore_n 3, 1) := by decide +kernel
theorem dM_rest_126 : decode cM_rest 126 = .ok (.goto 57, 3) := by decide +kernel
theorem dM_rest_129 : decode cM_rest 129 = .ok (.aload_n 0, 1) := by decide +kernel
theorem dM_rest_130 : decode cM_rest 130 = .ok (.getfield 47, 3) := by decide +kernel
theorem dM_rest_133 : decode cM_rest 133 = .ok (.iconst 2, 1) := by decide +kernel
theorem dM_rest_134 : decode cM_rest 134 = .ok (.if_icmp .ne 49, 3) := by decide +kernel
theorem dM_rest_137 : decode cM_rest 137 = .ok (.aload_n 0, 1) := by decide +kernel
theorem dM_rest_138 : decode cM_rest 138 = .ok (.getfield 56, 3) := by decide +kernel
theorem dM_rest_141 : decode cM_rest 141 = .ok (.aload_n 0, 1) := by decide +kernel
theorem dM_rest_142 : decode cM_rest 142 = .ok (.getfield 40, 3) := by decide +kernel
theorem dM_rest_145 : decode cM_rest 145 = .ok (.isub, 1) := by decide +kernel
theorem dM_rest_146 : decode cM_rest 146 = .ok (.istore 4, 2) := by decide +kernel
theorem dM_rest_148 : decode cM_rest 148 = .ok (.iload 4, 2) := by decide +kernel
theorem dM_rest_150 : decode cM_rest 150 = .ok (.bipush 54, 2) := by decide +kernel
theorem dM_rest_152 : decode cM_rest 152 = .ok (.if_icmp .ge 31, 3) := by decide +kernel
theorem dM_rest_155 : decode cM_rest 155 = .ok (.aload_n 0, 1) := by decide +kernel
theorem dM_rest_156 : decode cM_rest 156 = .ok (.getfield 53, 3) := by decide +kernel
theorem dM_rest_159 : decode cM_rest 159 = .ok (.lconst 1, 1) := by decide +kernel
theorem dM_rest_160 : decode cM_rest 160 = .ok (.bipush 62, 2) := by decide +kernel
theorem dM_rest_162 : decode cM_rest 162 = .ok (.iload 4, 2) := by decide +kernel
theorem dM_rest_164 : decode cM_rest 164 = .ok (.isub, 1) := by decide +kernel
theorem dM_rest_165 : decode cM_rest 165 = .ok (.lshl, 1) := by decide +kernel
theorem dM_rest_166 : decode cM_rest 166 = .ok (.lcmp, 1) := by decide +kernel
theorem dM_rest_167 : decode cM_rest 167 = .ok (.ifCond .ge 16, 3) := by decide +kernel
theorem dM_rest_170 : decode cM_rest 170 = .ok (.aload_n 0, 1) := by decide +kernel
theorem dM_rest_171 : decode cM_rest 171 = .ok (.getfield 36, 3) := by decide +kernel
theorem dM_rest_174 : decode cM_rest 174 = .ok (.aload_n 0, 1) := by decide +kernel
theorem dM_rest_175 : decode cM_rest 175 = .ok (.getfield 53, 3) := by decide +kernel
theorem dM_rest_178 : decode cM_rest 178 = .ok (.iload 4, 2) := by decide +kernel
theorem dM_rest_180 : decode cM_rest 180 = .ok (.lshl, 1) := by decide +kernel
theorem dM_rest_181 : decode cM_rest 181 = .ok (.lrem, 1) := by decide +kernel
theorem dM_rest_182 : decode cM_rest 182 = .ok (.lstore_n 1, 1) := by decide +kernel
theorem dM_rest_183 : decode cM_rest 183 = .ok (.lload_n 1, 1) := by decide +kernel
theorem dM_rest_184 : decode cM_rest 184 = .ok (.lconst 0, 1) := by decide +kernel
theorem dM_rest_185 : decode cM_rest 185 = .ok (.lcmp, 1) := by decide +kernel
theorem dM_rest_186 : decode cM_rest 186 = .ok (.ifCond .ne 14, 3) := by decide +kernel
theorem dM_rest_189 : decode cM_rest 189 = .ok (.aload_n 0, 1) := by decide +kernel
theorem dM_rest_190 : decode cM_rest 190 = .ok (.aload_n 0, 1) := by decide +kernel
theorem dM_rest_191 : decode cM_rest 191 = .ok (.getfield 30, 3) := by decide +kernel
theorem dM_rest_194 : decode cM_rest 194 = .ok (.lconst 0, 1) := by decide +kernel
theorem dM_rest_195 : decode cM_rest 195 = .ok (.lconst 0, 1) := by decide +kernel
theorem dM_rest_196 : decode cM_rest 196 = .ok (.invokevirtual 59, 3) := by decide +kernel
theorem dM_rest_199 : decode cM_rest 199 = .ok (.lreturn, 1) := by decide +kernel
theorem dM_rest_200 : decode cM_rest 200 = .ok (.aload_n 0, 1) := by decide +kernel
theorem dM_rest_201 : decode cM_rest 201 = .ok (.invokevirtual 114, 3) := by decide +kernel
theorem dM_rest_204 : decode cM_rest 204 = .ok (.aload_n 0, 1) := by decide +kernel
theorem dM_rest_205 : decode cM_rest 205 = .ok (.lload_n 1, 1) := by decide +kernel
theorem dM_rest_206 : decode cM_rest 206 = .ok (.iconst 0, 1) := by decide +kernel
theorem dM_rest_207 : decode cM_rest 207 = .ok (.invokevirtual 117, 3) := by decide +kernel
theorem dM_rest_210 : decode cM_rest 210 = .ok (.aload_n 0, 1) := by decide +kernel
theorem dM_rest_211 : decode cM_rest 211 = .ok (.aload_n 0, 1) := by decide +kernel
theorem dM_rest_212 : decode cM_rest 212 = .ok (.getfield 30, 3) := by decide +kernel
theorem dM_rest_215 : decode cM_rest 215 = .ok (.iload_n 3, 1) := by decide +kernel
theorem dM_rest_216 : decode cM_rest 216 = .ok (.iconst 0, 1) := by decide +kernel
theorem dM_rest_217 : decode cM_rest 217 = .ok (.invokevirtual 121, 3) := by decide +kernel
theorem dM_rest_220 : decode cM_rest 220 = .ok (.lreturn, 1) := by decide +kernel
theorem dM_compare_0 : decode cM_compare 0 = .ok (.aload_n 0, 1) := by decide +kernel
theorem dM_compare_1 : decode cM_compare 1 = .ok (.iload_n 2, 1) := by decide +kernel
theorem dM_compare_2 : decode cM_compare 2 = .ok (.bipush 15, 2) := by decide +kernel
theorem dM_compare_4 : decode cM_compare 4 = .ok (.invokestatic 83, 3) := by decide +kernel
theorem dM_compare_7 : decode cM_compare 7 = .ok (.ifCond .eq 12, 3) := by decide +kernel
theorem dM_compare_10 : decode cM_compare 10 = .ok (.iload_n 3, 1) := by decide +kernel
theorem dM_compare_11 : decode cM_compare 11 = .ok (.bipush 15, 2) := by decide +kernel
theorem dM_compare_13 : decode cM_compare 13 = .ok (.invokestatic 83, 3) := by decide +kernel
theorem dM_compare_16 : decode cM_compare 16 = .ok (.ifCond .ne 7, 3) := by decide +kernel
theorem dM_compare_19 : decode cM_compare 19 = .ok (.iconst 1, 1) := by decide +kernel
theorem dM_compare_20 : decode cM_compare 20 = .ok (.goto 4, 3) := by decide +kernel
theorem dM_compare_23 : decode cM_compare 23 = .ok (.iconst 0, 1) := by decide +kernel
theorem dM_compare_24 : decode cM_compare 24 = .ok (.invokevirtual 87, 3) := by decide +kernel
theorem dM_compare_27 : decode cM_compare 27 = .ok (.ifCond .eq 5, 3) := by decide +kernel
theorem dM_compare_30 : decode cM_compare 30 = .ok (.iconst 0, 1) := by decide +kernel
theorem dM_compare_31 : decode cM_compare 31 = .ok (.ireturn, 1) := by decide +kernel
theorem dM_compare_32 : decode cM_compare 32 = .ok (.aload_n 0, 1) := by decide +kernel
theorem dM_compare_33 : decode cM_compare 33 = .ok (.iload_n 1, 1) := by decide +kernel
theorem dM_compare_34 : decode cM_compare 34 = .ok (.invokevirtual 91, 3) := by decide +kernel
theorem dM_compare_37 : decode cM_compare 37 = .ok (.aload_n 0, 1) := by decide +kernel
theorem dM_compare_38 : decode cM_compare 38 = .ok (.iload_n 2, 1) := by decide +kernel
theorem dM_compare_39 : decode cM_compare 39 = .ok (.iload_n 3, 1) := by decide +kernel
theorem dM_compare_40 : decode cM_compare 40 = .ok (.invokevirtual 95, 3) := by decide +kernel
theorem dM_compare_43 : decode cM_compare 43 = .ok (.aload_n 0, 1) := by decide +kernel
theorem dM_compare_44 : decode cM_compare 44 = .ok (.getfield 33, 3) := by decide +kernel
theorem dM_compare_47 : decode cM_compare 47 = .ok (.ifCond .eq 10, 3) := by decide +kernel
theorem dM_compare_50 : decode cM_compare 50 = .ok (.aload_n 0, 1) := by decide +kernel
theorem dM_compare_51 : decode cM_compare 51 = .ok (.getfield 47, 3) := by decide +kernel
theorem dM_compare_54 : decode cM_compare 54 = .ok (.ifCond .ne 6, 3) := by decide +kernel
theorem dM_compare_57 : decode cM_compare 57 = .ok (.iload 4, 2) := by decide +kernel
theorem dM_compare_59 : decode cM_compare 59 = .ok (.ireturn, 1) := by decide +kernel
theorem dM_compare_60 : decode cM_compare 60 = .ok (.aload_n 0, 1) := by decide +kernel
theorem dM_compare_61 : decode cM_compare 61 = .ok (.getfield 33, 3) := by decide +kernel
theorem dM_compare_64 : decode cM_compare 64 = .ok (.iconst 2, 1) := by decide +kernel
theorem dM_compare_65 : decode cM_compare 65 = .ok (.if_icmp .ne 16, 3) := by decide +kernel
theorem dM_compare_68 : decode cM_compare 68 = .ok (.aload_n 0, 1) := by decide +kernel
theorem dM_compare_69 : decode cM_compare 69 = .ok (.getfield 36, 3) := by decide +kernel
theorem dM_compare_72 : decode cM_compare 72 = .ok (.lconst 0, 1) := by decide +kernel
theorem dM_compare_73 : decode cM_compare 73 = .ok (.lcmp, 1) := by decide +kernel
theorem dM_compare_74 : decode cM_compare 74 = .ok (.ifCond .ne 7, 3) := by decide +kernel
theorem dM_compare_77 : decode cM_compare 77 = .ok (.iconst 1, 1) := by decide +kernel
theorem dM_compare_78 : decode cM_compare 78 = .ok (.goto 4, 3) := by decide +kernel
theorem dM_compare_81 : decode cM_compare 81 = .ok (.iconst 0, 1) := by decide +kernel
theorem dM_compare_82 : decode cM_compare 82 = .ok (.istore 5, 2) := by decide +kernel
theorem dM_compare_84 : decode cM_compare 84 = .ok (.aload_n 0, 1) := by decide +kernel
theorem dM_compare_85 : decode cM_compare 85 = .ok (.getfield 47, 3) := by decide +kernel
theorem dM_compare_88 : decode cM_compare 88 = .ok (.iconst 2, 1) := by decide +kernel
theorem dM_compare_89 : decode cM_compare 89 = .ok (.if_icmp .ne 16, 3) := by decide +kernel
theorem dM_compare_92 : decode cM_compare 92 = .ok (.aload_n 0, 1) := by decide +kernel
theorem dM_compare_93 : decode cM_compare 93 = .ok (.getfield 53, 3) := by decide +kernel
theorem dM_compare_96 : decode cM_compare 96 = .ok (.lconst 0, 1) := by decide +kernel
theorem dM_compare_97 : decode cM_compare 97 = .ok (.lcmp, 1) := by decide +kernel
theorem dM_compare_98 : decode cM_compare 98 = .ok (.ifCond .ne 7, 3) := by decide +kernel
theorem dM_compare_101 : decode cM_compare 101 = .ok (.iconst 1, 1) := by decide +kernel
theorem dM_compare_102 : decode cM_compare 102 = .ok (.goto 4, 3) := by decide +kernel
theorem dM_compare_105 : decode cM_compare 105 = .ok (.iconst 0, 1) := by decide +kernel
theorem dM_compare_106 : decode cM_compare 106 = .ok (.istore 6, 2) := by decide +kernel
theorem dM_compare_108 : decode cM_compare 108 = .ok (.iload 5, 2) := by decide +kernel
theorem dM_compare_110 : decode cM_compare 110 = .ok (.ifCond .eq 7, 3) := by decide +kernel
theorem dM_compare_113 : decode cM_compare 113 = .ok (.iconst 0, 1) := by decide +kernel
theorem dM_compare_114 : decode cM_compare 114 = .ok (.goto 16, 3) := by decide +kernel
theorem dM_compare_117 : decode cM_compare 117 = .ok (.aload_n 0, 1) := by decide +kernel
theorem dM_compare_118 : decode cM_compare 118 = .ok (.getfield 30, 3) := by decide +kernel
theorem dM_compare_121 : decode cM_compare 121 = .ok (.iconst 1, 1) := by decide +kernel
theorem dM_compare_122 : decode cM_compare 122 = .ok (.if_icmp .ne 7, 3) := by decide +kernel
theorem dM_compare_125 : decode cM_compare 125 = .ok (.iconst (-1), 1) := by decide +kernel
theorem dM_compare_126 : decode cM_compare 126 = .ok (.goto 4, 3) := by decide +kernel
theorem dM_compare_129 : decode cM_compare 129 = .ok (.iconst 1, 1) := by decide +kernel
theorem dM_compare_130 : decode cM_compare 130 = .ok (.istore 7, 2) := by decide +kernel
theorem dM_compare_132 : decode cM_compare 132 = .ok (.iload 6, 2) := by decide +kernel
theorem dM_compare_134 : decode cM_compare 134 = .ok (.ifCond .eq 7, 3) := by decide +kernel
theorem dM_compare_137 : decode cM_compare 137 = .ok (.iconst 0, 1) := by decide +kernel
theorem dM_compare_138 : decode cM_compare 138 = .ok (.goto 16, 3) := by decide +kernel
theorem dM_compare_141 : decode cM_compare 141 = .ok (.aload_n 0, 1) := by decide +kernel
theorem dM_compare_142 : decode cM_compare 142 = .ok (.getfield 50, 3) := by decide +kernel
theorem dM_compare_145 : decode cM_compare 145 = .ok (.iconst 1, 1) := by decide +kernel
theorem dM_compare_146 : decode cM_compare 146 = .ok (.if_icmp .ne 7, 3) := by decide +kernel
theorem dM_compare_149 : decode cM_compare 149 = .ok (.iconst (-1), 1) := by decide +kernel
theorem dM_compare_150 : decode cM_compare 150 = .ok (.goto 4, 3) := by decide +kernel
theorem dM_compare_153 : decode cM_compare 153 = .ok (.iconst 1, 1) := by decide +kernel
theorem dM_compare_154 : decode cM_compare 154 = .ok (.istore 8, 2) := by decide +kernel
theorem dM_compare_156 : decode cM_compare 156 = .ok (.iload 7, 2) := by decide +kernel
theorem dM_compare_158 : decode cM_compare 158 = .ok (.iload 8, 2) := by decide +kernel
theorem dM_compare_160 : decode cM_compare 160 = .ok (.if_icmp .eq 16, 3) := by decide +kernel
theorem dM_compare_163 : decode cM_compare 163 = .ok (.iload 7, 2) := by decide +kernel
theorem dM_compare_165 : decode cM_compare 165 = .ok (.iload 8, 2) := by decide +kernel
theorem dM_compare_167 : decode cM_compare 167 = .ok (.if_icmp .ge 7, 3) := by decide +kernel
theorem dM_compare_170 : decode cM_compare 170 = .ok (.iconst (-1), 1) := by decide +kernel
theorem dM_compare_171 : decode cM_compare 171 = .ok (.goto 4, 3) := by decide +kernel
theorem dM_compare_174 : decode cM_compare 174 = .ok (.iconst 1, 1) := by decide +kernel
theorem dM_compare_175 : decode cM_compare 175 = .ok (.ireturn, 1) := by decide +kernel
theorem dM_compare_176 : decode cM_compare 176 = .ok (.iload 7, 2) := by decide +kernel
theorem dM_compare_178 : decode cM_compare 178 = .ok (.ifCond .ne 5, 3) := by decide +kernel
theorem dM_compare_181 : decode cM_compare 181 = .ok (.iconst 0, 1) := by decide +kernel
theorem dM_compare_182 : decode cM_compare 182 = .ok (.ireturn, 1) := by decide +kernel
theorem dM_compare_183 : decode cM_compare 183 = .ok (.iconst 0, 1) := by decide +kernel
theorem dM_compare_184 : decode cM_compare 184 = .ok (.istore 9, 2) := by decide +kernel
theorem dM_compare_186 : decode cM_compare 186 = .ok (.aload_n 0, 1) := by decide +kernel
theorem dM_compare_187 : decode cM_compare 187 = .ok (.getfield 33, 3) := by decide +kernel
theorem dM_compare_190 : decode cM_compare 190 = .ok (.iconst 1, 1) := by decide +kernel
theorem dM_compare_191 : decode cM_compare 191 = .ok (.if_icmp .eq 11, 3) := by decide +kernel
theorem dM_compare_194 : decode cM_compare 194 = .ok (.aload_n 0, 1) := by decide +kernel
theorem dM_compare_195 : decode cM_compare 195 = .ok (.getfield 47, 3) := by decide +kernel
theorem dM_compare_198 : decode cM_compare 198 = .ok (.iconst 1, 1) := by decide +kernel
theorem dM_compare_199 : decode cM_compare 199 = .ok (.if_icmp .ne 17, 3) := by decide +kernel
theorem dM_compare_202 : decode cM_compare 202 = .ok (.aload_n 0, 1) := by decide +kernel
theorem dM_compare_203 : decode cM_compare 203 = .ok (.getfield 47, 3) := by decide +kernel
theorem dM_compare_206 : decode cM_compare 206 = .ok (.aload_n 0, 1) := by decide +kernel
theorem dM_compare_207 : decode cM_compare 207 = .ok (.getfield 33, 3) := by decide +kernel
theorem dM_compare_210 : decode cM_compare 210 = .ok (.isub, 1) := by decide +kernel
theorem dM_compare_211 : decode cM_compare 211 = .ok (.istore 9, 2) := by decide +kernel
theorem dM_compare_213 : decode cM_compare 213 = .ok (.goto 69, 3) := by decide +kernel
theorem dM_compare_216 : decode cM_compare 216 = .ok (.aload_n 0, 1) := by decide +kernel
theorem dM_compare_217 : decode cM_compare 217 = .ok (.getfield 27, 3) := by decide +kernel
theorem dM_compare_220 : decode cM_compare 220 = .ok (.istore 10, 2) := by decide +kernel
theorem dM_compare_222 : decode cM_compare 222 = .ok (.iload 10, 2) := by decide +kernel
theorem dM_compare_224 : decode cM_compare 224 = .ok (.iconst 1, 1) := by decide +kernel
theorem dM_compare_225 : decode cM_compare 225 = .ok (.aload_n 0, 1) := by decide +kernel
theorem dM_compare_226 : decode cM_compare 226 = .ok (.getfield 27, 3) := by decide +kernel
theorem dM_compare_229 : decode cM_compare 229 = .ok (.isub, 1) := by decide +kernel
theorem dM_compare_230 : decode cM_compare 230 = .ok (.aload_n 0, 1) := by decide +kernel
theorem dM_compare_231 : decode cM_compare 231 = .ok (.getfield 24, 3) := by decide +kernel
theorem dM_compare_234 : decode cM_compare 234 = .ok (.iconst 1, 1) := by decide +kernel
theorem dM_compare_235 : decode cM_compare 235 = .ok (.isub, 1) := by decide +kernel
theorem dM_compare_236 : decode cM_compare 236 = .ok (.isub, 1) := by decide +kernel
theorem dM_compare_237 : decode cM_compare 237 = .ok (.if_icmp .lt 45, 3) := by decide +kernel
theorem dM_compare_240 : decode cM_compare 240 = .ok (.iload 9, 2) := by decide +kernel
theorem dM_compare_242 : decode cM_compare 242 = .ok (.ifCond .ne 40, 3) := by decide +kernel
theorem dM_compare_245 : decode cM_compare 245 = .ok (.aload_n 0, 1) := by decide +kernel
theorem dM_compare_246 : decode cM_compare 246 = .ok (.getfield 36, 3) := by decide +kernel
theorem dM_compare_249 : decode cM_compare 249 = .ok (.iload 10, 2) := by decide +kernel
theorem dM_compare_251 : decode cM_compare 251 = .ok (.aload_n 0, 1) := by decide +kernel
theorem dM_compare_252 : decode cM_compare 252 = .ok (.getfield 40, 3) := by decide +kernel
theorem dM_compare_255 : decode cM_compare 255 = .ok (.isub, 1) := by decide +kernel
theorem dM_compare_256 : decode cM_compare 256 = .ok (.invokestatic 125, 3) := by decide +kernel
theorem dM_compare_259 : decode cM_compare 259 = .ok (.aload_n 0, 1) := by decide +kernel
theorem dM_compare_260 : decode cM_compare 260 = .ok (.getfield 53, 3) := by decide +kernel
theorem dM_compare_263 : decode cM_compare 263 = .ok (.iload 10, 2) := by decide +kernel
theorem dM_compare_265 : decode cM_compare 265 = .ok (.aload_n 0, 1) := by decide +kernel
theorem dM_compare_266 : decode cM_compare 266 = .ok (.getfield 56, 3) := by decide +kernel
theorem dM_compare_269 : decode cM_compare 269 = .ok (.isub, 1) := by decide +kernel
theorem dM_compare_270 : decode cM_compare 270 = .ok (.invokestatic 125, 3) := by decide +kernel
theorem dM_compare_273 : decode cM_compare 273 = .ok (.isub, 1) := by decide +kernel
theorem dM_compare_274 : decode cM_compare 274 = .ok (.istore 9, 2) := by decide +kernel
theorem dM_compare_276 : decode cM_compare 276 = .ok (.iinc 10 (-1), 3) := by decide +kernel
theorem dM_compare_279 : decode cM_compare 279 = .ok (.goto (-57), 3) := by decide +kernel
theorem dM_compare_282 : decode cM_compare 282 = .ok (.iload 9, 2) := by decide +kernel
theorem dM_compare_284 : decode cM_compare 284 = .ok (.ifCond .ne 7, 3) := by decide +kernel
theorem dM_compare_287 : decode cM_compare 287 = .ok (.iconst 0, 1) := by decide +kernel
theorem dM_compare_288 : decode cM_compare 288 = .ok (.goto 31, 3) := by decide +kernel
theorem dM_compare_291 : decode cM_compare 291 = .ok (.iload 9, 2) := by decide +kernel
theorem dM_compare_293 : decode cM_compare 293 = .ok (.ifCond .le 7, 3) := by decide +kernel
theorem dM_compare_296 : decode cM_compare 296 = .ok (.iconst 1, 1) := by decide +kernel
theorem dM_compare_297 : decode cM_compare 297 = .ok (.goto 4, 3) := by decide +kernel
theorem dM_compare_300 : decode cM_compare 300 = .ok (.iconst 0, 1) := by decide +kernel
theorem dM_compare_301 : decode cM_compare 301 = .ok (.iload 7, 2) := by decide +kernel
theorem dM_compare_303 : decode cM_compare 303 = .ok (.ifCond .le 7, 3) := by decide +kernel
theorem dM_compare_306 : decode cM_compare 306 = .ok (.iconst 1, 1) := by decide +kernel
theorem dM_compare_307 : decode cM_compare 307 = .ok (.goto 4, 3) := by decide +kernel
theorem dM_compare_310 : decode cM_compare 310 = .ok (.iconst 0, 1) := by decide +kernel
theorem dM_compare_311 : decode cM_compare 311 = .ok (.if_icmp .ne 7, 3) := by decide +kernel
theorem dM_compare_314 : decode cM_compare 314 = .ok (.iconst 1, 1) := by decide +kernel
theorem dM_compare_315 : decode cM_compare 315 = .ok (.goto 4, 3) := by decide +kernel
theorem dM_compare_318 : decode cM_compare 318 = .ok (.iconst (-1), 1) := by decide +kernel
theorem dM_compare_319 : decode cM_compare 319 = .ok (.ireturn, 1) := by decide +kernel
theorem dM_bit_0 : decode cM_bit 0 = .ok (.iload_n 2, 1) := by decide +kernel
theorem dM_bit_1 : decode cM_bit 1 = .ok (.ifCond .lt 9, 3) := by decide +kernel
theorem dM_bit_4 : decode cM_bit 4 = .ok (.iload_n 2, 1) := by decide +kernel
theorem dM_bit_5 : decode cM_bit 5 = .ok (.bipush 62, 2) := by decide +kernel
theorem dM_bit_7 : decode cM_bit 7 = .ok (.if_icmp .le 7, 3) := by decide +kernel
theorem dM_bit_10 : decode cM_bit 10 = .ok (.iconst 0, 1) := by decide +kernel
theorem dM_bit_11 : decode cM_bit 11 = .ok (.goto 9, 3) := by decide +kernel
theorem dM_bit_14 : decode cM_bit 14 = .ok (.lload_n 0, 1) := by decide +kernel
theorem dM_bit_15 : decode cM_bit 15 = .ok (.iload_n 2, 1) := by decide +kernel
theorem dM_bit_16 : decode cM_bit 16 = .ok (.lshr, 1) := by decide +kernel
theorem dM_bit_17 : decode cM_bit 17 = .ok (.lconst 1, 1) := by decide +kernel
theorem dM_bit_18 : decode cM_bit 18 = .ok (.land, 1) := by decide +kernel
theorem dM_bit_19 : decode cM_bit 19 = .ok (.l2i, 1) := by decide +kernel
theorem dM_bit_20 : decode cM_bit 20 = .ok (.ireturn, 1) := by decide +kernel
theorem dM_of_0 : decode cM_of 0 = .ok (.aload_n 0, 1) := by decide +kernel
theorem dM_of_1 : decode cM_of 1 = .ok (.iload_n 2, 1) := by decide +kernel
theorem dM_of_2 : decode cM_of 2 = .ok (.bipush 15, 2) := by decide +kernel
theorem dM_of_4 : decode cM_of 4 = .ok (.invokestatic 83, 3) := by decide +kernel
theorem dM_of_7 : decode cM_of 7 = .ok (.ifCond .ne 7, 3) := by decide +kernel
theorem dM_of_10 : decode cM_of 10 = .ok (.iconst 1, 1) := by decide +kernel
theorem dM_of_11 : decode cM_of 11 = .ok (.goto 4, 3) := by decide +kernel
theorem dM_of_14 : decode cM_of 14 = .ok (.iconst 0, 1) := by decide +kernel
theorem dM_of_15 : decode cM_of 15 = .ok (.invokevirtual 87, 3) := by decide +kernel
theorem dM_of_18 : decode cM_of 18 = .ok (.ifCond .eq 5, 3) := by decide +kernel
theorem dM_of_21 : decode cM_of 21 = .ok (.lconst 0, 1) := by decide +kernel
theorem dM_of_22 : decode cM_of 22 = .ok (.lreturn, 1) := by decide +kernel
theorem dM_of_23 : decode cM_of 23 = .ok (.aload_n 0, 1) := by decide +kernel
theorem dM_of_24 : decode cM_of 24 = .ok (.iload_n 1, 1) := by decide +kernel
theorem dM_of_25 : decode cM_of 25 = .ok (.invokevirtual 91, 3) := by decide +kernel
theorem dM_of_28 : decode cM_of 28 = .ok (.lconst 0, 1) := by decide +kernel
theorem dM_of_29 : decode cM_of 29 = .ok (.lstore 5, 2) := by decide +kernel
theorem dM_of_31 : decode cM_of 31 = .ok (.lload_n 3, 1) := by decide +kernel
theorem dM_of_32 : decode cM_of 32 = .ok (.lconst 0, 1) := by decide +kernel
theorem dM_of_33 : decode cM_of 33 = .ok (.lcmp, 1) := by decide +kernel
theorem dM_of_34 : decode cM_of 34 = .ok (.ifCond .eq 43, 3) := by decide +kernel
theorem dM_of_37 : decode cM_of 37 = .ok (.aload_n 0, 1) := by decide +kernel
theorem dM_of_38 : decode cM_of 38 = .ok (.invokevirtual 114, 3) := by decide +kernel
theorem dM_of_41 : decode cM_of 41 = .ok (.aload_n 0, 1) := by decide +kernel
theorem dM_of_42 : decode cM_of 42 = .ok (.lload_n 3, 1) := by decide +kernel
theorem dM_of_43 : decode cM_of 43 = .ok (.lconst 0, 1) := by decide +kernel
theorem dM_of_44 : decode cM_of 44 = .ok (.lcmp, 1) := by decide +kernel
theorem dM_of_45 : decode cM_of 45 = .ok (.ifCond .ge 8, 3) := by decide +kernel
theorem dM_of_48 : decode cM_of 48 = .ok (.lload_n 3, 1) := by decide +kernel
theorem dM_of_49 : decode cM_of 49 = .ok (.lneg, 1) := by decide +kernel
theorem dM_of_50 : decode cM_of 50 = .ok (.goto 4, 3) := by decide +kernel
theorem dM_of_53 : decode cM_of 53 = .ok (.lload_n 3, 1) := by decide +kernel
theorem dM_of_54 : decode cM_of 54 = .ok (.iconst 0, 1) := by decide +kernel
theorem dM_of_55 : decode cM_of 55 = .ok (.invokevirtual 117, 3) := by decide +kernel
theorem dM_of_58 : decode cM_of 58 = .ok (.aload_n 0, 1) := by decide +kernel
theorem dM_of_59 : decode cM_of 59 = .ok (.lload_n 3, 1) := by decide +kernel
theorem dM_of_60 : decode cM_of 60 = .ok (.lconst 0, 1) := by decide +kernel
theorem dM_of_61 : decode cM_of 61 = .ok (.lcmp, 1) := by decide +kernel
theorem dM_of_62 : decode cM_of 62 = .ok (.ifCond .ge 7, 3) := by decide +kernel
theorem dM_of_65 : decode cM_of 65 = .ok (.iconst 1, 1) := by decide +kernel
theorem dM_of_66 : decode cM_of 66 = .ok (.goto 4, 3) := by decide +kernel
theorem dM_of_69 : decode cM_of 69 = .ok (.iconst 0, 1) := by decide +kernel
theorem dM_of_70 : decode cM_of 70 = .ok (.iconst 0, 1) := by decide +kernel
theorem dM_of_71 : decode cM_of 71 = .ok (.iconst 0, 1) := by decide +kernel
theorem dM_of_72 : decode cM_of 72 = .ok (.invokevirtual 121, 3) := by decide +kernel
theorem dM_of_75 : decode cM_of 75 = .ok (.lstore 5, 2) := by decide +kernel
theorem dM_of_77 : decode cM_of 77 = .ok (.aload_n 0, 1) := by decide +kernel
theorem dM_of_78 : decode cM_of 78 = .ok (.getfield 16, 3) := by decide +kernel
theorem dM_of_81 : decode cM_of 81 = .ok (.iload_n 2, 1) := by decide +kernel
theorem dM_of_82 : decode cM_of 82 = .ok (.lload 5, 2) := by decide +kernel
theorem dM_of_84 : decode cM_of 84 = .ok (.lastore, 1) := by decide +kernel
theorem dM_of_85 : decode cM_of 85 = .ok (.lload 5, 2) := by decide +kernel
theorem dM_of_87 : decode cM_of 87 = .ok (.lreturn, 1) := by decide +kernel
theorem dM_whole_0 : decode cM_whole 0 = .ok (.aload_n 0, 1) := by decide +kernel
theorem dM_whole_1 : decode cM_whole 1 = .ok (.iload_n 2, 1) := by decide +kernel
theorem dM_whole_2 : decode cM_whole 2 = .ok (.bipush 15, 2) := by decide +kernel
theorem dM_whole_4 : decode cM_whole 4 = .ok (.invokestatic 83, 3) := by decide +kernel
theorem dM_whole_7 : decode cM_whole 7 = .ok (.ifCond .ne 7, 3) := by decide +kernel
theorem dM_whole_10 : decode cM_whole 10 = .ok (.iconst 1, 1) := by decide +kernel
theorem dM_whole_11 : decode cM_whole 11 = .ok (.goto 4, 3) := by decide +kernel
theorem dM_whole_14 : decode cM_whole 14 = .ok (.iconst 0, 1) := by decide +kernel
theorem dM_whole_15 : decode cM_whole 15 = .ok (.invokevirtual 87, 3) := by decide +kernel
theorem dM_whole_18 : decode cM_whole 18 = .ok (.ifCond .eq 5, 3) := by decide +kernel
theorem dM_whole_21 : decode cM_whole 21 = .ok (.lconst 0, 1) := by decide +kernel
theorem dM_whole_22 : decode cM_whole 22 = .ok (.lreturn, 1) := by decide +kernel
theorem dM_whole_23 : decode cM_whole 23 = .ok (.aload_n 0, 1) := by decide +kernel
theorem dM_whole_24 : decode cM_whole 24 = .ok (.iload_n 1, 1) := by decide +kernel
theorem dM_whole_25 : decode cM_whole 25 = .ok (.invokevirtual 91, 3) := by decide +kernel
theorem dM_whole_28 : decode cM_whole 28 = .ok (.aload_n 0, 1) := by decide +kernel
theorem dM_whole_29 : decode cM_whole 29 = .ok (.iload_n 2, 1) := by decide +kernel
theorem dM_whole_30 : decode cM_whole 30 = .ok (.invokevirtual 43, 3) := by decide +kernel
theorem dM_whole_33 : decode cM_whole 33 = .ok (.iload_n 3, 1) := by decide +kernel
theorem dM_whole_34 : decode cM_whole 34 = .ok (.ifCond .eq 8, 3) := by decide +kernel
theorem dM_whole_37 : decode cM_whole 37 = .ok (.bipush 31, 2) := by decide +kernel
theorem dM_whole_39 : decode cM_whole 39 = .ok (.goto 5, 3) := by decide +kernel
theorem dM_whole_42 : decode cM_whole 42 = .ok (.bipush 63, 2) := by decide +kernel
theorem dM_whole_44 : decode cM_whole 44 = .ok (.istore 4, 2) := by decide +kernel
theorem dM_whole_46 : decode cM_whole 46 = .ok (.iload_n 3, 1) := by decide +kernel
theorem dM_whole_47 : decode cM_whole 47 = .ok (.ifCond .eq 9, 3) := by decide +kernel
theorem dM_whole_50 : decode cM_whole 50 = .ok (.ldc2_w 129, 3) := by decide +kernel
theorem dM_whole_53 : decode cM_whole 53 = .ok (.goto 6, 3) := by decide +kernel
theorem dM_whole_56 : decode cM_whole 56 = .ok (.ldc2_w 131, 3) := by decide +kernel
theorem dM_whole_59 : decode cM_whole 59 = .ok (.lstore 5, 2) := by decide +kernel
theorem dM_whole_61 : decode cM_whole 61 = .ok (.lload 5, 2) := by decide +kernel
theorem dM_whole_63 : decode cM_whole 63 = .ok (.lneg, 1) := by decide +kernel
theorem dM_whole_64 : decode cM_whole 64 = .ok (.lconst 1, 1) := by decide +kernel
theorem dM_whole_65 : decode cM_whole 65 = .ok (.lsub, 1) := by decide +kernel
theorem dM_whole_66 : decode cM_whole 66 = .ok (.lstore 7, 2) := by decide +kernel
theorem dM_whole_68 : decode cM_whole 68 = .ok (.aload_n 0, 1) := by decide +kernel
theorem dM_whole_69 : decode cM_whole 69 = .ok (.getfield 33, 3) := by decide +kernel
theorem dM_whole_72 : decode cM_whole 72 = .ok (.ifCond .ne 16, 3) := by decide +kernel
theorem dM_whole_75 : decode cM_whole 75 = .ok (.aload_n 0, 1) := by decide +kernel
theorem dM_whole_76 : decode cM_whole 76 = .ok (.dup, 1) := by decide +kernel
theorem dM_whole_77 : decode cM_whole 77 = .ok (.getfield 63, 3) := by decide +kernel
theorem dM_whole_80 : decode cM_whole 80 = .ok (.bipush 16, 2) := by decide +kernel
theorem dM_whole_82 : decode cM_whole 82 = .ok (.ior, 1) := by decide +kernel
theorem dM_whole_83 : decode cM_whole 83 = .ok (.putfield 63, 3) := by decide +kernel
theorem dM_whole_86 : decode cM_whole 86 = .ok (.lconst 0, 1) := by decide +kernel
theorem dM_whole_87 : decode cM_whole 87 = .ok (.lreturn, 1) := by decide +kernel
theorem dM_whole_88 : decode cM_whole 88 = .ok (.lconst 0, 1) := by decide +kernel
theorem dM_whole_89 : decode cM_whole 89 = .ok (.lstore 9, 2) := by decide +kernel
theorem dM_whole_91 : decode cM_whole 91 = .ok (.iconst 0, 1) := by decide +kernel
theorem dM_whole_92 : decode cM_whole 92 = .ok (.istore 11, 2) := by decide +kernel
theorem dM_whole_94 : decode cM_whole 94 = .ok (.aload_n 0, 1) := by decide +kernel
theorem dM_whole_95 : decode cM_whole 95 = .ok (.getfield 33, 3) := by decide +kernel
theorem dM_whole_98 : decode cM_whole 98 = .ok (.iconst 1, 1) := by decide +kernel
theorem dM_whole_99 : decode cM_whole 99 = .ok (.if_icmp .ne 7, 3) := by decide +kernel
theorem dM_whole_102 : decode cM_whole 102 = .ok (.iconst 1, 1) := by decide +kernel
theorem dM_whole_103 : decode cM_whole 103 = .ok (.goto 4, 3) := by decide +kernel
theorem dM_whole_106 : decode cM_whole 106 = .ok (.iconst 0, 1) := by decide +kernel
theorem dM_whole_107 : decode cM_whole 107 = .ok (.istore 12, 2) := by decide +kernel
theorem dM_whole_109 : decode cM_whole 109 = .ok (.iconst 0, 1) := by decide +kernel
theorem dM_whole_110 : decode cM_whole 110 = .ok (.istore 13, 2) := by decide +kernel
theorem dM_whole_112 : decode cM_whole 112 = .ok (.iload 13, 2) := by decide +kernel
theorem dM_whole_114 : decode cM_whole 114 = .ok (.bipush 53, 2) := by decide +kernel
theorem dM_whole_116 : decode cM_whole 116 = .ok (.if_icmp .ge 70, 3) := by decide +kernel
theorem dM_whole_119 : decode cM_whole 119 = .ok (.iload 12, 2) := by decide +kernel
theorem dM_whole_121 : decode cM_whole 121 = .ok (.ifCond .ne 65, 3) := by decide +kernel
theorem dM_whole_124 : decode cM_whole 124 = .ok (.aload_n 0, 1) := by decide +kernel
theorem dM_whole_125 : decode cM_whole 125 = .ok (.getfield 36, 3) := by decide +kernel
theorem dM_whole_128 : decode cM_whole 128 = .ok (.iload 13, 2) := by decide +kernel
theorem dM_whole_130 : decode cM_whole 130 = .ok (.lshr, 1) := by decide +kernel
theorem dM_whole_131 : decode cM_whole 131 = .ok (.lconst 1, 1) := by decide +kernel
theorem dM_whole_132 : decode cM_whole 132 = .ok (.land, 1) := by decide +kernel
theorem dM_whole_133 : decode cM_whole 133 = .ok (.lconst 1, 1) := by decide +kernel
theorem dM_whole_134 : decode cM_whole 134 = .ok (.lcmp, 1) := by decide +kernel
theorem dM_whole_135 : decode cM_whole 135 = .ok (.ifCond .ne 45, 3) := by decide +kernel
theorem dM_whole_138 : decode cM_whole 138 = .ok (.aload_n 0, 1) := by decide +kernel
theorem dM_whole_139 : decode cM_whole 139 = .ok (.getfield 40, 3) := by decide +kernel
theorem dM_whole_142 : decode cM_whole 142 = .ok (.iload 13, 2) := by decide +kernel
theorem dM_whole_144 : decode cM_whole 144 = .ok (.iadd, 1) := by decide +kernel
theorem dM_whole_145 : decode cM_whole 145 = .ok (.istore 14, 2) := by decide +kernel
theorem dM_whole_147 : decode cM_whole 147 = .ok (.iload 14, 2) := by decide +kernel
theorem dM_whole_149 : decode cM_whole 149 = .ok (.ifCond .ge 9, 3) := by decide +kernel
theorem dM_whole_152 : decode cM_whole 152 = .ok (.iconst 1, 1) := by decide +kernel
theorem dM_whole_153 : decode cM_whole 153 = .ok (.istore 11, 2) := by decide +kernel
theorem dM_whole_155 : decode cM_whole 155 = .ok (.goto 25, 3) := by decide +kernel
theorem dM_whole_158 : decode cM_whole 158 = .ok (.iload 14, 2) := by decide +kernel
theorem dM_whole_160 : decode cM_whole 160 = .ok (.iload 4, 2) := by decide +kernel
theorem dM_whole_162 : decode cM_whole 162 = .ok (.if_icmp .le 9, 3) := by decide +kernel
theorem dM_whole_165 : decode cM_whole 165 = .ok (.iconst 1, 1) := by decide +kernel
theorem dM_whole_166 : decode cM_whole 166 = .ok (.istore 12, 2) := by decide +kernel
theorem dM_whole_168 : decode cM_whole 168 = .ok (.goto 12, 3) := by decide +kernel
theorem dM_whole_171 : decode cM_whole 171 = .ok (.lload 9, 2) := by decide +kernel
theorem dM_whole_173 : decode cM_whole 173 = .ok (.lconst 1, 1) := by decide +kernel
theorem dM_whole_174 : decode cM_whole 174 = .ok (.iload 14, 2) := by decide +kernel
theorem dM_whole_176 : decode cM_whole 176 = .ok (.lshl, 1) := by decide +kernel
theorem dM_whole_177 : decode cM_whole 177 = .ok (.ladd, 1) := by decide +kernel
theorem dM_whole_178 : decode cM_whole 178 = .ok (.lstore 9, 2) := by decide +kernel
theorem dM_whole_180 : decode cM_whole 180 = .ok (.iinc 13 1, 3) := by decide +kernel
theorem dM_whole_183 : decode cM_whole 183 = .ok (.goto (-71), 3) := by decide +kernel
theorem dM_whole_186 : decode cM_whole 186 = .ok (.iload 12, 2) := by decide +kernel
theorem dM_whole_188 : decode cM_whole 188 = .ok (.ifCond .ne 39, 3) := by decide +kernel
theorem dM_whole_191 : decode cM_whole 191 = .ok (.lload 9, 2) := by decide +kernel
theorem dM_whole_193 : decode cM_whole 193 = .ok (.lconst 1, 1) := by decide +kernel
theorem dM_whole_194 : decode cM_whole 194 = .ok (.iload 4, 2) := by decide +kernel
theorem dM_whole_196 : decode cM_whole 196 = .ok (.lshl, 1) := by decide +kernel
theorem dM_whole_197 : decode cM_whole 197 = .ok (.lcmp, 1) := by decide +kernel
theorem dM_whole_198 : decode cM_whole 198 = .ok (.ifCond .ne 29, 3) := by decide +kernel
theorem dM_whole_201 : decode cM_whole 201 = .ok (.aload_n 0, 1) := by decide +kernel
theorem dM_whole_202 : decode cM_whole 202 = .ok (.getfield 30, 3) := by decide +kernel
theorem dM_whole_205 : decode cM_whole 205 = .ok (.iconst 1, 1) := by decide +kernel
theorem dM_whole_206 : decode cM_whole 206 = .ok (.if_icmp .ne 21, 3) := by decide +kernel
theorem dM_whole_209 : decode cM_whole 209 = .ok (.iload 11, 2) := by decide +kernel
theorem dM_whole_211 : decode cM_whole 211 = .ok (.ifCond .eq 13, 3) := by decide +kernel
theorem dM_whole_214 : decode cM_whole 214 = .ok (.aload_n 0, 1) := by decide +kernel
theorem dM_whole_215 : decode cM_whole 215 = .ok (.dup, 1) := by decide +kernel
theorem dM_whole_216 : decode cM_whole 216 = .ok (.getfield 63, 3) := by decide +kernel
theorem dM_whole_219 : decode cM_whole 219 = .ok (.iconst 1, 1) := by decide +kernel
theorem dM_whole_220 : decode cM_whole 220 = .ok (.ior, 1) := by decide +kernel
theorem dM_whole_221 : decode cM_whole 221 = .ok (.putfield 63, 3) := by decide +kernel
theorem dM_whole_224 : decode cM_whole 224 = .ok (.lload 7, 2) := by decide +kernel
theorem dM_whole_226 : decode cM_whole 226 = .ok (.lreturn, 1) := by decide +kernel
theorem dM_whole_227 : decode cM_whole 227 = .ok (.iload 12, 2) := by decide +kernel
theorem dM_whole_229 : decode cM_whole 229 = .ok (.ifCond .ne 18, 3) := by decide +kernel
theorem dM_whole_232 : decode cM_whole 232 = .ok (.lload 9, 2) := by decide +kernel
theorem dM_whole_234 : decode cM_whole 234 = .ok (.lconst 0, 1) := by decide +kernel
theorem dM_whole_235 : decode cM_whole 235 = .ok (.lcmp, 1) := by decide +kernel
theorem dM_whole_236 : decode cM_whole 236 = .ok (.ifCond .lt 11, 3) := by decide +kernel
theorem dM_whole_239 : decode cM_whole 239 = .ok (.lload 9, 2) := by decide +kernel
theorem dM_whole_241 : decode cM_whole 241 = .ok (.lload 5, 2) := by decide +kernel
theorem dM_whole_243 : decode cM_whole 243 = .ok (.lcmp, 1) := by decide +kernel
theorem dM_whole_244 : decode cM_whole 244 = .ok (.ifCond .le 30, 3) := by decide +kernel
theorem dM_whole_247 : decode cM_whole 247 = .ok (.aload_n 0, 1) := by decide +kernel
theorem dM_whole_248 : decode cM_whole 248 = .ok (.dup, 1) := by decide +kernel
theorem dM_whole_249 : decode cM_whole 249 = .ok (.getfield 63, 3) := by decide +kernel
theorem dM_whole_252 : decode cM_whole 252 = .ok (.bipush 16, 2) := by decide +kernel
theorem dM_whole_254 : decode cM_whole 254 = .ok (.ior, 1) := by decide +kernel
theorem dM_whole_255 : decode cM_whole 255 = .ok (.putfield 63, 3) := by decide +kernel
theorem dM_whole_258 : decode cM_whole 258 = .ok (.aload_n 0, 1) := by decide +kernel
theorem dM_whole_259 : decode cM_whole 259 = .ok (.getfield 30, 3) := by decide +kernel
theorem dM_whole_262 : decode cM_whole 262 = .ok (.iconst 1, 1) := by decide +kernel
theorem dM_whole_263 : decode cM_whole 263 = .ok (.if_icmp .ne 8, 3) := by decide +kernel
theorem dM_whole_266 : decode cM_whole 266 = .ok (.lload 7, 2) := by decide +kernel
theorem dM_whole_268 : decode cM_whole 268 = .ok (.goto 5, 3) := by decide +kernel
theorem dM_whole_271 : decode cM_whole 271 = .ok (.lload 5, 2) := by decide +kernel
theorem dM_whole_273 : decode cM_whole 273 = .ok (.lreturn, 1) := by decide +kernel
theorem dM_whole_274 : decode cM_whole 274 = .ok (.iload 11, 2) := by decide +kernel
theorem dM_whole_276 : decode cM_whole 276 = .ok (.ifCond .eq 13, 3) := by decide +kernel
theorem dM_whole_279 : decode cM_whole 279 = .ok (.aload_n 0, 1) := by decide +kernel
theorem dM_whole_280 : decode cM_whole 280 = .ok (.dup, 1) := by decide +kernel
theorem dM_whole_281 : decode cM_whole 281 = .ok (.getfield 63, 3) := by decide +kernel
theorem dM_whole_284 : decode cM_whole 284 = .ok (.iconst 1, 1) := by decide +kernel
theorem dM_whole_285 : decode cM_whole 285 = .ok (.ior, 1) := by decide +kernel
theorem dM_whole_286 : decode cM_whole 286 = .ok (.putfield 63, 3) := by decide +kernel
theorem dM_whole_289 : decode cM_whole 289 = .ok (.aload_n 0, 1) := by decide +kernel
theorem dM_whole_290 : decode cM_whole 290 = .ok (.getfield 30, 3) := by decide +kernel
theorem dM_whole_293 : decode cM_whole 293 = .ok (.iconst 1, 1) := by decide +kernel
theorem dM_whole_294 : decode cM_whole 294 = .ok (.if_icmp .ne 9, 3) := by decide +kernel
theorem dM_whole_297 : decode cM_whole 297 = .ok (.lload 9, 2) := by decide +kernel
theorem dM_whole_299 : decode cM_whole 299 = .ok (.lneg, 1) := by decide +kernel
theorem dM_whole_300 : decode cM_whole 300 = .ok (.goto 5, 3) := by decide +kernel
theorem dM_whole_303 : decode cM_whole 303 = .ok (.lload 9, 2) := by decide +kernel
theorem dM_whole_305 : decode cM_whole 305 = .ok (.lreturn, 1) := by decide +kernel
theorem dM_turn_0 : decode cM_turn 0 = .ok (.aload_n 0, 1) := by decide +kernel
theorem dM_turn_1 : decode cM_turn 1 = .ok (.iload_n 2, 1) := by decide +kernel
theorem dM_turn_2 : decode cM_turn 2 = .ok (.bipush 15, 2) := by decide +kernel
theorem dM_turn_4 : decode cM_turn 4 = .ok (.invokestatic 83, 3) := by decide +kernel
theorem dM_turn_7 : decode cM_turn 7 = .ok (.ifCond .eq 12, 3) := by decide +kernel
theorem dM_turn_10 : decode cM_turn 10 = .ok (.iload_n 3, 1) := by decide +kernel
theorem dM_turn_11 : decode cM_turn 11 = .ok (.bipush 15, 2) := by decide +kernel
theorem dM_turn_13 : decode cM_turn 13 = .ok (.invokestatic 83, 3) := by decide +kernel
theorem dM_turn_16 : decode cM_turn 16 = .ok (.ifCond .ne 7, 3) := by decide +kernel
theorem dM_turn_19 : decode cM_turn 19 = .ok (.iconst 1, 1) := by decide +kernel
theorem dM_turn_20 : decode cM_turn 20 = .ok (.goto 4, 3) := by decide +kernel
theorem dM_turn_23 : decode cM_turn 23 = .ok (.iconst 0, 1) := by decide +kernel
theorem dM_turn_24 : decode cM_turn 24 = .ok (.invokevirtual 87, 3) := by decide +kernel
theorem dM_turn_27 : decode cM_turn 27 = .ok (.ifCond .eq 5, 3) := by decide +kernel
theorem dM_turn_30 : decode cM_turn 30 = .ok (.lconst 0, 1) := by decide +kernel
theorem dM_turn_31 : decode cM_turn 31 = .ok (.lreturn, 1) := by decide +kernel
theorem dM_turn_32 : decode cM_turn 32 = .ok (.aload_n 0, 1) := by decide +kernel
theorem dM_turn_33 : decode cM_turn 33 = .ok (.iload_n 1, 1) := by decide +kernel
theorem dM_turn_34 : decode cM_turn 34 = .ok (.invokevirtual 91, 3) := by decide +kernel
theorem dM_turn_37 : decode cM_turn 37 = .ok (.aload_n 0, 1) := by decide +kernel
theorem dM_turn_38 : decode cM_turn 38 = .ok (.iload_n 3, 1) := by decide +kernel
theorem dM_turn_39 : decode cM_turn 39 = .ok (.invokevirtual 43, 3) := by decide +kernel
theorem dM_turn_42 : decode cM_turn 42 = .ok (.aload_n 0, 1) := by decide +kernel
theorem dM_turn_43 : decode cM_turn 43 = .ok (.iload_n 1, 1) := by decide +kernel
theorem dM_turn_44 : decode cM_turn 44 = .ok (.ifCond .ne 7, 3) := by decide +kernel
theorem dM_turn_47 : decode cM_turn 47 = .ok (.iconst 1, 1) := by decide +kernel
theorem dM_turn_48 : decode cM_turn 48 = .ok (.goto 4, 3) := by decide +kernel
theorem dM_turn_51 : decode cM_turn 51 = .ok (.iconst 0, 1) := by decide +kernel
theorem dM_turn_52 : decode cM_turn 52 = .ok (.invokevirtual 91, 3) := by decide +kernel
theorem dM_turn_55 : decode cM_turn 55 = .ok (.aload_n 0, 1) := by decide +kernel
theorem dM_turn_56 : decode cM_turn 56 = .ok (.getfield 33, 3) := by decide +kernel
theorem dM_turn_59 : decode cM_turn 59 = .ok (.ifCond .ne 12, 3) := by decide +kernel
theorem dM_turn_62 : decode cM_turn 62 = .ok (.aload_n 0, 1) := by decide +kernel
theorem dM_turn_63 : decode cM_turn 63 = .ok (.invokevirtual 66, 3) := by decide +kernel
theorem dM_turn_66 : decode cM_turn 66 = .ok (.lstore 4, 2) := by decide +kernel
theorem dM_turn_68 : decode cM_turn 68 = .ok (.goto 76, 3) := by decide +kernel
theorem dM_turn_71 : decode cM_turn 71 = .ok (.aload_n 0, 1) := by decide +kernel
theorem dM_turn_72 : decode cM_turn 72 = .ok (.getfield 33, 3) := by decide +kernel
theorem dM_turn_75 : decode cM_turn 75 = .ok (.iconst 1, 1) := by decide +kernel
theorem dM_turn_76 : decode cM_turn 76 = .ok (.if_icmp .ne 16, 3) := by decide +kernel
theorem dM_turn_79 : decode cM_turn 79 = .ok (.aload_n 0, 1) := by decide +kernel
theorem dM_turn_80 : decode cM_turn 80 = .ok (.aload_n 0, 1) := by decide +kernel
theorem dM_turn_81 : decode cM_turn 81 = .ok (.getfield 30, 3) := by decide +kernel
theorem dM_turn_84 : decode cM_turn 84 = .ok (.invokevirtual 79, 3) := by decide +kernel
theorem dM_turn_87 : decode cM_turn 87 = .ok (.lstore 4, 2) := by decide +kernel
theorem dM_turn_89 : decode cM_turn 89 = .ok (.goto 55, 3) := by decide +kernel
theorem dM_turn_92 : decode cM_turn 92 = .ok (.aload_n 0, 1) := by decide +kernel
theorem dM_turn_93 : decode cM_turn 93 = .ok (.getfield 36, 3) := by decide +kernel
theorem dM_turn_96 : decode cM_turn 96 = .ok (.lconst 0, 1) := by decide +kernel
theorem dM_turn_97 : decode cM_turn 97 = .ok (.lcmp, 1) := by decide +kernel
theorem dM_turn_98 : decode cM_turn 98 = .ok (.ifCond .ne 18, 3) := by decide +kernel
theorem dM_turn_101 : decode cM_turn 101 = .ok (.aload_n 0, 1) := by decide +kernel
theorem dM_turn_102 : decode cM_turn 102 = .ok (.aload_n 0, 1) := by decide +kernel
theorem dM_turn_103 : decode cM_turn 103 = .ok (.getfield 30, 3) := by decide +kernel
theorem dM_turn_106 : decode cM_turn 106 = .ok (.lconst 0, 1) := by decide +kernel
theorem dM_turn_107 : decode cM_turn 107 = .ok (.lconst 0, 1) := by decide +kernel
theorem dM_turn_108 : decode cM_turn 108 = .ok (.invokevirtual 59, 3) := by decide +kernel
theorem dM_turn_111 : decode cM_turn 111 = .ok (.lstore 4, 2) := by decide +kernel
theorem dM_turn_113 : decode cM_turn 113 = .ok (.goto 31, 3) := by decide +kernel
theorem dM_turn_116 : decode cM_turn 116 = .ok (.aload_n 0, 1) := by decide +kernel
theorem dM_turn_117 : decode cM_turn 117 = .ok (.invokevirtual 114, 3) := by decide +kernel
theorem dM_turn_120 : decode cM_turn 120 = .ok (.aload_n 0, 1) := by decide +kernel
theorem dM_turn_121 : decode cM_turn 121 = .ok (.aload_n 0, 1) := by decide +kernel
theorem dM_turn_122 : decode cM_turn 122 = .ok (.getfield 36, 3) := by decide +kernel
theorem dM_turn_125 : decode cM_turn 125 = .ok (.iconst 0, 1) := by decide +kernel
theorem dM_turn_126 : decode cM_turn 126 = .ok (.invokevirtual 117, 3) := by decide +kernel
theorem dM_turn_129 : decode cM_turn 129 = .ok (.aload_n 0, 1) := by decide +kernel
theorem dM_turn_130 : decode cM_turn 130 = .ok (.aload_n 0, 1) := by decide +kernel
theorem dM_turn_131 : decode cM_turn 131 = .ok (.getfield 30, 3) := by decide +kernel
theorem dM_turn_134 : decode cM_turn 134 = .ok (.aload_n 0, 1) := by decide +kernel
theorem dM_turn_135 : decode cM_turn 135 = .ok (.getfield 40, 3) := by decide +kernel
theorem dM_turn_138 : decode cM_turn 138 = .ok (.iconst 0, 1) := by decide +kernel
theorem dM_turn_139 : decode cM_turn 139 = .ok (.invokevirtual 121, 3) := by decide +kernel
theorem dM_turn_142 : decode cM_turn 142 = .ok (.lstore 4, 2) := by decide +kernel
theorem dM_turn_144 : decode cM_turn 144 = .ok (.aload_n 0, 1) := by decide +kernel
theorem dM_turn_145 : decode cM_turn 145 = .ok (.getfield 16, 3) := by decide +kernel
theorem dM_turn_148 : decode cM_turn 148 = .ok (.iload_n 2, 1) := by decide +kernel
theorem dM_turn_149 : decode cM_turn 149 = .ok (.lload 4, 2) := by decide +kernel
theorem dM_turn_151 : decode cM_turn 151 = .ok (.lastore, 1) := by decide +kernel
theorem dM_turn_152 : decode cM_turn 152 = .ok (.lload 4, 2) := by decide +kernel
theorem dM_turn_154 : decode cM_turn 154 = .ok (.lreturn, 1) := by decide +kernel
theorem dM_kind_0 : decode cM_kind 0 = .ok (.aload_n 0, 1) := by decide +kernel
theorem dM_kind_1 : decode cM_kind 1 = .ok (.iload_n 2, 1) := by decide +kernel
theorem dM_kind_2 : decode cM_kind 2 = .ok (.bipush 15, 2) := by decide +kernel
theorem dM_kind_4 : decode cM_kind 4 = .ok (.invokestatic 83, 3) := by decide +kernel
theorem dM_kind_7 : decode cM_kind 7 = .ok (.ifCond .ne 7, 3) := by decide +kernel
theorem dM_kind_10 : decode cM_kind 10 = .ok (.iconst 1, 1) := by decide +kernel
theorem dM_kind_11 : decode cM_kind 11 = .ok (.goto 4, 3) := by decide +kernel
theorem dM_kind_14 : decode cM_kind 14 = .ok (.iconst 0, 1) := by decide +kernel
theorem dM_kind_15 : decode cM_kind 15 = .ok (.invokevirtual 87, 3) := by decide +kernel
theorem dM_kind_18 : decode cM_kind 18 = .ok (.ifCond .eq 5, 3) := by decide +kernel
theorem dM_kind_21 : decode cM_kind 21 = .ok (.iconst 0, 1) := by decide +kernel
theorem dM_kind_22 : decode cM_kind 22 = .ok (.ireturn, 1) := by decide +kernel
theorem dM_kind_23 : decode cM_kind 23 = .ok (.aload_n 0, 1) := by decide +kernel
theorem dM_kind_24 : decode cM_kind 24 = .ok (.iload_n 1, 1) := by decide +kernel
theorem dM_kind_25 : decode cM_kind 25 = .ok (.invokevirtual 91, 3) := by decide +kernel
theorem dM_kind_28 : decode cM_kind 28 = .ok (.aload_n 0, 1) := by decide +kernel
theorem dM_kind_29 : decode cM_kind 29 = .ok (.iload_n 2, 1) := by decide +kernel
theorem dM_kind_30 : decode cM_kind 30 = .ok (.invokevirtual 43, 3) := by decide +kernel
theorem dM_kind_33 : decode cM_kind 33 = .ok (.aload_n 0, 1) := by decide +kernel
theorem dM_kind_34 : decode cM_kind 34 = .ok (.getfield 33, 3) := by decide +kernel
theorem dM_kind_37 : decode cM_kind 37 = .ok (.ifCond .ne 7, 3) := by decide +kernel
theorem dM_kind_40 : decode cM_kind 40 = .ok (.iconst 0, 1) := by decide +kernel
theorem dM_kind_41 : decode cM_kind 41 = .ok (.goto 49, 3) := by decide +kernel
theorem dM_kind_44 : decode cM_kind 44 = .ok (.aload_n 0, 1) := by decide +kernel
theorem dM_kind_45 : decode cM_kind 45 = .ok (.getfield 33, 3) := by decide +kernel
theorem dM_kind_48 : decode cM_kind 48 = .ok (.iconst 1, 1) := by decide +kernel
theorem dM_kind_49 : decode cM_kind 49 = .ok (.if_icmp .ne 7, 3) := by decide +kernel
theorem dM_kind_52 : decode cM_kind 52 = .ok (.iconst 1, 1) := by decide +kernel
theorem dM_kind_53 : decode cM_kind 53 = .ok (.goto 37, 3) := by decide +kernel
theorem dM_kind_56 : decode cM_kind 56 = .ok (.aload_n 0, 1) := by decide +kernel
theorem dM_kind_57 : decode cM_kind 57 = .ok (.getfield 36, 3) := by decide +kernel
theorem dM_kind_60 : decode cM_kind 60 = .ok (.lconst 0, 1) := by decide +kernel
theorem dM_kind_61 : decode cM_kind 61 = .ok (.lcmp, 1) := by decide +kernel
theorem dM_kind_62 : decode cM_kind 62 = .ok (.ifCond .ne 7, 3) := by decide +kernel
theorem dM_kind_65 : decode cM_kind 65 = .ok (.iconst 4, 1) := by decide +kernel
theorem dM_kind_66 : decode cM_kind 66 = .ok (.goto 24, 3) := by decide +kernel
theorem dM_kind_69 : decode cM_kind 69 = .ok (.aload_n 0, 1) := by decide +kernel
theorem dM_kind_70 : decode cM_kind 70 = .ok (.getfield 36, 3) := by decide +kernel
theorem dM_kind_73 : decode cM_kind 73 = .ok (.lconst 1, 1) := by decide +kernel
theorem dM_kind_74 : decode cM_kind 74 = .ok (.aload_n 0, 1) := by decide +kernel
theorem dM_kind_75 : decode cM_kind 75 = .ok (.getfield 24, 3) := by decide +kernel
theorem dM_kind_78 : decode cM_kind 78 = .ok (.iconst 1, 1) := by decide +kernel
theorem dM_kind_79 : decode cM_kind 79 = .ok (.isub, 1) := by decide +kernel
theorem dM_kind_80 : decode cM_kind 80 = .ok (.lshl, 1) := by decide +kernel
theorem dM_kind_81 : decode cM_kind 81 = .ok (.lcmp, 1) := by decide +kernel
theorem dM_kind_82 : decode cM_kind 82 = .ok (.ifCond .lt 7, 3) := by decide +kernel
theorem dM_kind_85 : decode cM_kind 85 = .ok (.iconst 2, 1) := by decide +kernel
theorem dM_kind_86 : decode cM_kind 86 = .ok (.goto 4, 3) := by decide +kernel
theorem dM_kind_89 : decode cM_kind 89 = .ok (.iconst 3, 1) := by decide +kernel
theorem dM_kind_90 : decode cM_kind 90 = .ok (.istore_n 3, 1) := by decide +kernel
theorem dM_kind_91 : decode cM_kind 91 = .ok (.aload_n 0, 1) := by decide +kernel
theorem dM_kind_92 : decode cM_kind 92 = .ok (.getfield 30, 3) := by decide +kernel
theorem dM_kind_95 : decode cM_kind 95 = .ok (.iconst 1, 1) := by decide +kernel
theorem dM_kind_96 : decode cM_kind 96 = .ok (.if_icmp .ne 10, 3) := by decide +kernel
theorem dM_kind_99 : decode cM_kind 99 = .ok (.iload_n 3, 1) := by decide +kernel
theorem dM_kind_100 : decode cM_kind 100 = .ok (.bipush 8, 2) := by decide +kernel
theorem dM_kind_102 : decode cM_kind 102 = .ok (.iadd, 1) := by decide +kernel
theorem dM_kind_103 : decode cM_kind 103 = .ok (.goto 4, 3) := by decide +kernel
theorem dM_kind_106 : decode cM_kind 106 = .ok (.iload_n 3, 1) := by decide +kernel
theorem dM_kind_107 : decode cM_kind 107 = .ok (.ireturn, 1) := by decide +kernel
theorem dM_negate_0 : decode cM_negate 0 = .ok (.aload_n 0, 1) := by decide +kernel
theorem dM_negate_1 : decode cM_negate 1 = .ok (.iload_n 2, 1) := by decide +kernel
theorem dM_negate_2 : decode cM_negate 2 = .ok (.bipush 15, 2) := by decide +kernel
theorem dM_negate_4 : decode cM_negate 4 = .ok (.invokestatic 83, 3) := by decide +kernel
theorem dM_negate_7 : decode cM_negate 7 = .ok (.ifCond .eq 12, 3) := by decide +kernel
theorem dM_negate_10 : decode cM_negate 10 = .ok (.iload_n 3, 1) := by decide +kernel
theorem dM_negate_11 : decode cM_negate 11 = .ok (.bipush 15, 2) := by decide +kernel
theorem dM_negate_13 : decode cM_negate 13 = .ok (.invokestatic 83, 3) := by decide +kernel
theorem dM_negate_16 : decode cM_negate 16 = .ok (.ifCond .ne 7, 3) := by decide +kernel
theorem dM_negate_19 : decode cM_negate 19 = .ok (.iconst 1, 1) := by decide +kernel
theorem dM_negate_20 : decode cM_negate 20 = .ok (.goto 4, 3) := by decide +kernel
theorem dM_negate_23 : decode cM_negate 23 = .ok (.iconst 0, 1) := by decide +kernel
theorem dM_negate_24 : decode cM_negate 24 = .ok (.invokevirtual 87, 3) := by decide +kernel
theorem dM_negate_27 : decode cM_negate 27 = .ok (.ifCond .eq 5, 3) := by decide +kernel
theorem dM_negate_30 : decode cM_negate 30 = .ok (.lconst 0, 1) := by decide +kernel
theorem dM_negate_31 : decode cM_negate 31 = .ok (.lreturn, 1) := by decide +kernel
theorem dM_negate_32 : decode cM_negate 32 = .ok (.aload_n 0, 1) := by decide +kernel
theorem dM_negate_33 : decode cM_negate 33 = .ok (.iload_n 1, 1) := by decide +kernel
theorem dM_negate_34 : decode cM_negate 34 = .ok (.invokevirtual 91, 3) := by decide +kernel
theorem dM_negate_37 : decode cM_negate 37 = .ok (.aload_n 0, 1) := by decide +kernel
theorem dM_negate_38 : decode cM_negate 38 = .ok (.iload_n 3, 1) := by decide +kernel
theorem dM_negate_39 : decode cM_negate 39 = .ok (.invokevirtual 43, 3) := by decide +kernel
theorem dM_negate_42 : decode cM_negate 42 = .ok (.aload_n 0, 1) := by decide +kernel
theorem dM_negate_43 : decode cM_negate 43 = .ok (.getfield 33, 3) := by decide +kernel
theorem dM_negate_46 : decode cM_negate 46 = .ok (.ifCond .ne 10, 3) := by decide +kernel
theorem dM_negate_49 : decode cM_negate 49 = .ok (.aload_n 0, 1) := by decide +kernel
theorem dM_negate_50 : decode cM_negate 50 = .ok (.invokevirtual 66, 3) := by decide +kernel
theorem dM_negate_53 : decode cM_negate 53 = .ok (.goto 86, 3) := by decide +kernel
theorem dM_negate_56 : decode cM_negate 56 = .ok (.aload_n 0, 1) := by decide +kernel
theorem dM_negate_57 : decode cM_negate 57 = .ok (.getfield 33, 3) := by decide +kernel
theorem dM_negate_60 : decode cM_negate 60 = .ok (.iconst 1, 1) := by decide +kernel
theorem dM_negate_61 : decode cM_negate 61 = .ok (.if_icmp .ne 16, 3) := by decide +kernel
theorem dM_negate_64 : decode cM_negate 64 = .ok (.aload_n 0, 1) := by decide +kernel
theorem dM_negate_65 : decode cM_negate 65 = .ok (.iconst 1, 1) := by decide +kernel
theorem dM_negate_66 : decode cM_negate 66 = .ok (.aload_n 0, 1) := by decide +kernel
theorem dM_negate_67 : decode cM_negate 67 = .ok (.getfield 30, 3) := by decide +kernel
theorem dM_negate_70 : decode cM_negate 70 = .ok (.isub, 1) := by decide +kernel
theorem dM_negate_71 : decode cM_negate 71 = .ok (.invokevirtual 79, 3) := by decide +kernel
theorem dM_negate_74 : decode cM_negate 74 = .ok (.goto 65, 3) := by decide +kernel
theorem dM_negate_77 : decode cM_negate 77 = .ok (.aload_n 0, 1) := by decide +kernel
theorem dM_negate_78 : decode cM_negate 78 = .ok (.iconst 1, 1) := by decide +kernel
theorem dM_negate_79 : decode cM_negate 79 = .ok (.aload_n 0, 1) := by decide +kernel
theorem dM_negate_80 : decode cM_negate 80 = .ok (.getfield 30, 3) := by decide +kernel
theorem dM_negate_83 : decode cM_negate 83 = .ok (.isub, 1) := by decide +kernel
theorem dM_negate_84 : decode cM_negate 84 = .ok (.aload_n 0, 1) := by decide +kernel
theorem dM_negate_85 : decode cM_negate 85 = .ok (.getfield 36, 3) := by decide +kernel
theorem dM_negate_88 : decode cM_negate 88 = .ok (.lconst 1, 1) := by decide +kernel
theorem dM_negate_89 : decode cM_negate 89 = .ok (.aload_n 0, 1) := by decide +kernel
theorem dM_negate_90 : decode cM_negate 90 = .ok (.getfield 24, 3) := by decide +kernel
theorem dM_negate_93 : decode cM_negate 93 = .ok (.iconst 1, 1) := by decide +kernel
theorem dM_negate_94 : decode cM_negate 94 = .ok (.isub, 1) := by decide +kernel
theorem dM_negate_95 : decode cM_negate 95 = .ok (.lshl, 1) := by decide +kernel
theorem dM_negate_96 : decode cM_negate 96 = .ok (.lcmp, 1) := by decide +kernel
theorem dM_negate_97 : decode cM_negate 97 = .ok (.ifCond .lt 23, 3) := by decide +kernel
theorem dM_negate_100 : decode cM_negate 100 = .ok (.aload_n 0, 1) := by decide +kernel
theorem dM_negate_101 : decode cM_negate 101 = .ok (.getfield 40, 3) := by decide +kernel
theorem dM_negate_104 : decode cM_negate 104 = .ok (.aload_n 0, 1) := by decide +kernel
theorem dM_negate_105 : decode cM_negate 105 = .ok (.getfield 24, 3) := by decide +kernel
theorem dM_negate_108 : decode cM_negate 108 = .ok (.iadd, 1) := by decide +kernel
theorem dM_negate_109 : decode cM_negate 109 = .ok (.iconst 1, 1) := by decide +kernel
theorem dM_negate_110 : decode cM_negate 110 = .ok (.isub, 1) := by decide +kernel
theorem dM_negate_111 : decode cM_negate 111 = .ok (.aload_n 0, 1) := by decide +kernel
theorem dM_negate_112 : decode cM_negate 112 = .ok (.getfield 27, 3) := by decide +kernel
theorem dM_negate_115 : decode cM_negate 115 = .ok (.iadd, 1) := by decide +kernel
theorem dM_negate_116 : decode cM_negate 116 = .ok (.i2l, 1) := by decide +kernel
theorem dM_negate_117 : decode cM_negate 117 = .ok (.goto 4, 3) := by decide +kernel
theorem dM_negate_120 : decode cM_negate 120 = .ok (.lconst 0, 1) := by decide +kernel
theorem dM_negate_121 : decode cM_negate 121 = .ok (.aload_n 0, 1) := by decide +kernel
theorem dM_negate_122 : decode cM_negate 122 = .ok (.getfield 36, 3) := by decide +kernel
theorem dM_negate_125 : decode cM_negate 125 = .ok (.lconst 1, 1) := by decide +kernel
theorem dM_negate_126 : decode cM_negate 126 = .ok (.aload_n 0, 1) := by decide +kernel
theorem dM_negate_127 : decode cM_negate 127 = .ok (.getfield 24, 3) := by decide +kernel
theorem dM_negate_130 : decode cM_negate 130 = .ok (.iconst 1, 1) := by decide +kernel
theorem dM_negate_131 : decode cM_negate 131 = .ok (.isub, 1) := by decide +kernel
theorem dM_negate_132 : decode cM_negate 132 = .ok (.lshl, 1) := by decide +kernel
theorem dM_negate_133 : decode cM_negate 133 = .ok (.lconst 1, 1) := by decide +kernel
theorem dM_negate_134 : decode cM_negate 134 = .ok (.lsub, 1) := by decide +kernel
theorem dM_negate_135 : decode cM_negate 135 = .ok (.land, 1) := by decide +kernel
theorem dM_negate_136 : decode cM_negate 136 = .ok (.invokevirtual 59, 3) := by decide +kernel
theorem dM_negate_139 : decode cM_negate 139 = .ok (.lstore 4, 2) := by decide +kernel
theorem dM_negate_141 : decode cM_negate 141 = .ok (.aload_n 0, 1) := by decide +kernel
theorem dM_negate_142 : decode cM_negate 142 = .ok (.getfield 16, 3) := by decide +kernel
theorem dM_negate_145 : decode cM_negate 145 = .ok (.iload_n 2, 1) := by decide +kernel
theorem dM_negate_146 : decode cM_negate 146 = .ok (.lload 4, 2) := by decide +kernel
theorem dM_negate_148 : decode cM_negate 148 = .ok (.lastore, 1) := by decide +kernel
theorem dM_negate_149 : decode cM_negate 149 = .ok (.lload 4, 2) := by decide +kernel
theorem dM_negate_151 : decode cM_negate 151 = .ok (.lreturn, 1) := by decide +kernel
end
section
/-! Decode rows (by program). -/
theorem dL_put_0 : decode cL_put 0 = .ok (.aload 4, 2) := by decide +kernel
theorem dL_put_2 : decode cL_put 2 = .ok (.iconst 0, 1) := by decide +kernel
theorem dL_put_3 : decode cL_put 3 = .ok (.aload_n 0, 1) := by decide +kernel
theorem dL_put_4 : decode cL_put 4 = .ok (.iload_n 1, 1) := by decide +kernel
theorem dL_put_5 : decode cL_put 5 = .ok (.lload_n 2, 1) := by decide +kernel
theorem dL_put_6 : decode cL_put 6 = .ok (.invokevirtual 7, 3) := by decide +kernel
theorem dL_put_9 : decode cL_put 9 = .ok (.lastore, 1) := by decide +kernel
theorem dL_put_10 : decode cL_put 10 = .ok (.goto 7, 3) := by decide +kernel
theorem dL_put_13 : decode cL_put 13 = .ok (.astore 5, 2) := by decide +kernel
theorem dL_put_15 : decode cL_put 15 = .ok (.iconst 1, 1) := by decide +kernel
theorem dL_put_16 : decode cL_put 16 = .ok (.ireturn, 1) := by decide +kernel
theorem dL_put_17 : decode cL_put 17 = .ok (.iconst 0, 1) := by decide +kernel
theorem dL_put_18 : decode cL_put 18 = .ok (.ireturn, 1) := by decide +kernel
theorem dL_bits_0 : decode cL_bits 0 = .ok (.aload_n 2, 1) := by decide +kernel
theorem dL_bits_1 : decode cL_bits 1 = .ok (.iconst 0, 1) := by decide +kernel
theorem dL_bits_2 : decode cL_bits 2 = .ok (.aload_n 0, 1) := by decide +kernel
theorem dL_bits_3 : decode cL_bits 3 = .ok (.iload_n 1, 1) := by decide +kernel
theorem dL_bits_4 : decode cL_bits 4 = .ok (.invokevirtual 15, 3) := by decide +kernel
theorem dL_bits_7 : decode cL_bits 7 = .ok (.lastore, 1) := by decide +kernel
theorem dL_bits_8 : decode cL_bits 8 = .ok (.goto 6, 3) := by decide +kernel
theorem dL_bits_11 : decode cL_bits 11 = .ok (.astore_n 3, 1) := by decide +kernel
theorem dL_bits_12 : decode cL_bits 12 = .ok (.iconst 1, 1) := by decide +kernel
theorem dL_bits_13 : decode cL_bits 13 = .ok (.ireturn, 1) := by decide +kernel
theorem dL_bits_14 : decode cL_bits 14 = .ok (.iconst 0, 1) := by decide +kernel
theorem dL_bits_15 : decode cL_bits 15 = .ok (.ireturn, 1) := by decide +kernel
theorem dL_mode_0 : decode cL_mode 0 = .ok (.aload_n 2, 1) := by decide +kernel
theorem dL_mode_1 : decode cL_mode 1 = .ok (.iconst 0, 1) := by decide +kernel
theorem dL_mode_2 : decode cL_mode 2 = .ok (.aload_n 0, 1) := by decide +kernel
theorem dL_mode_3 : decode cL_mode 3 = .ok (.iload_n 1, 1) := by decide +kernel
theorem dL_mode_4 : decode cL_mode 4 = .ok (.invokevirtual 19, 3) := by decide +kernel
theorem dL_mode_7 : decode cL_mode 7 = .ok (.i2l, 1) := by decide +kernel
theorem dL_mode_8 : decode cL_mode 8 = .ok (.lastore, 1) := by decide +kernel
theorem dL_mode_9 : decode cL_mode 9 = .ok (.goto 6, 3) := by decide +kernel
theorem dL_mode_12 : decode cL_mode 12 = .ok (.astore_n 3, 1) := by decide +kernel
theorem dL_mode_13 : decode cL_mode 13 = .ok (.iconst 1, 1) := by decide +kernel
theorem dL_mode_14 : decode cL_mode 14 = .ok (.ireturn, 1) := by decide +kernel
theorem dL_mode_15 : decode cL_mode 15 = .ok (.iconst 0, 1) := by decide +kernel
theorem dL_mode_16 : decode cL_mode 16 = .ok (.ireturn, 1) := by decide +kernel
theorem dL_work_0 : decode cL_work 0 = .ok (.aload 6, 2) := by decide +kernel
theorem dL_work_2 : decode cL_work 2 = .ok (.iconst 0, 1) := by decide +kernel
theorem dL_work_3 : decode cL_work 3 = .ok (.aload_n 0, 1) := by decide +kernel
theorem dL_work_4 : decode cL_work 4 = .ok (.iload_n 1, 1) := by decide +kernel
theorem dL_work_5 : decode cL_work 5 = .ok (.iload_n 2, 1) := by decide +kernel
theorem dL_work_6 : decode cL_work 6 = .ok (.iload_n 3, 1) := by decide +kernel
theorem dL_work_7 : decode cL_work 7 = .ok (.iload 4, 2) := by decide +kernel
theorem dL_work_9 : decode cL_work 9 = .ok (.iload 5, 2) := by decide +kernel
theorem dL_work_11 : decode cL_work 11 = .ok (.invokevirtual 23, 3) := by decide +kernel
theorem dL_work_14 : decode cL_work 14 = .ok (.lastore, 1) := by decide +kernel
theorem dL_work_15 : decode cL_work 15 = .ok (.goto 7, 3) := by decide +kernel
theorem dL_work_18 : decode cL_work 18 = .ok (.astore 7, 2) := by decide +kernel
theorem dL_work_20 : decode cL_work 20 = .ok (.iconst 1, 1) := by decide +kernel
theorem dL_work_21 : decode cL_work 21 = .ok (.ireturn, 1) := by decide +kernel
theorem dL_work_22 : decode cL_work 22 = .ok (.iconst 0, 1) := by decide +kernel
theorem dL_work_23 : decode cL_work 23 = .ok (.ireturn, 1) := by decide +kernel
theorem dL_compare_0 : decode cL_compare 0 = .ok (.aload 5, 2) := by decide +kernel
theorem dL_compare_2 : decode cL_compare 2 = .ok (.iconst 0, 1) := by decide +kernel
theorem dL_compare_3 : decode cL_compare 3 = .ok (.aload_n 0, 1) := by decide +kernel
theorem dL_compare_4 : decode cL_compare 4 = .ok (.iload_n 1, 1) := by decide +kernel
theorem dL_compare_5 : decode cL_compare 5 = .ok (.iload_n 2, 1) := by decide +kernel
theorem dL_compare_6 : decode cL_compare 6 = .ok (.iload_n 3, 1) := by decide +kernel
theorem dL_compare_7 : decode cL_compare 7 = .ok (.iload 4, 2) := by decide +kernel
theorem dL_compare_9 : decode cL_compare 9 = .ok (.invokevirtual 27, 3) := by decide +kernel
theorem dL_compare_12 : decode cL_compare 12 = .ok (.i2l, 1) := by decide +kernel
theorem dL_compare_13 : decode cL_compare 13 = .ok (.lastore, 1) := by decide +kernel
theorem dL_compare_14 : decode cL_compare 14 = .ok (.goto 7, 3) := by decide +kernel
theorem dL_compare_17 : decode cL_compare 17 = .ok (.astore 6, 2) := by decide +kernel
theorem dL_compare_19 : decode cL_compare 19 = .ok (.iconst 1, 1) := by decide +kernel
theorem dL_compare_20 : decode cL_compare 20 = .ok (.ireturn, 1) := by decide +kernel
theorem dL_compare_21 : decode cL_compare 21 = .ok (.iconst 0, 1) := by decide +kernel
theorem dL_compare_22 : decode cL_compare 22 = .ok (.ireturn, 1) := by decide +kernel
theorem dL_of_0 : decode cL_of 0 = .ok (.aload 5, 2) := by decide +kernel
theorem dL_of_2 : decode cL_of 2 = .ok (.iconst 0, 1) := by decide +kernel
theorem dL_of_3 : decode cL_of 3 = .ok (.aload_n 0, 1) := by decide +kernel
theorem dL_of_4 : decode cL_of 4 = .ok (.iload_n 1, 1) := by decide +kernel
theorem dL_of_5 : decode cL_of 5 = .ok (.iload_n 2, 1) := by decide +kernel
theorem dL_of_6 : decode cL_of 6 = .ok (.lload_n 3, 1) := by decide +kernel
theorem dL_of_7 : decode cL_of 7 = .ok (.invokevirtual 31, 3) := by decide +kernel
theorem dL_of_10 : decode cL_of 10 = .ok (.lastore, 1) := by decide +kernel
theorem dL_of_11 : decode cL_of 11 = .ok (.goto 7, 3) := by decide +kernel
theorem dL_of_14 : decode cL_of 14 = .ok (.astore 6, 2) := by decide +kernel
theorem dL_of_16 : decode cL_of 16 = .ok (.iconst 1, 1) := by decide +kernel
theorem dL_of_17 : decode cL_of 17 = .ok (.ireturn, 1) := by decide +kernel
theorem dL_of_18 : decode cL_of 18 = .ok (.iconst 0, 1) := by decide +kernel
theorem dL_of_19 : decode cL_of 19 = .ok (.ireturn, 1) := by decide +kernel
theorem dL_whole_0 : decode cL_whole 0 = .ok (.aload 4, 2) := by decide +kernel
theorem dL_whole_2 : decode cL_whole 2 = .ok (.iconst 0, 1) := by decide +kernel
theorem dL_whole_3 : decode cL_whole 3 = .ok (.aload_n 0, 1) := by decide +kernel
theorem dL_whole_4 : decode cL_whole 4 = .ok (.iload_n 1, 1) := by decide +kernel
theorem dL_whole_5 : decode cL_whole 5 = .ok (.iload_n 2, 1) := by decide +kernel
theorem dL_whole_6 : decode cL_whole 6 = .ok (.iload_n 3, 1) := by decide +kernel
theorem dL_whole_7 : decode cL_whole 7 = .ok (.invokevirtual 35, 3) := by decide +kernel
theorem dL_whole_10 : decode cL_whole 10 = .ok (.lastore, 1) := by decide +kernel
theorem dL_whole_11 : decode cL_whole 11 = .ok (.goto 7, 3) := by decide +kernel
theorem dL_whole_14 : decode cL_whole 14 = .ok (.astore 5, 2) := by decide +kernel
theorem dL_whole_16 : decode cL_whole 16 = .ok (.iconst 1, 1) := by decide +kernel
theorem dL_whole_17 : decode cL_whole 17 = .ok (.ireturn, 1) := by decide +kernel
theorem dL_whole_18 : decode cL_whole 18 = .ok (.iconst 0, 1) := by decide +kernel
theorem dL_whole_19 : decode cL_whole 19 = .ok (.ireturn, 1) := by decide +kernel
theorem dL_turn_0 : decode cL_turn 0 = .ok (.aload 4, 2) := by decide +kernel
theorem dL_turn_2 : decode cL_turn 2 = .ok (.iconst 0, 1) := by decide +kernel
theorem dL_turn_3 : decode cL_turn 3 = .ok (.aload_n 0, 1) := by decide +kernel
theorem dL_turn_4 : decode cL_turn 4 = .ok (.iload_n 1, 1) := by decide +kernel
theorem dL_turn_5 : decode cL_turn 5 = .ok (.iload_n 2, 1) := by decide +kernel
theorem dL_turn_6 : decode cL_turn 6 = .ok (.iload_n 3, 1) := by decide +kernel
theorem dL_turn_7 : decode cL_turn 7 = .ok (.invokevirtual 39, 3) := by decide +kernel
theorem dL_turn_10 : decode cL_turn 10 = .ok (.lastore, 1) := by decide +kernel
theorem dL_turn_11 : decode cL_turn 11 = .ok (.goto 7, 3) := by decide +kernel
theorem dL_turn_14 : decode cL_turn 14 = .ok (.astore 5, 2) := by decide +kernel
theorem dL_turn_16 : decode cL_turn 16 = .ok (.iconst 1, 1) := by decide +kernel
theorem dL_turn_17 : decode cL_turn 17 = .ok (.ireturn, 1) := by decide +kernel
theorem dL_turn_18 : decode cL_turn 18 = .ok (.iconst 0, 1) := by decide +kernel
theorem dL_turn_19 : decode cL_turn 19 = .ok (.ireturn, 1) := by decide +kernel
theorem dL_kind_0 : decode cL_kind 0 = .ok (.aload_n 3, 1) := by decide +kernel
theorem dL_kind_1 : decode cL_kind 1 = .ok (.iconst 0, 1) := by decide +kernel
theorem dL_kind_2 : decode cL_kind 2 = .ok (.aload_n 0, 1) := by decide +kernel
theorem dL_kind_3 : decode cL_kind 3 = .ok (.iload_n 1, 1) := by decide +kernel
theorem dL_kind_4 : decode cL_kind 4 = .ok (.iload_n 2, 1) := by decide +kernel
theorem dL_kind_5 : decode cL_kind 5 = .ok (.invokevirtual 43, 3) := by decide +kernel
theorem dL_kind_8 : decode cL_kind 8 = .ok (.i2l, 1) := by decide +kernel
theorem dL_kind_9 : decode cL_kind 9 = .ok (.lastore, 1) := by decide +kernel
theorem dL_kind_10 : decode cL_kind 10 = .ok (.goto 7, 3) := by decide +kernel
theorem dL_kind_13 : decode cL_kind 13 = .ok (.astore 4, 2) := by decide +kernel
theorem dL_kind_15 : decode cL_kind 15 = .ok (.iconst 1, 1) := by decide +kernel
theorem dL_kind_16 : decode cL_kind 16 = .ok (.ireturn, 1) := by decide +kernel
theorem dL_kind_17 : decode cL_kind 17 = .ok (.iconst 0, 1) := by decide +kernel
theorem dL_kind_18 : decode cL_kind 18 = .ok (.ireturn, 1) := by decide +kernel
theorem dL_negate_0 : decode cL_negate 0 = .ok (.aload 4, 2) := by decide +kernel
theorem dL_negate_2 : decode cL_negate 2 = .ok (.iconst 0, 1) := by decide +kernel
theorem dL_negate_3 : decode cL_negate 3 = .ok (.aload_n 0, 1) := by decide +kernel
theorem dL_negate_4 : decode cL_negate 4 = .ok (.iload_n 1, 1) := by decide +kernel
theorem dL_negate_5 : decode cL_negate 5 = .ok (.iload_n 2, 1) := by decide +kernel
theorem dL_negate_6 : decode cL_negate 6 = .ok (.iload_n 3, 1) := by decide +kernel
theorem dL_negate_7 : decode cL_negate 7 = .ok (.invokevirtual 47, 3) := by decide +kernel
theorem dL_negate_10 : decode cL_negate 10 = .ok (.lastore, 1) := by decide +kernel
theorem dL_negate_11 : decode cL_negate 11 = .ok (.goto 7, 3) := by decide +kernel
theorem dL_negate_14 : decode cL_negate 14 = .ok (.astore 5, 2) := by decide +kernel
theorem dL_negate_16 : decode cL_negate 16 = .ok (.iconst 1, 1) := by decide +kernel
theorem dL_negate_17 : decode cL_negate 17 = .ok (.ireturn, 1) := by decide +kernel
theorem dL_negate_18 : decode cL_negate 18 = .ok (.iconst 0, 1) := by decide +kernel
theorem dL_negate_19 : decode cL_negate 19 = .ok (.ireturn, 1) := by decide +kernel
theorem dL_law_0 : decode code 0 = .ok (.new 8, 3) := by decide +kernel
theorem dL_law_3 : decode code 3 = .ok (.dup, 1) := by decide +kernel
theorem dL_law_4 : decode code 4 = .ok (.invokespecial 50, 3) := by decide +kernel
theorem dL_law_7 : decode code 7 = .ok (.astore_n 1, 1) := by decide +kernel
theorem dL_law_8 : decode code 8 = .ok (.new 51, 3) := by decide +kernel
theorem dL_law_11 : decode code 11 = .ok (.dup, 1) := by decide +kernel
theorem dL_law_12 : decode code 12 = .ok (.invokespecial 53, 3) := by decide +kernel
theorem dL_law_15 : decode code 15 = .ok (.astore_n 2, 1) := by decide +kernel
theorem dL_law_16 : decode code 16 = .ok (.iconst 1, 1) := by decide +kernel
theorem dL_law_17 : decode code 17 = .ok (.newarray .long, 2) := by decide +kernel
theorem dL_law_19 : decode code 19 = .ok (.astore_n 3, 1) := by decide +kernel
theorem dL_law_20 : decode code 20 = .ok (.iconst 0, 1) := by decide +kernel
theorem dL_law_21 : decode code 21 = .ok (.istore 4, 2) := by decide +kernel
theorem dL_law_23 : decode code 23 = .ok (.iload 4, 2) := by decide +kernel
theorem dL_law_25 : decode code 25 = .ok (.aload_n 0, 1) := by decide +kernel
theorem dL_law_26 : decode code 26 = .ok (.arraylength, 1) := by decide +kernel
theorem dL_law_27 : decode code 27 = .ok (.bipush 6, 2) := by decide +kernel
theorem dL_law_29 : decode code 29 = .ok (.isub, 1) := by decide +kernel
theorem dL_law_30 : decode code 30 = .ok (.if_icmp .gt 1050, 3) := by decide +kernel
theorem dL_law_33 : decode code 33 = .ok (.aload_n 0, 1) := by decide +kernel
theorem dL_law_34 : decode code 34 = .ok (.iload 4, 2) := by decide +kernel
theorem dL_law_36 : decode code 36 = .ok (.iaload, 1) := by decide +kernel
theorem dL_law_37 : decode code 37 = .ok (.bipush 15, 2) := by decide +kernel
theorem dL_law_39 : decode code 39 = .ok (.iand, 1) := by decide +kernel
theorem dL_law_40 : decode code 40 = .ok (.tableswitch 1034 0 10 #[60, 159, 214, 270, 295, 414, 522, 649, 760, 855, 939], 60) := by decide +kernel
theorem dL_law_100 : decode code 100 = .ok (.aload_n 1, 1) := by decide +kernel
theorem dL_law_101 : decode code 101 = .ok (.aload_n 0, 1) := by decide +kernel
theorem dL_law_102 : decode code 102 = .ok (.iload 4, 2) := by decide +kernel
theorem dL_law_104 : decode code 104 = .ok (.iconst 1, 1) := by decide +kernel
theorem dL_law_105 : decode code 105 = .ok (.iadd, 1) := by decide +kernel
theorem dL_law_106 : decode code 106 = .ok (.iaload, 1) := by decide +kernel
theorem dL_law_107 : decode code 107 = .ok (.aload_n 0, 1) := by decide +kernel
theorem dL_law_108 : decode code 108 = .ok (.iload 4, 2) := by decide +kernel
theorem dL_law_110 : decode code 110 = .ok (.iconst 2, 1) := by decide +kernel
theorem dL_law_111 : decode code 111 = .ok (.iadd, 1) := by decide +kernel
theorem dL_law_112 : decode code 112 = .ok (.iaload, 1) := by decide +kernel
theorem dL_law_113 : decode code 113 = .ok (.i2l, 1) := by decide +kernel
theorem dL_law_114 : decode code 114 = .ok (.bipush 32, 2) := by decide +kernel
theorem dL_law_116 : decode code 116 = .ok (.lshl, 1) := by decide +kernel
theorem dL_law_117 : decode code 117 = .ok (.aload_n 0, 1) := by decide +kernel
theorem dL_law_118 : decode code 118 = .ok (.iload 4, 2) := by decide +kernel
theorem dL_law_120 : decode code 120 = .ok (.iconst 3, 1) := by decide +kernel
theorem dL_law_121 : decode code 121 = .ok (.iadd, 1) := by decide +kernel
theorem dL_law_122 : decode code 122 = .ok (.iaload, 1) := by decide +kernel
theorem dL_law_123 : decode code 123 = .ok (.i2l, 1) := by decide +kernel
theorem dL_law_124 : decode code 124 = .ok (.ldc2_w 54, 3) := by decide +kernel
theorem dL_law_127 : decode code 127 = .ok (.land, 1) := by decide +kernel
theorem dL_law_128 : decode code 128 = .ok (.lor, 1) := by decide +kernel
theorem dL_law_129 : decode code 129 = .ok (.aload_n 3, 1) := by decide +kernel
theorem dL_law_130 : decode code 130 = .ok (.invokestatic 56, 3) := by decide +kernel
theorem dL_law_133 : decode code 133 = .ok (.istore 5, 2) := by decide +kernel
theorem dL_law_135 : decode code 135 = .ok (.aload_n 2, 1) := by decide +kernel
theorem dL_law_136 : decode code 136 = .ok (.aload_n 0, 1) := by decide +kernel
theorem dL_law_137 : decode code 137 = .ok (.iload 4, 2) := by decide +kernel
theorem dL_law_139 : decode code 139 = .ok (.iconst 1, 1) := by decide +kernel
theorem dL_law_140 : decode code 140 = .ok (.iadd, 1) := by decide +kernel
theorem dL_law_141 : decode code 141 = .ok (.iaload, 1) := by decide +kernel
theorem dL_law_142 : decode code 142 = .ok (.aload_n 0, 1) := by decide +kernel
theorem dL_law_143 : decode code 143 = .ok (.iload 4, 2) := by decide +kernel
theorem dL_law_145 : decode code 145 = .ok (.iconst 2, 1) := by decide +kernel
theorem dL_law_146 : decode code 146 = .ok (.iadd, 1) := by decide +kernel
theorem dL_law_147 : decode code 147 = .ok (.iaload, 1) := by decide +kernel
theorem dL_law_148 : decode code 148 = .ok (.i2l, 1) := by decide +kernel
theorem dL_law_149 : decode code 149 = .ok (.bipush 32, 2) := by decide +kernel
theorem dL_law_151 : decode code 151 = .ok (.lshl, 1) := by decide +kernel
theorem dL_law_152 : decode code 152 = .ok (.aload_n 0, 1) := by decide +kernel
theorem dL_law_153 : decode code 153 = .ok (.iload 4, 2) := by decide +kernel
theorem dL_law_155 : decode code 155 = .ok (.iconst 3, 1) := by decide +kernel
theorem dL_law_156 : decode code 156 = .ok (.iadd, 1) := by decide +kernel
theorem dL_law_157 : decode code 157 = .ok (.iaload, 1) := by decide +kernel
theorem dL_law_158 : decode code 158 = .ok (.i2l, 1) := by decide +kernel
theorem dL_law_159 : decode code 159 = .ok (.ldc2_w 54, 3) := by decide +kernel
theorem dL_law_162 : decode code 162 = .ok (.land, 1) := by decide +kernel
theorem dL_law_163 : decode code 163 = .ok (.lor, 1) := by decide +kernel
theorem dL_law_164 : decode code 164 = .ok (.invokevirtual 61, 3) := by decide +kernel
theorem dL_law_167 : decode code 167 = .ok (.lstore 6, 2) := by decide +kernel
theorem dL_law_169 : decode code 169 = .ok (.aload_n 2, 1) := by decide +kernel
theorem dL_law_170 : decode code 170 = .ok (.invokevirtual 62, 3) := by decide +kernel
theorem dL_law_173 : decode code 173 = .ok (.iload 5, 2) := by decide +kernel
theorem dL_law_175 : decode code 175 = .ok (.if_icmp .eq 5, 3) := by decide +kernel
theorem dL_law_178 : decode code 178 = .ok (.iconst 0, 1) := by decide +kernel
theorem dL_law_179 : decode code 179 = .ok (.ireturn, 1) := by decide +kernel
theorem dL_law_180 : decode code 180 = .ok (.iload 5, 2) := by decide +kernel
theorem dL_law_182 : decode code 182 = .ok (.ifCond .ne 14, 3) := by decide +kernel
theorem dL_law_185 : decode code 185 = .ok (.aload_n 3, 1) := by decide +kernel
theorem dL_law_186 : decode code 186 = .ok (.iconst 0, 1) := by decide +kernel
theorem dL_law_187 : decode code 187 = .ok (.laload, 1) := by decide +kernel
theorem dL_law_188 : decode code 188 = .ok (.lload 6, 2) := by decide +kernel
theorem dL_law_190 : decode code 190 = .ok (.lcmp, 1) := by decide +kernel
theorem dL_law_191 : decode code 191 = .ok (.ifCond .eq 5, 3) := by decide +kernel
theorem dL_law_194 : decode code 194 = .ok (.iconst 0, 1) := by decide +kernel
theorem dL_law_195 : decode code 195 = .ok (.ireturn, 1) := by decide +kernel
theorem dL_law_196 : decode code 196 = .ok (.goto 878, 3) := by decide +kernel
theorem dL_law_199 : decode code 199 = .ok (.aload_n 1, 1) := by decide +kernel
theorem dL_law_200 : decode code 200 = .ok (.aload_n 0, 1) := by decide +kernel
theorem dL_law_201 : decode code 201 = .ok (.iload 4, 2) := by decide +kernel
theorem dL_law_203 : decode code 203 = .ok (.iconst 1, 1) := by decide +kernel
theorem dL_law_204 : decode code 204 = .ok (.iadd, 1) := by decide +kernel
theorem dL_law_205 : decode code 205 = .ok (.iaload, 1) := by decide +kernel
theorem dL_law_206 : decode code 206 = .ok (.aload_n 3, 1) := by decide +kernel
theorem dL_law_207 : decode code 207 = .ok (.invokestatic 66, 3) := by decide +kernel
theorem dL_law_210 : decode code 210 = .ok (.istore 5, 2) := by decide +kernel
theorem dL_law_212 : decode code 212 = .ok (.aload_n 2, 1) := by decide +kernel
theorem dL_law_213 : decode code 213 = .ok (.aload_n 0, 1) := by decide +kernel
theorem dL_law_214 : decode code 214 = .ok (.iload 4, 2) := by decide +kernel
theorem dL_law_216 : decode code 216 = .ok (.iconst 1, 1) := by decide +kernel
theorem dL_law_217 : decode code 217 = .ok (.iadd, 1) := by decide +kernel
theorem dL_law_218 : decode code 218 = .ok (.iaload, 1) := by decide +kernel
theorem dL_law_219 : decode code 219 = .ok (.invokevirtual 69, 3) := by decide +kernel
theorem dL_law_222 : decode code 222 = .ok (.lstore 6, 2) := by decide +kernel
theorem dL_law_224 : decode code 224 = .ok (.aload_n 2, 1) := by decide +kernel
theorem dL_law_225 : decode code 225 = .ok (.invokevirtual 62, 3) := by decide +kernel
theorem dL_law_228 : decode code 228 = .ok (.iload 5, 2) := by decide +kernel
theorem dL_law_230 : decode code 230 = .ok (.if_icmp .eq 5, 3) := by decide +kernel
theorem dL_law_233 : decode code 233 = .ok (.iconst 0, 1) := by decide +kernel
theorem dL_law_234 : decode code 234 = .ok (.ireturn, 1) := by decide +kernel
theorem dL_law_235 : decode code 235 = .ok (.iload 5, 2) := by decide +kernel
theorem dL_law_237 : decode code 237 = .ok (.ifCond .ne 14, 3) := by decide +kernel
theorem dL_law_240 : decode code 240 = .ok (.aload_n 3, 1) := by decide +kernel
theorem dL_law_241 : decode code 241 = .ok (.iconst 0, 1) := by decide +kernel
theorem dL_law_242 : decode code 242 = .ok (.laload, 1) := by decide +kernel
theorem dL_law_243 : decode code 243 = .ok (.lload 6, 2) := by decide +kernel
theorem dL_law_245 : decode code 245 = .ok (.lcmp, 1) := by decide +kernel
theorem dL_law_246 : decode code 246 = .ok (.ifCond .eq 5, 3) := by decide +kernel
theorem dL_law_249 : decode code 249 = .ok (.iconst 0, 1) := by decide +kernel
theorem dL_law_250 : decode code 250 = .ok (.ireturn, 1) := by decide +kernel
theorem dL_law_251 : decode code 251 = .ok (.goto 823, 3) := by decide +kernel
theorem dL_law_254 : decode code 254 = .ok (.aload_n 1, 1) := by decide +kernel
theorem dL_law_255 : decode code 255 = .ok (.aload_n 0, 1) := by decide +kernel
theorem dL_law_256 : decode code 256 = .ok (.iload 4, 2) := by decide +kernel
theorem dL_law_258 : decode code 258 = .ok (.iconst 1, 1) := by decide +kernel
theorem dL_law_259 : decode code 259 = .ok (.iadd, 1) := by decide +kernel
theorem dL_law_260 : decode code 260 = .ok (.iaload, 1) := by decide +kernel
theorem dL_law_261 : decode code 261 = .ok (.aload_n 3, 1) := by decide +kernel
theorem dL_law_262 : decode code 262 = .ok (.invokestatic 70, 3) := by decide +kernel
theorem dL_law_265 : decode code 265 = .ok (.istore 5, 2) := by decide +kernel
theorem dL_law_267 : decode code 267 = .ok (.aload_n 2, 1) := by decide +kernel
theorem dL_law_268 : decode code 268 = .ok (.aload_n 0, 1) := by decide +kernel
theorem dL_law_269 : decode code 269 = .ok (.iload 4, 2) := by decide +kernel
theorem dL_law_271 : decode code 271 = .ok (.iconst 1, 1) := by decide +kernel
theorem dL_law_272 : decode code 272 = .ok (.iadd, 1) := by decide +kernel
theorem dL_law_273 : decode code 273 = .ok (.iaload, 1) := by decide +kernel
theorem dL_law_274 : decode code 274 = .ok (.invokevirtual 72, 3) := by decide +kernel
theorem dL_law_277 : decode code 277 = .ok (.istore 6, 2) := by decide +kernel
theorem dL_law_279 : decode code 279 = .ok (.aload_n 2, 1) := by decide +kernel
theorem dL_law_280 : decode code 280 = .ok (.invokevirtual 62, 3) := by decide +kernel
theorem dL_law_283 : decode code 283 = .ok (.iload 5, 2) := by decide +kernel
theorem dL_law_285 : decode code 285 = .ok (.if_icmp .eq 5, 3) := by decide +kernel
theorem dL_law_288 : decode code 288 = .ok (.iconst 0, 1) := by decide +kernel
theorem dL_law_289 : decode code 289 = .ok (.ireturn, 1) := by decide +kernel
theorem dL_law_290 : decode code 290 = .ok (.iload 5, 2) := by decide +kernel
theorem dL_law_292 : decode code 292 = .ok (.ifCond .ne 15, 3) := by decide +kernel
theorem dL_law_295 : decode code 295 = .ok (.aload_n 3, 1) := by decide +kernel
theorem dL_law_296 : decode code 296 = .ok (.iconst 0, 1) := by decide +kernel
theorem dL_law_297 : decode code 297 = .ok (.laload, 1) := by decide +kernel
theorem dL_law_298 : decode code 298 = .ok (.iload 6, 2) := by decide +kernel
theorem dL_law_300 : decode code 300 = .ok (.i2l, 1) := by decide +kernel
theorem dL_law_301 : decode code 301 = .ok (.lcmp, 1) := by decide +kernel
theorem dL_law_302 : decode code 302 = .ok (.ifCond .eq 5, 3) := by decide +kernel
theorem dL_law_305 : decode code 305 = .ok (.iconst 0, 1) := by decide +kernel
theorem dL_law_306 : decode code 306 = .ok (.ireturn, 1) := by decide +kernel
theorem dL_law_307 : decode code 307 = .ok (.goto 767, 3) := by decide +kernel
theorem dL_law_310 : decode code 310 = .ok (.aload_n 1, 1) := by decide +kernel
theorem dL_law_311 : decode code 311 = .ok (.aload_n 0, 1) := by decide +kernel
theorem dL_law_312 : decode code 312 = .ok (.iload 4, 2) := by decide +kernel
theorem dL_law_314 : decode code 314 = .ok (.iconst 1, 1) := by decide +kernel
theorem dL_law_315 : decode code 315 = .ok (.iadd, 1) := by decide +kernel
theorem dL_law_316 : decode code 316 = .ok (.iaload, 1) := by decide +kernel
theorem dL_law_317 : decode code 317 = .ok (.invokevirtual 73, 3) := by decide +kernel
theorem dL_law_320 : decode code 320 = .ok (.aload_n 2, 1) := by decide +kernel
theorem dL_law_321 : decode code 321 = .ok (.aload_n 0, 1) := by decide +kernel
theorem dL_law_322 : decode code 322 = .ok (.iload 4, 2) := by decide +kernel
theorem dL_law_324 : decode code 324 = .ok (.iconst 1, 1) := by decide +kernel
theorem dL_law_325 : decode code 325 = .ok (.iadd, 1) := by decide +kernel
theorem dL_law_326 : decode code 326 = .ok (.iaload, 1) := by decide +kernel
theorem dL_law_327 : decode code 327 = .ok (.invokevirtual 76, 3) := by decide +kernel
theorem dL_law_330 : decode code 330 = .ok (.if_icmp .eq 744, 3) := by decide +kernel
theorem dL_law_333 : decode code 333 = .ok (.iconst 0, 1) := by decide +kernel
theorem dL_law_334 : decode code 334 = .ok (.ireturn, 1) := by decide +kernel
theorem dL_law_335 : decode code 335 = .ok (.aload_n 1, 1) := by decide +kernel
theorem dL_law_336 : decode code 336 = .ok (.aload_n 0, 1) := by decide +kernel
theorem dL_law_337 : decode code 337 = .ok (.iload 4, 2) := by decide +kernel
theorem dL_law_339 : decode code 339 = .ok (.iconst 1, 1) := by decide +kernel
theorem dL_law_340 : decode code 340 = .ok (.iadd, 1) := by decide +kernel
theorem dL_law_341 : decode code 341 = .ok (.iaload, 1) := by decide +kernel
theorem dL_law_342 : decode code 342 = .ok (.aload_n 0, 1) := by decide +kernel
theorem dL_law_343 : decode code 343 = .ok (.iload 4, 2) := by decide +kernel
theorem dL_law_345 : decode code 345 = .ok (.iconst 2, 1) := by decide +kernel
theorem dL_law_346 : decode code 346 = .ok (.iadd, 1) := by decide +kernel
theorem dL_law_347 : decode code 347 = .ok (.iaload, 1) := by decide +kernel
theorem dL_law_348 : decode code 348 = .ok (.ifCond .eq 7, 3) := by decide +kernel
theorem dL_law_351 : decode code 351 = .ok (.iconst 1, 1) := by decide +kernel
theorem dL_law_352 : decode code 352 = .ok (.goto 4, 3) := by decide +kernel
theorem dL_law_355 : decode code 355 = .ok (.iconst 0, 1) := by decide +kernel
theorem dL_law_356 : decode code 356 = .ok (.aload_n 0, 1) := by decide +kernel
theorem dL_law_357 : decode code 357 = .ok (.iload 4, 2) := by decide +kernel
theorem dL_law_359 : decode code 359 = .ok (.iconst 3, 1) := by decide +kernel
theorem dL_law_360 : decode code 360 = .ok (.iadd, 1) := by decide +kernel
theorem dL_law_361 : decode code 361 = .ok (.iaload, 1) := by decide +kernel
theorem dL_law_362 : decode code 362 = .ok (.aload_n 0, 1) := by decide +kernel
theorem dL_law_363 : decode code 363 = .ok (.iload 4, 2) := by decide +kernel
theorem dL_law_365 : decode code 365 = .ok (.iconst 4, 1) := by decide +kernel
theorem dL_law_366 : decode code 366 = .ok (.iadd, 1) := by decide +kernel
theorem dL_law_367 : decode code 367 = .ok (.iaload, 1) := by decide +kernel
theorem dL_law_368 : decode code 368 = .ok (.aload_n 0, 1) := by decide +kernel
theorem dL_law_369 : decode code 369 = .ok (.iload 4, 2) := by decide +kernel
theorem dL_law_371 : decode code 371 = .ok (.iconst 5, 1) := by decide +kernel
theorem dL_law_372 : decode code 372 = .ok (.iadd, 1) := by decide +kernel
theorem dL_law_373 : decode code 373 = .ok (.iaload, 1) := by decide +kernel
theorem dL_law_374 : decode code 374 = .ok (.aload_n 3, 1) := by decide +kernel
theorem dL_law_375 : decode code 375 = .ok (.invokestatic 77, 3) := by decide +kernel
theorem dL_law_378 : decode code 378 = .ok (.istore 5, 2) := by decide +kernel
theorem dL_law_380 : decode code 380 = .ok (.aload_n 2, 1) := by decide +kernel
theorem dL_law_381 : decode code 381 = .ok (.aload_n 0, 1) := by decide +kernel
theorem dL_law_382 : decode code 382 = .ok (.iload 4, 2) := by decide +kernel
theorem dL_law_384 : decode code 384 = .ok (.iconst 1, 1) := by decide +kernel
theorem dL_law_385 : decode code 385 = .ok (.iadd, 1) := by decide +kernel
theorem dL_law_386 : decode code 386 = .ok (.iaload, 1) := by decide +kernel
theorem dL_law_387 : decode code 387 = .ok (.aload_n 0, 1) := by decide +kernel
theorem dL_law_388 : decode code 388 = .ok (.iload 4, 2) := by decide +kernel
theorem dL_law_390 : decode code 390 = .ok (.iconst 2, 1) := by decide +kernel
theorem dL_law_391 : decode code 391 = .ok (.iadd, 1) := by decide +kernel
theorem dL_law_392 : decode code 392 = .ok (.iaload, 1) := by decide +kernel
theorem dL_law_393 : decode code 393 = .ok (.ifCond .eq 7, 3) := by decide +kernel
theorem dL_law_396 : decode code 396 = .ok (.iconst 1, 1) := by decide +kernel
theorem dL_law_397 : decode code 397 = .ok (.goto 4, 3) := by decide +kernel
theorem dL_law_400 : decode code 400 = .ok (.iconst 0, 1) := by decide +kernel
theorem dL_law_401 : decode code 401 = .ok (.aload_n 0, 1) := by decide +kernel
theorem dL_law_402 : decode code 402 = .ok (.iload 4, 2) := by decide +kernel
theorem dL_law_404 : decode code 404 = .ok (.iconst 3, 1) := by decide +kernel
theorem dL_law_405 : decode code 405 = .ok (.iadd, 1) := by decide +kernel
theorem dL_law_406 : decode code 406 = .ok (.iaload, 1) := by decide +kernel
theorem dL_law_407 : decode code 407 = .ok (.aload_n 0, 1) := by decide +kernel
theorem dL_law_408 : decode code 408 = .ok (.iload 4, 2) := by decide +kernel
theorem dL_law_410 : decode code 410 = .ok (.iconst 4, 1) := by decide +kernel
theorem dL_law_411 : decode code 411 = .ok (.iadd, 1) := by decide +kernel
theorem dL_law_412 : decode code 412 = .ok (.iaload, 1) := by decide +kernel
theorem dL_law_413 : decode code 413 = .ok (.aload_n 0, 1) := by decide +kernel
theorem dL_law_414 : decode code 414 = .ok (.iload 4, 2) := by decide +kernel
theorem dL_law_416 : decode code 416 = .ok (.iconst 5, 1) := by decide +kernel
theorem dL_law_417 : decode code 417 = .ok (.iadd, 1) := by decide +kernel
theorem dL_law_418 : decode code 418 = .ok (.iaload, 1) := by decide +kernel
theorem dL_law_419 : decode code 419 = .ok (.invokevirtual 80, 3) := by decide +kernel
theorem dL_law_422 : decode code 422 = .ok (.lstore 6, 2) := by decide +kernel
theorem dL_law_424 : decode code 424 = .ok (.aload_n 2, 1) := by decide +kernel
theorem dL_law_425 : decode code 425 = .ok (.invokevirtual 62, 3) := by decide +kernel
theorem dL_law_428 : decode code 428 = .ok (.iload 5, 2) := by decide +kernel
theorem dL_law_430 : decode code 430 = .ok (.if_icmp .eq 5, 3) := by decide +kernel
theorem dL_law_433 : decode code 433 = .ok (.iconst 0, 1) := by decide +kernel
theorem dL_law_434 : decode code 434 = .ok (.ireturn, 1) := by decide +kernel
theorem dL_law_435 : decode code 435 = .ok (.iload 5, 2) := by decide +kernel
theorem dL_law_437 : decode code 437 = .ok (.ifCond .ne 14, 3) := by decide +kernel
theorem dL_law_440 : decode code 440 = .ok (.aload_n 3, 1) := by decide +kernel
theorem dL_law_441 : decode code 441 = .ok (.iconst 0, 1) := by decide +kernel
theorem dL_law_442 : decode code 442 = .ok (.laload, 1) := by decide +kernel
theorem dL_law_443 : decode code 443 = .ok (.lload 6, 2) := by decide +kernel
theorem dL_law_445 : decode code 445 = .ok (.lcmp, 1) := by decide +kernel
theorem dL_law_446 : decode code 446 = .ok (.ifCond .eq 5, 3) := by decide +kernel
theorem dL_law_449 : decode code 449 = .ok (.iconst 0, 1) := by decide +kernel
theorem dL_law_450 : decode code 450 = .ok (.ireturn, 1) := by decide +kernel
theorem dL_law_451 : decode code 451 = .ok (.goto 623, 3) := by decide +kernel
theorem dL_law_454 : decode code 454 = .ok (.aload_n 1, 1) := by decide +kernel
theorem dL_law_455 : decode code 455 = .ok (.aload_n 0, 1) := by decide +kernel
theorem dL_law_456 : decode code 456 = .ok (.iload 4, 2) := by decide +kernel
theorem dL_law_458 : decode code 458 = .ok (.iconst 1, 1) := by decide +kernel
theorem dL_law_459 : decode code 459 = .ok (.iadd, 1) := by decide +kernel
theorem dL_law_460 : decode code 460 = .ok (.iaload, 1) := by decide +kernel
theorem dL_law_461 : decode code 461 = .ok (.ifCond .eq 7, 3) := by decide +kernel
theorem dL_law_464 : decode code 464 = .ok (.iconst 1, 1) := by decide +kernel
theorem dL_law_465 : decode code 465 = .ok (.goto 4, 3) := by decide +kernel
theorem dL_law_468 : decode code 468 = .ok (.iconst 0, 1) := by decide +kernel
theorem dL_law_469 : decode code 469 = .ok (.aload_n 0, 1) := by decide +kernel
theorem dL_law_470 : decode code 470 = .ok (.iload 4, 2) := by decide +kernel
theorem dL_law_472 : decode code 472 = .ok (.iconst 2, 1) := by decide +kernel
theorem dL_law_473 : decode code 473 = .ok (.iadd, 1) := by decide +kernel
theorem dL_law_474 : decode code 474 = .ok (.iaload, 1) := by decide +kernel
theorem dL_law_475 : decode code 475 = .ok (.aload_n 0, 1) := by decide +kernel
theorem dL_law_476 : decode code 476 = .ok (.iload 4, 2) := by decide +kernel
theorem dL_law_478 : decode code 478 = .ok (.iconst 3, 1) := by decide +kernel
theorem dL_law_479 : decode code 479 = .ok (.iadd, 1) := by decide +kernel
theorem dL_law_480 : decode code 480 = .ok (.iaload, 1) := by decide +kernel
theorem dL_law_481 : decode code 481 = .ok (.aload_n 0, 1) := by decide +kernel
theorem dL_law_482 : decode code 482 = .ok (.iload 4, 2) := by decide +kernel
theorem dL_law_484 : decode code 484 = .ok (.iconst 4, 1) := by decide +kernel
theorem dL_law_485 : decode code 485 = .ok (.iadd, 1) := by decide +kernel
theorem dL_law_486 : decode code 486 = .ok (.iaload, 1) := by decide +kernel
theorem dL_law_487 : decode code 487 = .ok (.aload_n 3, 1) := by decide +kernel
theorem dL_law_488 : decode code 488 = .ok (.invokestatic 81, 3) := by decide +kernel
theorem dL_law_491 : decode code 491 = .ok (.istore 5, 2) := by decide +kernel
theorem dL_law_493 : decode code 493 = .ok (.aload_n 2, 1) := by decide +kernel
theorem dL_law_494 : decode code 494 = .ok (.aload_n 0, 1) := by decide +kernel
theorem dL_law_495 : decode code 495 = .ok (.iload 4, 2) := by decide +kernel
theorem dL_law_497 : decode code 497 = .ok (.iconst 1, 1) := by decide +kernel
theorem dL_law_498 : decode code 498 = .ok (.iadd, 1) := by decide +kernel
theorem dL_law_499 : decode code 499 = .ok (.iaload, 1) := by decide +kernel
theorem dL_law_500 : decode code 500 = .ok (.ifCond .eq 7, 3) := by decide +kernel
theorem dL_law_503 : decode code 503 = .ok (.iconst 1, 1) := by decide +kernel
theorem dL_law_504 : decode code 504 = .ok (.goto 4, 3) := by decide +kernel
theorem dL_law_507 : decode code 507 = .ok (.iconst 0, 1) := by decide +kernel
theorem dL_law_508 : decode code 508 = .ok (.aload_n 0, 1) := by decide +kernel
theorem dL_law_509 : decode code 509 = .ok (.iload 4, 2) := by decide +kernel
theorem dL_law_511 : decode code 511 = .ok (.iconst 2, 1) := by decide +kernel
theorem dL_law_512 : decode code 512 = .ok (.iadd, 1) := by decide +kernel
theorem dL_law_513 : decode code 513 = .ok (.iaload, 1) := by decide +kernel
theorem dL_law_514 : decode code 514 = .ok (.aload_n 0, 1) := by decide +kernel
theorem dL_law_515 : decode code 515 = .ok (.iload 4, 2) := by decide +kernel
theorem dL_law_517 : decode code 517 = .ok (.iconst 3, 1) := by decide +kernel
theorem dL_law_518 : decode code 518 = .ok (.iadd, 1) := by decide +kernel
theorem dL_law_519 : decode code 519 = .ok (.iaload, 1) := by decide +kernel
theorem dL_law_520 : decode code 520 = .ok (.aload_n 0, 1) := by decide +kernel
theorem dL_law_521 : decode code 521 = .ok (.iload 4, 2) := by decide +kernel
theorem dL_law_523 : decode code 523 = .ok (.iconst 4, 1) := by decide +kernel
theorem dL_law_524 : decode code 524 = .ok (.iadd, 1) := by decide +kernel
theorem dL_law_525 : decode code 525 = .ok (.iaload, 1) := by decide +kernel
theorem dL_law_526 : decode code 526 = .ok (.invokevirtual 84, 3) := by decide +kernel
theorem dL_law_529 : decode code 529 = .ok (.istore 6, 2) := by decide +kernel
theorem dL_law_531 : decode code 531 = .ok (.aload_n 2, 1) := by decide +kernel
theorem dL_law_532 : decode code 532 = .ok (.invokevirtual 62, 3) := by decide +kernel
theorem dL_law_535 : decode code 535 = .ok (.iload 5, 2) := by decide +kernel
theorem dL_law_537 : decode code 537 = .ok (.if_icmp .eq 5, 3) := by decide +kernel
theorem dL_law_540 : decode code 540 = .ok (.iconst 0, 1) := by decide +kernel
theorem dL_law_541 : decode code 541 = .ok (.ireturn, 1) := by decide +kernel
theorem dL_law_542 : decode code 542 = .ok (.iload 5, 2) := by decide +kernel
theorem dL_law_544 : decode code 544 = .ok (.ifCond .ne 15, 3) := by decide +kernel
theorem dL_law_547 : decode code 547 = .ok (.aload_n 3, 1) := by decide +kernel
theorem dL_law_548 : decode code 548 = .ok (.iconst 0, 1) := by decide +kernel
theorem dL_law_549 : decode code 549 = .ok (.laload, 1) := by decide +kernel
theorem dL_law_550 : decode code 550 = .ok (.iload 6, 2) := by decide +kernel
theorem dL_law_552 : decode code 552 = .ok (.i2l, 1) := by decide +kernel
theorem dL_law_553 : decode code 553 = .ok (.lcmp, 1) := by decide +kernel
theorem dL_law_554 : decode code 554 = .ok (.ifCond .eq 5, 3) := by decide +kernel
theorem dL_law_557 : decode code 557 = .ok (.iconst 0, 1) := by decide +kernel
theorem dL_law_558 : decode code 558 = .ok (.ireturn, 1) := by decide +kernel
theorem dL_law_559 : decode code 559 = .ok (.goto 515, 3) := by decide +kernel
theorem dL_law_562 : decode code 562 = .ok (.aload_n 1, 1) := by decide +kernel
theorem dL_law_563 : decode code 563 = .ok (.aload_n 0, 1) := by decide +kernel
theorem dL_law_564 : decode code 564 = .ok (.iload 4, 2) := by decide +kernel
theorem dL_law_566 : decode code 566 = .ok (.iconst 1, 1) := by decide +kernel
theorem dL_law_567 : decode code 567 = .ok (.iadd, 1) := by decide +kernel
theorem dL_law_568 : decode code 568 = .ok (.iaload, 1) := by decide +kernel
theorem dL_law_569 : decode code 569 = .ok (.ifCond .eq 7, 3) := by decide +kernel
theorem dL_law_572 : decode code 572 = .ok (.iconst 1, 1) := by decide +kernel
theorem dL_law_573 : decode code 573 = .ok (.goto 4, 3) := by decide +kernel
theorem dL_law_576 : decode code 576 = .ok (.iconst 0, 1) := by decide +kernel
theorem dL_law_577 : decode code 577 = .ok (.aload_n 0, 1) := by decide +kernel
theorem dL_law_578 : decode code 578 = .ok (.iload 4, 2) := by decide +kernel
theorem dL_law_580 : decode code 580 = .ok (.iconst 2, 1) := by decide +kernel
theorem dL_law_581 : decode code 581 = .ok (.iadd, 1) := by decide +kernel
theorem dL_law_582 : decode code 582 = .ok (.iaload, 1) := by decide +kernel
theorem dL_law_583 : decode code 583 = .ok (.aload_n 0, 1) := by decide +kernel
theorem dL_law_584 : decode code 584 = .ok (.iload 4, 2) := by decide +kernel
theorem dL_law_586 : decode code 586 = .ok (.iconst 3, 1) := by decide +kernel
theorem dL_law_587 : decode code 587 = .ok (.iadd, 1) := by decide +kernel
theorem dL_law_588 : decode code 588 = .ok (.iaload, 1) := by decide +kernel
theorem dL_law_589 : decode code 589 = .ok (.i2l, 1) := by decide +kernel
theorem dL_law_590 : decode code 590 = .ok (.bipush 32, 2) := by decide +kernel
theorem dL_law_592 : decode code 592 = .ok (.lshl, 1) := by decide +kernel
theorem dL_law_593 : decode code 593 = .ok (.aload_n 0, 1) := by decide +kernel
theorem dL_law_594 : decode code 594 = .ok (.iload 4, 2) := by decide +kernel
theorem dL_law_596 : decode code 596 = .ok (.iconst 4, 1) := by decide +kernel
theorem dL_law_597 : decode code 597 = .ok (.iadd, 1) := by decide +kernel
theorem dL_law_598 : decode code 598 = .ok (.iaload, 1) := by decide +kernel
theorem dL_law_599 : decode code 599 = .ok (.i2l, 1) := by decide +kernel
theorem dL_law_600 : decode code 600 = .ok (.ldc2_w 54, 3) := by decide +kernel
theorem dL_law_603 : decode code 603 = .ok (.land, 1) := by decide +kernel
theorem dL_law_604 : decode code 604 = .ok (.lor, 1) := by decide +kernel
theorem dL_law_605 : decode code 605 = .ok (.aload_n 3, 1) := by decide +kernel
theorem dL_law_606 : decode code 606 = .ok (.invokestatic 85, 3) := by decide +kernel
theorem dL_law_609 : decode code 609 = .ok (.istore 5, 2) := by decide +kernel
theorem dL_law_611 : decode code 611 = .ok (.aload_n 2, 1) := by decide +kernel
theorem dL_law_612 : decode code 612 = .ok (.aload_n 0, 1) := by decide +kernel
theorem dL_law_613 : decode code 613 = .ok (.iload 4, 2) := by decide +kernel
theorem dL_law_615 : decode code 615 = .ok (.iconst 1, 1) := by decide +kernel
theorem dL_law_616 : decode code 616 = .ok (.iadd, 1) := by decide +kernel
theorem dL_law_617 : decode code 617 = .ok (.iaload, 1) := by decide +kernel
theorem dL_law_618 : decode code 618 = .ok (.ifCond .eq 7, 3) := by decide +kernel
theorem dL_law_621 : decode code 621 = .ok (.iconst 1, 1) := by decide +kernel
theorem dL_law_622 : decode code 622 = .ok (.goto 4, 3) := by decide +kernel
theorem dL_law_625 : decode code 625 = .ok (.iconst 0, 1) := by decide +kernel
theorem dL_law_626 : decode code 626 = .ok (.aload_n 0, 1) := by decide +kernel
theorem dL_law_627 : decode code 627 = .ok (.iload 4, 2) := by decide +kernel
theorem dL_law_629 : decode code 629 = .ok (.iconst 2, 1) := by decide +kernel
theorem dL_law_630 : decode code 630 = .ok (.iadd, 1) := by decide +kernel
theorem dL_law_631 : decode code 631 = .ok (.iaload, 1) := by decide +kernel
theorem dL_law_632 : decode code 632 = .ok (.aload_n 0, 1) := by decide +kernel
theorem dL_law_633 : decode code 633 = .ok (.iload 4, 2) := by decide +kernel
theorem dL_law_635 : decode code 635 = .ok (.iconst 3, 1) := by decide +kernel
theorem dL_law_636 : decode code 636 = .ok (.iadd, 1) := by decide +kernel
theorem dL_law_637 : decode code 637 = .ok (.iaload, 1) := by decide +kernel
theorem dL_law_638 : decode code 638 = .ok (.i2l, 1) := by decide +kernel
theorem dL_law_639 : decode code 639 = .ok (.bipush 32, 2) := by decide +kernel
theorem dL_law_641 : decode code 641 = .ok (.lshl, 1) := by decide +kernel
theorem dL_law_642 : decode code 642 = .ok (.aload_n 0, 1) := by decide +kernel
theorem dL_law_643 : decode code 643 = .ok (.iload 4, 2) := by decide +kernel
theorem dL_law_645 : decode code 645 = .ok (.iconst 4, 1) := by decide +kernel
theorem dL_law_646 : decode code 646 = .ok (.iadd, 1) := by decide +kernel
theorem dL_law_647 : decode code 647 = .ok (.iaload, 1) := by decide +kernel
theorem dL_law_648 : decode code 648 = .ok (.i2l, 1) := by decide +kernel
theorem dL_law_649 : decode code 649 = .ok (.ldc2_w 54, 3) := by decide +kernel
theorem dL_law_652 : decode code 652 = .ok (.land, 1) := by decide +kernel
theorem dL_law_653 : decode code 653 = .ok (.lor, 1) := by decide +kernel
theorem dL_law_654 : decode code 654 = .ok (.invokevirtual 88, 3) := by decide +kernel
theorem dL_law_657 : decode code 657 = .ok (.lstore 6, 2) := by decide +kernel
theorem dL_law_659 : decode code 659 = .ok (.aload_n 2, 1) := by decide +kernel
theorem dL_law_660 : decode code 660 = .ok (.invokevirtual 62, 3) := by decide +kernel
theorem dL_law_663 : decode code 663 = .ok (.iload 5, 2) := by decide +kernel
theorem dL_law_665 : decode code 665 = .ok (.if_icmp .eq 5, 3) := by decide +kernel
theorem dL_law_668 : decode code 668 = .ok (.iconst 0, 1) := by decide +kernel
theorem dL_law_669 : decode code 669 = .ok (.ireturn, 1) := by decide +kernel
theorem dL_law_670 : decode code 670 = .ok (.iload 5, 2) := by decide +kernel
theorem dL_law_672 : decode code 672 = .ok (.ifCond .ne 14, 3) := by decide +kernel
theorem dL_law_675 : decode code 675 = .ok (.aload_n 3, 1) := by decide +kernel
theorem dL_law_676 : decode code 676 = .ok (.iconst 0, 1) := by decide +kernel
theorem dL_law_677 : decode code 677 = .ok (.laload, 1) := by decide +kernel
theorem dL_law_678 : decode code 678 = .ok (.lload 6, 2) := by decide +kernel
theorem dL_law_680 : decode code 680 = .ok (.lcmp, 1) := by decide +kernel
theorem dL_law_681 : decode code 681 = .ok (.ifCond .eq 5, 3) := by decide +kernel
theorem dL_law_684 : decode code 684 = .ok (.iconst 0, 1) := by decide +kernel
theorem dL_law_685 : decode code 685 = .ok (.ireturn, 1) := by decide +kernel
theorem dL_law_686 : decode code 686 = .ok (.goto 388, 3) := by decide +kernel
theorem dL_law_689 : decode code 689 = .ok (.aload_n 1, 1) := by decide +kernel
theorem dL_law_690 : decode code 690 = .ok (.aload_n 0, 1) := by decide +kernel
theorem dL_law_691 : decode code 691 = .ok (.iload 4, 2) := by decide +kernel
theorem dL_law_693 : decode code 693 = .ok (.iconst 1, 1) := by decide +kernel
theorem dL_law_694 : decode code 694 = .ok (.iadd, 1) := by decide +kernel
theorem dL_law_695 : decode code 695 = .ok (.iaload, 1) := by decide +kernel
theorem dL_law_696 : decode code 696 = .ok (.ifCond .eq 7, 3) := by decide +kernel
theorem dL_law_699 : decode code 699 = .ok (.iconst 1, 1) := by decide +kernel
theorem dL_law_700 : decode code 700 = .ok (.goto 4, 3) := by decide +kernel
theorem dL_law_703 : decode code 703 = .ok (.iconst 0, 1) := by decide +kernel
theorem dL_law_704 : decode code 704 = .ok (.aload_n 0, 1) := by decide +kernel
theorem dL_law_705 : decode code 705 = .ok (.iload 4, 2) := by decide +kernel
theorem dL_law_707 : decode code 707 = .ok (.iconst 2, 1) := by decide +kernel
theorem dL_law_708 : decode code 708 = .ok (.iadd, 1) := by decide +kernel
theorem dL_law_709 : decode code 709 = .ok (.iaload, 1) := by decide +kernel
theorem dL_law_710 : decode code 710 = .ok (.aload_n 0, 1) := by decide +kernel
theorem dL_law_711 : decode code 711 = .ok (.iload 4, 2) := by decide +kernel
theorem dL_law_713 : decode code 713 = .ok (.iconst 3, 1) := by decide +kernel
theorem dL_law_714 : decode code 714 = .ok (.iadd, 1) := by decide +kernel
theorem dL_law_715 : decode code 715 = .ok (.iaload, 1) := by decide +kernel
theorem dL_law_716 : decode code 716 = .ok (.ifCond .eq 7, 3) := by decide +kernel
theorem dL_law_719 : decode code 719 = .ok (.iconst 1, 1) := by decide +kernel
theorem dL_law_720 : decode code 720 = .ok (.goto 4, 3) := by decide +kernel
theorem dL_law_723 : decode code 723 = .ok (.iconst 0, 1) := by decide +kernel
theorem dL_law_724 : decode code 724 = .ok (.aload_n 3, 1) := by decide +kernel
theorem dL_law_725 : decode code 725 = .ok (.invokestatic 89, 3) := by decide +kernel
theorem dL_law_728 : decode code 728 = .ok (.istore 5, 2) := by decide +kernel
theorem dL_law_730 : decode code 730 = .ok (.aload_n 2, 1) := by decide +kernel
theorem dL_law_731 : decode code 731 = .ok (.aload_n 0, 1) := by decide +kernel
theorem dL_law_732 : decode code 732 = .ok (.iload 4, 2) := by decide +kernel
theorem dL_law_734 : decode code 734 = .ok (.iconst 1, 1) := by decide +kernel
theorem dL_law_735 : decode code 735 = .ok (.iadd, 1) := by decide +kernel
theorem dL_law_736 : decode code 736 = .ok (.iaload, 1) := by decide +kernel
theorem dL_law_737 : decode code 737 = .ok (.ifCond .eq 7, 3) := by decide +kernel
theorem dL_law_740 : decode code 740 = .ok (.iconst 1, 1) := by decide +kernel
theorem dL_law_741 : decode code 741 = .ok (.goto 4, 3) := by decide +kernel
theorem dL_law_744 : decode code 744 = .ok (.iconst 0, 1) := by decide +kernel
theorem dL_law_745 : decode code 745 = .ok (.aload_n 0, 1) := by decide +kernel
theorem dL_law_746 : decode code 746 = .ok (.iload 4, 2) := by decide +kernel
theorem dL_law_748 : decode code 748 = .ok (.iconst 2, 1) := by decide +kernel
theorem dL_law_749 : decode code 749 = .ok (.iadd, 1) := by decide +kernel
theorem dL_law_750 : decode code 750 = .ok (.iaload, 1) := by decide +kernel
theorem dL_law_751 : decode code 751 = .ok (.aload_n 0, 1) := by decide +kernel
theorem dL_law_752 : decode code 752 = .ok (.iload 4, 2) := by decide +kernel
theorem dL_law_754 : decode code 754 = .ok (.iconst 3, 1) := by decide +kernel
theorem dL_law_755 : decode code 755 = .ok (.iadd, 1) := by decide +kernel
theorem dL_law_756 : decode code 756 = .ok (.iaload, 1) := by decide +kernel
theorem dL_law_757 : decode code 757 = .ok (.ifCond .eq 7, 3) := by decide +kernel
theorem dL_law_760 : decode code 760 = .ok (.iconst 1, 1) := by decide +kernel
theorem dL_law_761 : decode code 761 = .ok (.goto 4, 3) := by decide +kernel
theorem dL_law_764 : decode code 764 = .ok (.iconst 0, 1) := by decide +kernel
theorem dL_law_765 : decode code 765 = .ok (.invokevirtual 92, 3) := by decide +kernel
theorem dL_law_768 : decode code 768 = .ok (.lstore 6, 2) := by decide +kernel
theorem dL_law_770 : decode code 770 = .ok (.aload_n 2, 1) := by decide +kernel
theorem dL_law_771 : decode code 771 = .ok (.invokevirtual 62, 3) := by decide +kernel
theorem dL_law_774 : decode code 774 = .ok (.iload 5, 2) := by decide +kernel
theorem dL_law_776 : decode code 776 = .ok (.if_icmp .eq 5, 3) := by decide +kernel
theorem dL_law_779 : decode code 779 = .ok (.iconst 0, 1) := by decide +kernel
theorem dL_law_780 : decode code 780 = .ok (.ireturn, 1) := by decide +kernel
theorem dL_law_781 : decode code 781 = .ok (.iload 5, 2) := by decide +kernel
theorem dL_law_783 : decode code 783 = .ok (.ifCond .ne 14, 3) := by decide +kernel
theorem dL_law_786 : decode code 786 = .ok (.aload_n 3, 1) := by decide +kernel
theorem dL_law_787 : decode code 787 = .ok (.iconst 0, 1) := by decide +kernel
theorem dL_law_788 : decode code 788 = .ok (.laload, 1) := by decide +kernel
theorem dL_law_789 : decode code 789 = .ok (.lload 6, 2) := by decide +kernel
theorem dL_law_791 : decode code 791 = .ok (.lcmp, 1) := by decide +kernel
theorem dL_law_792 : decode code 792 = .ok (.ifCond .eq 5, 3) := by decide +kernel
theorem dL_law_795 : decode code 795 = .ok (.iconst 0, 1) := by decide +kernel
theorem dL_law_796 : decode code 796 = .ok (.ireturn, 1) := by decide +kernel
theorem dL_law_797 : decode code 797 = .ok (.goto 277, 3) := by decide +kernel
theorem dL_law_800 : decode code 800 = .ok (.aload_n 1, 1) := by decide +kernel
theorem dL_law_801 : decode code 801 = .ok (.aload_n 0, 1) := by decide +kernel
theorem dL_law_802 : decode code 802 = .ok (.iload 4, 2) := by decide +kernel
theorem dL_law_804 : decode code 804 = .ok (.iconst 1, 1) := by decide +kernel
theorem dL_law_805 : decode code 805 = .ok (.iadd, 1) := by decide +kernel
theorem dL_law_806 : decode code 806 = .ok (.iaload, 1) := by decide +kernel
theorem dL_law_807 : decode code 807 = .ok (.ifCond .eq 7, 3) := by decide +kernel
theorem dL_law_810 : decode code 810 = .ok (.iconst 1, 1) := by decide +kernel
theorem dL_law_811 : decode code 811 = .ok (.goto 4, 3) := by decide +kernel
theorem dL_law_814 : decode code 814 = .ok (.iconst 0, 1) := by decide +kernel
theorem dL_law_815 : decode code 815 = .ok (.aload_n 0, 1) := by decide +kernel
theorem dL_law_816 : decode code 816 = .ok (.iload 4, 2) := by decide +kernel
theorem dL_law_818 : decode code 818 = .ok (.iconst 2, 1) := by decide +kernel
theorem dL_law_819 : decode code 819 = .ok (.iadd, 1) := by decide +kernel
theorem dL_law_820 : decode code 820 = .ok (.iaload, 1) := by decide +kernel
theorem dL_law_821 : decode code 821 = .ok (.aload_n 0, 1) := by decide +kernel
theorem dL_law_822 : decode code 822 = .ok (.iload 4, 2) := by decide +kernel
theorem dL_law_824 : decode code 824 = .ok (.iconst 3, 1) := by decide +kernel
theorem dL_law_825 : decode code 825 = .ok (.iadd, 1) := by decide +kernel
theorem dL_law_826 : decode code 826 = .ok (.iaload, 1) := by decide +kernel
theorem dL_law_827 : decode code 827 = .ok (.aload_n 3, 1) := by decide +kernel
theorem dL_law_828 : decode code 828 = .ok (.invokestatic 93, 3) := by decide +kernel
theorem dL_law_831 : decode code 831 = .ok (.istore 5, 2) := by decide +kernel
theorem dL_law_833 : decode code 833 = .ok (.aload_n 2, 1) := by decide +kernel
theorem dL_law_834 : decode code 834 = .ok (.aload_n 0, 1) := by decide +kernel
theorem dL_law_835 : decode code 835 = .ok (.iload 4, 2) := by decide +kernel
theorem dL_law_837 : decode code 837 = .ok (.iconst 1, 1) := by decide +kernel
theorem dL_law_838 : decode code 838 = .ok (.iadd, 1) := by decide +kernel
theorem dL_law_839 : decode code 839 = .ok (.iaload, 1) := by decide +kernel
theorem dL_law_840 : decode code 840 = .ok (.ifCond .eq 7, 3) := by decide +kernel
theorem dL_law_843 : decode code 843 = .ok (.iconst 1, 1) := by decide +kernel
theorem dL_law_844 : decode code 844 = .ok (.goto 4, 3) := by decide +kernel
theorem dL_law_847 : decode code 847 = .ok (.iconst 0, 1) := by decide +kernel
theorem dL_law_848 : decode code 848 = .ok (.aload_n 0, 1) := by decide +kernel
theorem dL_law_849 : decode code 849 = .ok (.iload 4, 2) := by decide +kernel
theorem dL_law_851 : decode code 851 = .ok (.iconst 2, 1) := by decide +kernel
theorem dL_law_852 : decode code 852 = .ok (.iadd, 1) := by decide +kernel
theorem dL_law_853 : decode code 853 = .ok (.iaload, 1) := by decide +kernel
theorem dL_law_854 : decode code 854 = .ok (.aload_n 0, 1) := by decide +kernel
theorem dL_law_855 : decode code 855 = .ok (.iload 4, 2) := by decide +kernel
theorem dL_law_857 : decode code 857 = .ok (.iconst 3, 1) := by decide +kernel
theorem dL_law_858 : decode code 858 = .ok (.iadd, 1) := by decide +kernel
theorem dL_law_859 : decode code 859 = .ok (.iaload, 1) := by decide +kernel
theorem dL_law_860 : decode code 860 = .ok (.invokevirtual 96, 3) := by decide +kernel
theorem dL_law_863 : decode code 863 = .ok (.lstore 6, 2) := by decide +kernel
theorem dL_law_865 : decode code 865 = .ok (.aload_n 2, 1) := by decide +kernel
theorem dL_law_866 : decode code 866 = .ok (.invokevirtual 62, 3) := by decide +kernel
theorem dL_law_869 : decode code 869 = .ok (.iload 5, 2) := by decide +kernel
theorem dL_law_871 : decode code 871 = .ok (.if_icmp .eq 5, 3) := by decide +kernel
theorem dL_law_874 : decode code 874 = .ok (.iconst 0, 1) := by decide +kernel
theorem dL_law_875 : decode code 875 = .ok (.ireturn, 1) := by decide +kernel
theorem dL_law_876 : decode code 876 = .ok (.iload 5, 2) := by decide +kernel
theorem dL_law_878 : decode code 878 = .ok (.ifCond .ne 14, 3) := by decide +kernel
theorem dL_law_881 : decode code 881 = .ok (.aload_n 3, 1) := by decide +kernel
theorem dL_law_882 : decode code 882 = .ok (.iconst 0, 1) := by decide +kernel
theorem dL_law_883 : decode code 883 = .ok (.laload, 1) := by decide +kernel
theorem dL_law_884 : decode code 884 = .ok (.lload 6, 2) := by decide +kernel
theorem dL_law_886 : decode code 886 = .ok (.lcmp, 1) := by decide +kernel
theorem dL_law_887 : decode code 887 = .ok (.ifCond .eq 5, 3) := by decide +kernel
theorem dL_law_890 : decode code 890 = .ok (.iconst 0, 1) := by decide +kernel
theorem dL_law_891 : decode code 891 = .ok (.ireturn, 1) := by decide +kernel
theorem dL_law_892 : decode code 892 = .ok (.goto 182, 3) := by decide +kernel
theorem dL_law_895 : decode code 895 = .ok (.aload_n 1, 1) := by decide +kernel
theorem dL_law_896 : decode code 896 = .ok (.aload_n 0, 1) := by decide +kernel
theorem dL_law_897 : decode code 897 = .ok (.iload 4, 2) := by decide +kernel
theorem dL_law_899 : decode code 899 = .ok (.iconst 1, 1) := by decide +kernel
theorem dL_law_900 : decode code 900 = .ok (.iadd, 1) := by decide +kernel
theorem dL_law_901 : decode code 901 = .ok (.iaload, 1) := by decide +kernel
theorem dL_law_902 : decode code 902 = .ok (.ifCond .eq 7, 3) := by decide +kernel
theorem dL_law_905 : decode code 905 = .ok (.iconst 1, 1) := by decide +kernel
theorem dL_law_906 : decode code 906 = .ok (.goto 4, 3) := by decide +kernel
theorem dL_law_909 : decode code 909 = .ok (.iconst 0, 1) := by decide +kernel
theorem dL_law_910 : decode code 910 = .ok (.aload_n 0, 1) := by decide +kernel
theorem dL_law_911 : decode code 911 = .ok (.iload 4, 2) := by decide +kernel
theorem dL_law_913 : decode code 913 = .ok (.iconst 2, 1) := by decide +kernel
theorem dL_law_914 : decode code 914 = .ok (.iadd, 1) := by decide +kernel
theorem dL_law_915 : decode code 915 = .ok (.iaload, 1) := by decide +kernel
theorem dL_law_916 : decode code 916 = .ok (.aload_n 3, 1) := by decide +kernel
theorem dL_law_917 : decode code 917 = .ok (.invokestatic 97, 3) := by decide +kernel
theorem dL_law_920 : decode code 920 = .ok (.istore 5, 2) := by decide +kernel
theorem dL_law_922 : decode code 922 = .ok (.aload_n 2, 1) := by decide +kernel
theorem dL_law_923 : decode code 923 = .ok (.aload_n 0, 1) := by decide +kernel
theorem dL_law_924 : decode code 924 = .ok (.iload 4, 2) := by decide +kernel
theorem dL_law_926 : decode code 926 = .ok (.iconst 1, 1) := by decide +kernel
theorem dL_law_927 : decode code 927 = .ok (.iadd, 1) := by decide +kernel
theorem dL_law_928 : decode code 928 = .ok (.iaload, 1) := by decide +kernel
theorem dL_law_929 : decode code 929 = .ok (.ifCond .eq 7, 3) := by decide +kernel
theorem dL_law_932 : decode code 932 = .ok (.iconst 1, 1) := by decide +kernel
theorem dL_law_933 : decode code 933 = .ok (.goto 4, 3) := by decide +kernel
theorem dL_law_936 : decode code 936 = .ok (.iconst 0, 1) := by decide +kernel
theorem dL_law_937 : decode code 937 = .ok (.aload_n 0, 1) := by decide +kernel
theorem dL_law_938 : decode code 938 = .ok (.iload 4, 2) := by decide +kernel
theorem dL_law_940 : decode code 940 = .ok (.iconst 2, 1) := by decide +kernel
theorem dL_law_941 : decode code 941 = .ok (.iadd, 1) := by decide +kernel
theorem dL_law_942 : decode code 942 = .ok (.iaload, 1) := by decide +kernel
theorem dL_law_943 : decode code 943 = .ok (.invokevirtual 100, 3) := by decide +kernel
theorem dL_law_946 : decode code 946 = .ok (.istore 6, 2) := by decide +kernel
theorem dL_law_948 : decode code 948 = .ok (.aload_n 2, 1) := by decide +kernel
theorem dL_law_949 : decode code 949 = .ok (.invokevirtual 62, 3) := by decide +kernel
theorem dL_law_952 : decode code 952 = .ok (.iload 5, 2) := by decide +kernel
theorem dL_law_954 : decode code 954 = .ok (.if_icmp .eq 5, 3) := by decide +kernel
theorem dL_law_957 : decode code 957 = .ok (.iconst 0, 1) := by decide +kernel
theorem dL_law_958 : decode code 958 = .ok (.ireturn, 1) := by decide +kernel
theorem dL_law_959 : decode code 959 = .ok (.iload 5, 2) := by decide +kernel
theorem dL_law_961 : decode code 961 = .ok (.ifCond .ne 15, 3) := by decide +kernel
theorem dL_law_964 : decode code 964 = .ok (.aload_n 3, 1) := by decide +kernel
theorem dL_law_965 : decode code 965 = .ok (.iconst 0, 1) := by decide +kernel
theorem dL_law_966 : decode code 966 = .ok (.laload, 1) := by decide +kernel
theorem dL_law_967 : decode code 967 = .ok (.iload 6, 2) := by decide +kernel
theorem dL_law_969 : decode code 969 = .ok (.i2l, 1) := by decide +kernel
theorem dL_law_970 : decode code 970 = .ok (.lcmp, 1) := by decide +kernel
theorem dL_law_971 : decode code 971 = .ok (.ifCond .eq 5, 3) := by decide +kernel
theorem dL_law_974 : decode code 974 = .ok (.iconst 0, 1) := by decide +kernel
theorem dL_law_975 : decode code 975 = .ok (.ireturn, 1) := by decide +kernel
theorem dL_law_976 : decode code 976 = .ok (.goto 98, 3) := by decide +kernel
theorem dL_law_979 : decode code 979 = .ok (.aload_n 1, 1) := by decide +kernel
theorem dL_law_980 : decode code 980 = .ok (.aload_n 0, 1) := by decide +kernel
theorem dL_law_981 : decode code 981 = .ok (.iload 4, 2) := by decide +kernel
theorem dL_law_983 : decode code 983 = .ok (.iconst 1, 1) := by decide +kernel
theorem dL_law_984 : decode code 984 = .ok (.iadd, 1) := by decide +kernel
theorem dL_law_985 : decode code 985 = .ok (.iaload, 1) := by decide +kernel
theorem dL_law_986 : decode code 986 = .ok (.ifCond .eq 7, 3) := by decide +kernel
theorem dL_law_989 : decode code 989 = .ok (.iconst 1, 1) := by decide +kernel
theorem dL_law_990 : decode code 990 = .ok (.goto 4, 3) := by decide +kernel
theorem dL_law_993 : decode code 993 = .ok (.iconst 0, 1) := by decide +kernel
theorem dL_law_994 : decode code 994 = .ok (.aload_n 0, 1) := by decide +kernel
theorem dL_law_995 : decode code 995 = .ok (.iload 4, 2) := by decide +kernel
theorem dL_law_997 : decode code 997 = .ok (.iconst 2, 1) := by decide +kernel
theorem dL_law_998 : decode code 998 = .ok (.iadd, 1) := by decide +kernel
theorem dL_law_999 : decode code 999 = .ok (.iaload, 1) := by decide +kernel
theorem dL_law_1000 : decode code 1000 = .ok (.aload_n 0, 1) := by decide +kernel
theorem dL_law_1001 : decode code 1001 = .ok (.iload 4, 2) := by decide +kernel
theorem dL_law_1003 : decode code 1003 = .ok (.iconst 3, 1) := by decide +kernel
theorem dL_law_1004 : decode code 1004 = .ok (.iadd, 1) := by decide +kernel
theorem dL_law_1005 : decode code 1005 = .ok (.iaload, 1) := by decide +kernel
theorem dL_law_1006 : decode code 1006 = .ok (.aload_n 3, 1) := by decide +kernel
theorem dL_law_1007 : decode code 1007 = .ok (.invokestatic 101, 3) := by decide +kernel
theorem dL_law_1010 : decode code 1010 = .ok (.istore 5, 2) := by decide +kernel
theorem dL_law_1012 : decode code 1012 = .ok (.aload_n 2, 1) := by decide +kernel
theorem dL_law_1013 : decode code 1013 = .ok (.aload_n 0, 1) := by decide +kernel
theorem dL_law_1014 : decode code 1014 = .ok (.iload 4, 2) := by decide +kernel
theorem dL_law_1016 : decode code 1016 = .ok (.iconst 1, 1) := by decide +kernel
theorem dL_law_1017 : decode code 1017 = .ok (.iadd, 1) := by decide +kernel
theorem dL_law_1018 : decode code 1018 = .ok (.iaload, 1) := by decide +kernel
theorem dL_law_1019 : decode code 1019 = .ok (.ifCond .eq 7, 3) := by decide +kernel
theorem dL_law_1022 : decode code 1022 = .ok (.iconst 1, 1) := by decide +kernel
theorem dL_law_1023 : decode code 1023 = .ok (.goto 4, 3) := by decide +kernel
theorem dL_law_1026 : decode code 1026 = .ok (.iconst 0, 1) := by decide +kernel
theorem dL_law_1027 : decode code 1027 = .ok (.aload_n 0, 1) := by decide +kernel
theorem dL_law_1028 : decode code 1028 = .ok (.iload 4, 2) := by decide +kernel
theorem dL_law_1030 : decode code 1030 = .ok (.iconst 2, 1) := by decide +kernel
theorem dL_law_1031 : decode code 1031 = .ok (.iadd, 1) := by decide +kernel
theorem dL_law_1032 : decode code 1032 = .ok (.iaload, 1) := by decide +kernel
theorem dL_law_1033 : decode code 1033 = .ok (.aload_n 0, 1) := by decide +kernel
theorem dL_law_1034 : decode code 1034 = .ok (.iload 4, 2) := by decide +kernel
theorem dL_law_1036 : decode code 1036 = .ok (.iconst 3, 1) := by decide +kernel
theorem dL_law_1037 : decode code 1037 = .ok (.iadd, 1) := by decide +kernel
theorem dL_law_1038 : decode code 1038 = .ok (.iaload, 1) := by decide +kernel
theorem dL_law_1039 : decode code 1039 = .ok (.invokevirtual 103, 3) := by decide +kernel
theorem dL_law_1042 : decode code 1042 = .ok (.lstore 6, 2) := by decide +kernel
theorem dL_law_1044 : decode code 1044 = .ok (.aload_n 2, 1) := by decide +kernel
theorem dL_law_1045 : decode code 1045 = .ok (.invokevirtual 62, 3) := by decide +kernel
theorem dL_law_1048 : decode code 1048 = .ok (.iload 5, 2) := by decide +kernel
theorem dL_law_1050 : decode code 1050 = .ok (.if_icmp .eq 5, 3) := by decide +kernel
theorem dL_law_1053 : decode code 1053 = .ok (.iconst 0, 1) := by decide +kernel
theorem dL_law_1054 : decode code 1054 = .ok (.ireturn, 1) := by decide +kernel
theorem dL_law_1055 : decode code 1055 = .ok (.iload 5, 2) := by decide +kernel
theorem dL_law_1057 : decode code 1057 = .ok (.ifCond .ne 14, 3) := by decide +kernel
theorem dL_law_1060 : decode code 1060 = .ok (.aload_n 3, 1) := by decide +kernel
theorem dL_law_1061 : decode code 1061 = .ok (.iconst 0, 1) := by decide +kernel
theorem dL_law_1062 : decode code 1062 = .ok (.laload, 1) := by decide +kernel
theorem dL_law_1063 : decode code 1063 = .ok (.lload 6, 2) := by decide +kernel
theorem dL_law_1065 : decode code 1065 = .ok (.lcmp, 1) := by decide +kernel
theorem dL_law_1066 : decode code 1066 = .ok (.ifCond .eq 5, 3) := by decide +kernel
theorem dL_law_1069 : decode code 1069 = .ok (.iconst 0, 1) := by decide +kernel
theorem dL_law_1070 : decode code 1070 = .ok (.ireturn, 1) := by decide +kernel
theorem dL_law_1071 : decode code 1071 = .ok (.goto 3, 3) := by decide +kernel
theorem dL_law_1074 : decode code 1074 = .ok (.iinc 4 6, 3) := by decide +kernel
theorem dL_law_1077 : decode code 1077 = .ok (.goto (-1054), 3) := by decide +kernel
theorem dL_law_1080 : decode code 1080 = .ok (.iconst 1, 1) := by decide +kernel
theorem dL_law_1081 : decode code 1081 = .ok (.ireturn, 1) := by decide +kernel
end
section
/-! Rounding as a number: the two sizes i (0 wide, 1 narrow), a magnitude N times 2 ^ e, 'more' says that a little more than N is meant. -/
def zP (i : Nat) : Nat := if i = 0 then 53 else 24
def zB (i : Nat) : Nat := if i = 0 then 1023 else 127
def zL (i : Nat) : Nat := 2 ^ (zP i - 1)
def zI (i : Nat) : Nat := (2 * zB i + 1) * zL i
/-- what is cut off: 0 nothing, 1 less than half, 2 half, 3 more than half -/
def zc (r m : Nat) (more : Bool) : Nat :=
  if 2 * r < m then (if r = 0 ∧ more = false then 0 else 1) else if 2 * r = m ∧ more = false then 2 else 3
def zq (N : Nat) (low : Int) : Nat := N * 2 ^ (-low).toNat / 2 ^ low.toNat
def zr (N : Nat) (low : Int) : Nat := N * 2 ^ (-low).toNat % 2 ^ low.toNat
def zu (md : Nat) (sg : Bool) (q c : Nat) : Nat :=
  if md = 0 then (if c = 3 ∨ c = 2 ∧ q % 2 = 1 then 1 else 0)
  else if md = 2 then (if c ≠ 0 ∧ sg = false then 1 else 0)
  else if md = 3 then (if c ≠ 0 ∧ sg = true then 1 else 0) else 0
def zX (i N : Nat) (e : Int) : Int := max ((N.log2 : Int) + e + (zB i : Int)) 1
def zlow (i : Nat) (E e : Int) : Int := E - (zB i : Int) - ((zP i : Int) - 1) - e
def zhuge (i md : Nat) (sg : Bool) : Nat × Nat := (if md = 1 ∨ md = (if sg then 2 else 3) then zI i - 1 else zI i, 5)
def zend (i md : Nat) (sg : Bool) (E : Int) (q c : Nat) : Nat × Nat :=
  if 2 * (zB i : Int) < E ∨ zI i ≤ (E - 1).toNat * zL i + (q + zu md sg q c) then zhuge i md sg
  else ((E - 1).toNat * zL i + (q + zu md sg q c), if c = 0 then 0 else if (E - 1).toNat * zL i + (q + zu md sg q c) < zL i then 3 else 1)
def zround (i md : Nat) (sg : Bool) (N : Nat) (e : Int) (more : Bool) : Nat × Nat :=
  zend i md sg (zX i N e) (zq N (zlow i (zX i N e) e)) (zc (zr N (zlow i (zX i N e) e)) (2 ^ (zlow i (zX i N e) e).toNat) more)
theorem z_p (k : Nat) : 0 < 2 ^ k := Nat.two_pow_pos k
theorem z_ne {N : Nat} (h : N ≠ 0) (k : Nat) : N * 2 ^ k ≠ 0 := Nat.mul_ne_zero h (Nat.ne_of_gt (z_p k))
theorem z_log_mul {N : Nat} (h : N ≠ 0) (k : Nat) : (N * 2 ^ k).log2 = N.log2 + k := by
  refine (Nat.log2_eq_iff (z_ne h k)).2 ⟨?_, ?_⟩
  · rw [Nat.pow_add]
    exact Nat.mul_le_mul_right _ (Nat.log2_self_le h)
  · rw [show N.log2 + k + 1 = (N.log2 + 1) + k by omega, Nat.pow_add]
    exact Nat.mul_lt_mul_of_pos_right Nat.lt_log2_self (z_p k)
theorem z_log_div {N k : Nat} (h : 2 ^ k ≤ N) : (N / 2 ^ k).log2 = N.log2 - k := by
  have hp := z_p k
  have h0 : N ≠ 0 := by omega
  have hk : k ≤ N.log2 := (Nat.le_log2 h0).2 h
  have h1 : N / 2 ^ k ≠ 0 := by
    have := Nat.div_pos h hp
    omega
  refine (Nat.log2_eq_iff h1).2 ⟨?_, ?_⟩
  · rw [Nat.le_div_iff_mul_le hp, ← Nat.pow_add, Nat.sub_add_cancel hk]
    exact Nat.log2_self_le h0
  · rw [Nat.div_lt_iff_lt_mul hp, ← Nat.pow_add, show N.log2 - k + 1 + k = N.log2 + 1 by omega]
    exact Nat.lt_log2_self
theorem z_log_lt {N k : Nat} (h : N < 2 ^ k) (h0 : N ≠ 0) : N.log2 < k := (Nat.log2_lt h0).2 h
theorem z_log_ge {N k : Nat} (h : 2 ^ k ≤ N) : k ≤ N.log2 := by
  have hp := z_p k
  exact (Nat.le_log2 (by omega)).2 h
theorem zc_0 {m : Nat} (h : 0 < m) (more : Bool) : zc 0 m more = if more = false then 0 else 1 := by
  unfold zc
  rw [if_pos (by omega)]
  cases more <;> simp
theorem zc_mul (r m : Nat) {a : Nat} (ha : 0 < a) (more : Bool) : zc (r * a) (m * a) more = zc r m more := by
  have h1 : 2 * (r * a) < m * a ↔ 2 * r < m := by
    rw [← Nat.mul_assoc]
    exact Nat.mul_lt_mul_right ha
  have h2 : 2 * (r * a) = m * a ↔ 2 * r = m := by
    rw [← Nat.mul_assoc]
    exact Nat.mul_right_cancel_iff ha
  have h3 : r * a = 0 ↔ r = 0 := by
    rw [Nat.mul_eq_zero]
    omega
  simp only [zc, h1, h2, h3]
theorem z_cutS (N k : Nat) (low : Int) (more : Bool) : zq (N * 2 ^ k) (low + k) = zq N low ∧ zc (zr (N * 2 ^ k) (low + k)) (2 ^ (low + k).toNat) more = zc (zr N low) (2 ^ low.toNat) more := by
  unfold zq zr
  by_cases h : 0 ≤ low
  · obtain ⟨n, rfl⟩ := Int.eq_ofNat_of_zero_le h
    have e1 : (-(n : Int)).toNat = 0 := by omega
    have e2 : ((n : Int) + (k : Int)).toNat = n + k := by omega
    have e3 : (-((n : Int) + (k : Int))).toNat = 0 := by omega
    have e4 : ((n : Int)).toNat = n := by omega
    rw [e1, e2, e3, e4, Nat.pow_zero, Nat.mul_one, Nat.mul_one, Nat.pow_add]
    refine ⟨Nat.mul_div_mul_right _ _ (z_p k), ?_⟩
    rw [Nat.mul_mod_mul_right, zc_mul _ _ (z_p k)]
  · obtain ⟨j, rfl⟩ : ∃ j : Nat, low = -(j : Int) := ⟨(-low).toNat, by omega⟩
    have e1 : (-(-(j : Int))).toNat = j := by omega
    have e2 : (-(j : Int)).toNat = 0 := by omega
    rw [e1, e2, Nat.pow_zero, Nat.div_one, Nat.mod_one, zc_0 Nat.one_pos]
    by_cases hk : k ≤ j
    · have e3 : (-(j : Int) + (k : Int)).toNat = 0 := by omega
      have e4 : (-(-(j : Int) + (k : Int))).toNat = j - k := by omega
      rw [e3, e4, Nat.pow_zero, Nat.div_one, Nat.mod_one, zc_0 Nat.one_pos, Nat.mul_assoc, ← Nat.pow_add, Nat.add_sub_cancel' hk]
      exact ⟨rfl, rfl⟩
    · have e3 : (-(j : Int) + (k : Int)).toNat = k - j := by omega
      have e4 : (-(-(j : Int) + (k : Int))).toNat = 0 := by omega
      have e5 : N * 2 ^ k = N * 2 ^ j * 2 ^ (k - j) := by
        rw [Nat.mul_assoc, ← Nat.pow_add, show j + (k - j) = k by omega]
      rw [e3, e4, Nat.pow_zero, Nat.mul_one, e5, Nat.mul_div_cancel _ (z_p _), Nat.mul_mod_left, zc_0 (z_p _)]
      exact ⟨rfl, rfl⟩
theorem zX_shift (i : Nat) {N : Nat} (h : N ≠ 0) (k : Nat) (e : Int) : zX i (N * 2 ^ k) e = zX i N (e + k) := by
  unfold zX
  rw [z_log_mul h, show (((N.log2 + k : Nat) : Int) + e + (zB i : Int)) = (N.log2 : Int) + (e + k) + (zB i : Int) by omega]
/-- N * 2 ^ k times 2 ^ e is N times 2 ^ (e + k) -/
theorem zround_shift (i md : Nat) (sg : Bool) {N : Nat} (h : N ≠ 0) (k : Nat) (e : Int) (more : Bool) : zround i md sg (N * 2 ^ k) e more = zround i md sg N (e + k) more := by
  have hl : ∀ E, zlow i E e = zlow i E (e + k) + k := fun E => by
    unfold zlow
    omega
  unfold zround
  rw [zX_shift i h, hl]
  obtain ⟨h1, h2⟩ := z_cutS N k (zlow i (zX i N (e + k)) (e + k)) more
  rw [h1, h2]
theorem zc_coarse {t a r m2 : Nat} (ht : t < a) (more : Bool) : zc (t + a * r) (a * (2 * m2)) more = zc r (2 * m2) (more || decide (t ≠ 0)) := by
  have e1 : a * (2 * m2) = 2 * (a * m2) := Nat.mul_left_comm _ _ _
  rw [e1]
  rcases Nat.lt_trichotomy r m2 with h | h | h
  · have h9 : a * (r + 1) ≤ a * m2 := Nat.mul_le_mul_left a h
    rw [Nat.mul_succ] at h9
    have h3 : (t + a * r = 0) ↔ (t = 0 ∧ r = 0) := by
      rw [Nat.add_eq_zero_iff, Nat.mul_eq_zero]
      omega
    have c1 : 2 * (t + a * r) < 2 * (a * m2) := by omega
    have c2 : 2 * r < 2 * m2 := by omega
    unfold zc
    rw [if_pos c1, if_pos c2]
    simp only [h3]
    by_cases h0 : t = 0 <;> cases more <;> simp [h0]
  · subst h
    have c1 : ¬ (2 * (t + a * r) < 2 * (a * r)) := by omega
    have c2 : ¬ (2 * r < 2 * r) := by omega
    unfold zc
    rw [if_neg c1, if_neg c2]
    by_cases h0 : t = 0
    · subst h0
      cases more <;> simp
    · have h7 : ¬ (2 * (t + a * r) = 2 * (a * r)) := by omega
      cases more <;> simp [h0, h7]
  · have h9 : a * (m2 + 1) ≤ a * r := Nat.mul_le_mul_left a h
    rw [Nat.mul_succ] at h9
    have c1 : ¬ (2 * (t + a * r) < 2 * (a * m2)) := by omega
    have c2 : ¬ (2 * r < 2 * m2) := by omega
    have c3 : ¬ (2 * (t + a * r) = 2 * (a * m2)) := by omega
    have c4 : ¬ (2 * r = 2 * m2) := by omega
    unfold zc
    rw [if_neg c1, if_neg c2, if_neg (fun q => c3 q.1), if_neg (fun q => c4 q.1)]
theorem zlow_ge (i N : Nat) (e : Int) : (N.log2 : Int) - ((zP i : Int) - 1) ≤ zlow i (zX i N e) e := by
  unfold zlow zX
  omega
/-- the low k bits may be thrown together into 'more', if rounding cuts above them -/
theorem zround_coarse (i md : Nat) (sg : Bool) {N k : Nat} (e : Int) (more : Bool) (h : 2 ^ k ≤ N) (hl : (k : Int) + 1 ≤ zlow i (zX i N e) e) : zround i md sg N e more = zround i md sg (N / 2 ^ k) (e + k) (more || decide (N % 2 ^ k ≠ 0)) := by
  have hp := z_p k
  have h0 : N ≠ 0 := by omega
  have hk : k ≤ N.log2 := z_log_ge h
  have hX : zX i (N / 2 ^ k) (e + k) = zX i N e := by
    unfold zX
    rw [z_log_div h, show (((N.log2 - k : Nat) : Int) + (e + k) + (zB i : Int)) = (N.log2 : Int) + e + (zB i : Int) by omega]
  have h2 : ∀ E, zlow i E (e + k) = zlow i E e - k := fun E => by
    unfold zlow
    omega
  unfold zround
  rw [hX, h2]
  obtain ⟨n, hn⟩ : ∃ n : Nat, zlow i (zX i N e) e = ((n + 1 + k : Nat) : Int) := ⟨(zlow i (zX i N e) e - k - 1).toNat, by omega⟩
  rw [hn]
  have e1 : (-(((n + 1 + k : Nat) : Int))).toNat = 0 := by omega
  have e2 : (((n + 1 + k : Nat) : Int)).toNat = n + 1 + k := by omega
  have e3 : (((n + 1 + k : Nat) : Int) - (k : Int)).toNat = n + 1 := by omega
  have e4 : (-(((n + 1 + k : Nat) : Int) - (k : Int))).toNat = 0 := by omega
  have e5 : 2 ^ (n + 1 + k) = 2 ^ k * (2 * 2 ^ n) := by rw [Nat.add_comm, Nat.pow_add, Nat.pow_succ, Nat.mul_comm (2 ^ n) 2]
  have e6 : 2 ^ (n + 1) = 2 * 2 ^ n := by rw [Nat.pow_succ, Nat.mul_comm]
  unfold zq zr
  rw [e1, e2, e3, e4, Nat.pow_zero, Nat.mul_one, Nat.mul_one, e5, e6, Nat.mod_mul, zc_coarse (Nat.mod_lt _ hp), Nat.div_div_eq_div_mul]
theorem z_or1 (n : Nat) : n ||| 1 = n / 2 * 2 + 1 := by
  have h1 : (n ||| 1) / 2 = n / 2 := by
    rw [Nat.or_div_two]
    simp
  have h2 : (n ||| 1) % 2 = 1 := by
    rw [Nat.or_mod_two_eq_one]
    simp
  omega
theorem z_log_st {N : Nat} (h : N ≠ 0) : (N / 2 * 2 + 1).log2 = N.log2 := by
  refine (Nat.log2_eq_iff (by omega)).2 ⟨?_, ?_⟩
  · have := Nat.log2_self_le h
    omega
  · have h1 : N < 2 ^ (N.log2 + 1) := Nat.lt_log2_self
    rw [Nat.pow_succ] at h1 ⊢
    omega
/-- 'more' may be put into the lowest bit, if rounding cuts two bits or more -/
theorem zround_odd (i md : Nat) (sg : Bool) {N : Nat} (e : Int) (h : N ≠ 0) (hl : 2 ≤ zlow i (zX i N e) e) : zround i md sg N e true = zround i md sg (N / 2 * 2 + 1) e false := by
  have hX : zX i (N / 2 * 2 + 1) e = zX i N e := by
    unfold zX
    rw [z_log_st h]
  unfold zround
  rw [hX]
  obtain ⟨n, hn⟩ : ∃ n : Nat, zlow i (zX i N e) e = ((n + 2 : Nat) : Int) := ⟨(zlow i (zX i N e) e - 2).toNat, by omega⟩
  rw [hn]
  have e1 : (-(((n + 2 : Nat) : Int))).toNat = 0 := by omega
  have e2 : (((n + 2 : Nat) : Int)).toNat = n + 2 := by omega
  have e5 : 2 ^ (n + 2) = 2 * (2 * 2 ^ n) := by
    rw [Nat.pow_succ, Nat.pow_succ]
    omega
  unfold zq zr
  rw [e1, e2, Nat.pow_zero, Nat.mul_one, Nat.mul_one, e5]
  have q1 : N / (2 * (2 * 2 ^ n)) = (N / 2 * 2 + 1) / (2 * (2 * 2 ^ n)) := by
    rw [← Nat.div_div_eq_div_mul N, ← Nat.div_div_eq_div_mul (N / 2 * 2 + 1), show (N / 2 * 2 + 1) / 2 = N / 2 by omega]
  have r1 : N % (2 * (2 * 2 ^ n)) = N % 2 + 2 * (N / 2 % (2 * 2 ^ n)) := Nat.mod_mul
  have r2 : (N / 2 * 2 + 1) % (2 * (2 * 2 ^ n)) = 1 + 2 * (N / 2 % (2 * 2 ^ n)) := by
    rw [Nat.mod_mul, show (N / 2 * 2 + 1) / 2 = N / 2 by omega, show (N / 2 * 2 + 1) % 2 = 1 by omega]
  rw [q1, r1, r2]
  have hc : zc (N % 2 + 2 * (N / 2 % (2 * 2 ^ n))) (2 * (2 * 2 ^ n)) true = zc (1 + 2 * (N / 2 % (2 * 2 ^ n))) (2 * (2 * 2 ^ n)) false := by
    generalize N / 2 % (2 * 2 ^ n) = s
    generalize 2 ^ n = m
    have h2 := Nat.mod_two_eq_zero_or_one N
    unfold zc
    by_cases hs : s < m
    · have c1 : 2 * (N % 2 + 2 * s) < 2 * (2 * m) := by omega
      have c2 : 2 * (1 + 2 * s) < 2 * (2 * m) := by omega
      have c3 : ¬ (1 + 2 * s = 0) := by omega
      rw [if_pos c1, if_pos c2, if_neg (fun q => by cases q.2), if_neg (fun q => c3 q.1)]
    · have c1 : ¬ (2 * (N % 2 + 2 * s) < 2 * (2 * m)) := by omega
      have c2 : ¬ (2 * (1 + 2 * s) < 2 * (2 * m)) := by omega
      have c3 : ¬ (2 * (1 + 2 * s) = 2 * (2 * m)) := by omega
      rw [if_neg c1, if_neg c2, if_neg (fun q => by cases q.2), if_neg (fun q => c3 q.1)]
  rw [hc]
/-- both at once: m is N without its low k bits, its lowest bit set where that (or 'more') loses something -/
theorem zround_st (i md : Nat) (sg : Bool) {N k : Nat} (e : Int) (more : Bool) (h : 2 ^ (zP i + 1 + k) ≤ N) : zround i md sg N e more = zround i md sg (if more = true ∨ N % 2 ^ k ≠ 0 then N / 2 ^ k / 2 * 2 + 1 else N / 2 ^ k) (e + k) false := by
  have hp := z_p (zP i + 1)
  have hpk := z_p k
  rw [Nat.pow_add] at h
  have hm : 2 ^ (zP i + 1) ≤ N / 2 ^ k := (Nat.le_div_iff_mul_le hpk).2 h
  have hN : 2 ^ k ≤ N := Nat.le_trans (Nat.le_mul_of_pos_left _ hp) h
  have hlg := z_log_ge hm
  have hlN : k ≤ N.log2 := z_log_ge hN
  rw [z_log_div hN] at hlg
  have hlow := zlow_ge i N e
  rw [zround_coarse i md sg e more hN (by omega)]
  have hcond : (more || decide (N % 2 ^ k ≠ 0)) = true ↔ (more = true ∨ N % 2 ^ k ≠ 0) := by simp
  by_cases hc : more = true ∨ N % 2 ^ k ≠ 0
  · rw [if_pos hc, hcond.2 hc]
    refine zround_odd i md sg (e + k) (by omega) ?_
    have h3 := zlow_ge i (N / 2 ^ k) (e + k)
    rw [z_log_div hN] at h3
    omega
  · rw [if_neg hc]
    have h4 : (more || decide (N % 2 ^ k ≠ 0)) = false := by
      rw [← Bool.not_eq_true, hcond]
      exact hc
    rw [h4]
end
section
/-! The exact results of the operations, once as the reference has them and once as the program has them, round alike. -/
theorem zP_le (i : Nat) : zP i ≤ 53 := by
  unfold zP
  split <;> omega
theorem zP_ge (i : Nat) : 24 ≤ zP i := by
  unfold zP
  split <;> omega
theorem z_pow_le {a b : Nat} (h : a ≤ b) : 2 ^ a ≤ 2 ^ b := Nat.pow_le_pow_right (by decide) h
def zst (N k : Nat) : Nat := if N % 2 ^ k ≠ 0 then N / 2 ^ k / 2 * 2 + 1 else N / 2 ^ k
theorem zround_zst (i md : Nat) (sg : Bool) {N k : Nat} (e : Int) (h : 2 ^ (zP i + 1 + k) ≤ N) : zround i md sg N e false = zround i md sg (zst N k) (e + k) false := by
  rw [zround_st i md sg e false h]
  have hc : (false = true ∨ N % 2 ^ k ≠ 0) ↔ N % 2 ^ k ≠ 0 := by simp
  simp only [zst, hc]
theorem zround_rep (i md : Nat) (sg : Bool) {N1 N2 a c : Nat} {e1 e2 : Int} (h1 : N1 ≠ 0) (h2 : N2 ≠ 0) (h : N1 * 2 ^ a = N2 * 2 ^ c) (he : e1 - a = e2 - c) (more : Bool) : zround i md sg N1 e1 more = zround i md sg N2 e2 more := by
  have A := zround_shift i md sg h1 a (e1 - a) more
  have B := zround_shift i md sg h2 c (e2 - c) more
  rw [show e1 - (a : Int) + a = e1 by omega] at A
  rw [show e2 - (c : Int) + c = e2 by omega] at B
  rw [← A, ← B, h, he]
theorem z_prod (i md : Nat) (sg : Bool) {px py lx ly : Nat} (ex ey : Int) (hx : 2 ^ 52 ≤ px * 2 ^ lx) (hy : 2 ^ 52 ≤ py * 2 ^ ly) :
    zround i md sg (px * py) (ex + ey) false = zround i md sg (zst (px * 2 ^ lx * 2 ^ 10 * (py * 2 ^ ly * 2 ^ 10)) 64) (ex - lx + (ey - ly) - 20 + 64) false := by
  have hN : px * py * 2 ^ (lx + ly + 20) = px * 2 ^ lx * 2 ^ 10 * (py * 2 ^ ly * 2 ^ 10) := by
    rw [Nat.pow_add, Nat.pow_add, show (2 : Nat) ^ 20 = 2 ^ 10 * 2 ^ 10 by decide]
    ac_rfl
  have hbig : 2 ^ 124 ≤ px * 2 ^ lx * 2 ^ 10 * (py * 2 ^ ly * 2 ^ 10) := by
    have h1 : 2 ^ 52 * 2 ^ 10 ≤ px * 2 ^ lx * 2 ^ 10 := Nat.mul_le_mul_right _ hx
    have h2 : 2 ^ 52 * 2 ^ 10 ≤ py * 2 ^ ly * 2 ^ 10 := Nat.mul_le_mul_right _ hy
    exact Nat.le_trans (by decide) (Nat.mul_le_mul h1 h2)
  generalize px * 2 ^ lx * 2 ^ 10 * (py * 2 ^ ly * 2 ^ 10) = X at hN hbig ⊢
  have hX0 : X ≠ 0 := by
    intro h0
    rw [h0] at hbig
    exact absurd hbig (by decide)
  have hn0 : px * py ≠ 0 := by
    intro h0
    rw [h0, Nat.zero_mul] at hN
    exact hX0 hN.symm
  have h1 : zround i md sg (px * py) (ex + ey) false = zround i md sg X (ex + ey - ((lx + ly + 20 : Nat) : Int)) false :=
    zround_rep i md sg (a := lx + ly + 20) (c := 0) hn0 hX0 (by rw [hN, Nat.pow_zero, Nat.mul_one]) (by omega) false
  have h2 : 2 ^ (zP i + 1 + 64) ≤ X := Nat.le_trans (z_pow_le (by have := zP_le i; omega)) hbig
  have h3 := zround_zst i md sg (k := 64) (ex + ey - ((lx + ly + 20 : Nat) : Int)) h2
  rw [h1, h3, show ex + ey - ((lx + ly + 20 : Nat) : Int) + ((64 : Nat) : Int) = ex - lx + (ey - ly) - 20 + 64 by omega]
theorem z_mod0 {a b c : Nat} (hb : 0 < b) : a % (b * c) = 0 ↔ (a % b = 0 ∧ a / b % c = 0) := by
  rw [Nat.mod_mul, Nat.add_eq_zero_iff, Nat.mul_eq_zero]
  omega
theorem z_quot (i md : Nat) (sg : Bool) {px py lx ly : Nat} (ex ey : Int) (hlx : lx ≤ 52) (hpy : 0 < py) (hx : 2 ^ 52 ≤ px * 2 ^ lx) (hy : py * 2 ^ ly < 2 ^ 53) :
    zround i md sg (px * 2 ^ 120 / py) (ex - ey - 120) (decide (px * 2 ^ 120 % py ≠ 0)) = zround i md sg (if px * 2 ^ lx * 2 ^ 60 % (py * 2 ^ ly) ≠ 0 then px * 2 ^ lx * 2 ^ 60 / (py * 2 ^ ly) / 2 * 2 + 1 else px * 2 ^ lx * 2 ^ 60 / (py * 2 ^ ly)) (ex - lx - (ey - ly) - 60) false := by
  have hA : px * 2 ^ 120 = px * 2 ^ lx * 2 ^ 60 * 2 ^ (60 - lx) := by
    rw [Nat.mul_assoc, Nat.mul_assoc, ← Nat.pow_add, ← Nat.pow_add, show lx + (60 + (60 - lx)) = 120 by omega]
  have hB : py * 2 ^ (60 + ly - lx) = py * 2 ^ ly * 2 ^ (60 - lx) := by
    rw [Nat.mul_assoc, ← Nat.pow_add, show ly + (60 - lx) = 60 + ly - lx by omega]
  have hD : 0 < py * 2 ^ ly := Nat.mul_pos hpy (z_p ly)
  have hdiv : px * 2 ^ 120 / py / 2 ^ (60 + ly - lx) = px * 2 ^ lx * 2 ^ 60 / (py * 2 ^ ly) := by
    rw [Nat.div_div_eq_div_mul, hA, hB, Nat.mul_div_mul_right _ _ (z_p _)]
  have hmod : (px * 2 ^ 120 % py = 0 ∧ px * 2 ^ 120 / py % 2 ^ (60 + ly - lx) = 0) ↔ px * 2 ^ lx * 2 ^ 60 % (py * 2 ^ ly) = 0 := by
    rw [← z_mod0 hpy, hA, hB, Nat.mul_mod_mul_right, Nat.mul_eq_zero]
    have := z_p (60 - lx)
    omega
  have hq : 2 ^ 59 ≤ px * 2 ^ lx * 2 ^ 60 / (py * 2 ^ ly) := by
    rw [Nat.le_div_iff_mul_le hD]
    have h1 : 2 ^ 59 * (py * 2 ^ ly) ≤ 2 ^ 59 * 2 ^ 53 := Nat.mul_le_mul_left _ (Nat.le_of_lt hy)
    have h2 : 2 ^ 52 * 2 ^ 60 ≤ px * 2 ^ lx * 2 ^ 60 := Nat.mul_le_mul_right _ hx
    exact Nat.le_trans h1 (Nat.le_trans (by decide) h2)
  have hbig : 2 ^ (zP i + 1 + (60 + ly - lx)) ≤ px * 2 ^ 120 / py := by
    rw [Nat.pow_add]
    have h3 : 2 ^ (zP i + 1) ≤ px * 2 ^ 120 / py / 2 ^ (60 + ly - lx) := by
      rw [hdiv]
      exact Nat.le_trans (z_pow_le (by have := zP_le i; omega)) hq
    exact Nat.le_trans (Nat.mul_le_mul_right _ h3) (Nat.div_mul_le_self _ _)
  rw [zround_st i md sg (k := 60 + ly - lx) (ex - ey - 120) _ hbig, hdiv]
  have hcond : (decide (px * 2 ^ 120 % py ≠ 0) = true ∨ px * 2 ^ 120 / py % 2 ^ (60 + ly - lx) ≠ 0) ↔ px * 2 ^ lx * 2 ^ 60 % (py * 2 ^ ly) ≠ 0 := by
    rw [decide_eq_true_eq]
    constructor
    · intro h q
      have q := hmod.2 q
      rcases h with h | h
      · exact h q.1
      · exact h q.2
    · intro h
      by_cases h1 : px * 2 ^ 120 % py = 0
      · exact Or.inr (fun h2 => h (hmod.1 ⟨h1, h2⟩))
      · exact Or.inl h1
  simp only [hcond]
  rw [show ex - ey - 120 + ((60 + ly - lx : Nat) : Int) = ex - lx - (ey - ly) - 60 by omega]
theorem z_add {A d : Nat} (NB : Nat) (hA : A % 2 = 0) : A + zst NB d = zst (A * 2 ^ d + NB) d := by
  unfold zst
  rw [Nat.mul_add_mod', Nat.add_comm (A * 2 ^ d) NB, Nat.add_mul_div_right _ _ (z_p d)]
  split <;> omega
theorem z_sub {A d NB : Nat} (hA : A % 2 = 0) (h : NB ≤ A * 2 ^ d) : A - zst NB d = zst (A * 2 ^ d - NB) d ∧ zst NB d ≤ A := by
  have hp := z_p d
  have hdm := Nat.div_add_mod NB (2 ^ d)
  have hlt := Nat.mod_lt NB hp
  rw [Nat.mul_comm] at hdm
  generalize hw : NB / 2 ^ d = w at hdm
  generalize ht : NB % 2 ^ d = t at hdm hlt
  have hwA : w ≤ A := Nat.le_of_mul_le_mul_right (Nat.le_trans (by omega) h) hp
  unfold zst
  rw [hw, ht]
  by_cases h0 : t = 0
  · have e1 : A * 2 ^ d - NB = (A - w) * 2 ^ d := by
      rw [Nat.sub_mul]
      omega
    rw [e1, Nat.mul_mod_left, Nat.mul_div_cancel _ hp]
    simp [h0, hwA]
  · have hwA' : w + 1 ≤ A := by
      rcases Nat.lt_or_ge w A with g | g
      · exact g
      · have : w = A := by omega
        subst this
        omega
    have e1 : A * 2 ^ d - NB = (2 ^ d - t) + (A - w - 1) * 2 ^ d := by
      have e2 : A * 2 ^ d = (A - w - 1) * 2 ^ d + w * 2 ^ d + 2 ^ d := by
        rw [← Nat.add_mul, ← Nat.succ_mul]
        congr 1
        omega
      omega
    have e3 : (A * 2 ^ d - NB) / 2 ^ d = A - w - 1 := by
      rw [e1, Nat.add_mul_div_right _ _ hp, Nat.div_eq_of_lt (by omega)]
      omega
    have e4 : (A * 2 ^ d - NB) % 2 ^ d ≠ 0 := by
      rw [e1, Nat.add_mul_mod_self_right, Nat.mod_eq_of_lt (by omega)]
      omega
    rw [e3, if_pos h0, if_pos e4]
    omega
/-- a sum: the smaller one pressed to the greater one's unit -/
theorem z_sumP (i md : Nat) (sg : Bool) {A d NB : Nat} (e : Int) (hA : A % 2 = 0) (h0 : A * 2 ^ d + NB ≠ 0) (hc : NB % 2 ^ d = 0 ∨ 2 ^ 61 ≤ A) : zround i md sg (A * 2 ^ d + NB) e false = zround i md sg (A + zst NB d) (e + d) false := by
  by_cases ht : NB % 2 ^ d = 0
  · have e1 : A * 2 ^ d + NB = (A + zst NB d) * 2 ^ d := by
      have hdm := Nat.div_add_mod NB (2 ^ d)
      rw [Nat.mul_comm] at hdm
      unfold zst
      rw [if_neg (by omega), Nat.add_mul]
      omega
    have h1 : A + zst NB d ≠ 0 := by
      intro h2
      rw [h2, Nat.zero_mul] at e1
      omega
    rw [e1, zround_shift i md sg h1]
  · have h61 : 2 ^ 61 ≤ A := by
      rcases hc with h | h
      · exact absurd h ht
      · exact h
    rw [z_add NB hA]
    refine zround_zst i md sg e ?_
    have h2 : 2 ^ (zP i + 1 + d) ≤ A * 2 ^ d := by
      rw [Nat.pow_add]
      exact Nat.mul_le_mul_right _ (Nat.le_trans (z_pow_le (by have := zP_le i; omega)) h61)
    omega
/-- a difference -/
theorem z_sumM (i md : Nat) (sg : Bool) {A d NB : Nat} (e : Int) (hA : A % 2 = 0) (h0 : NB < A * 2 ^ d) (hc : NB % 2 ^ d = 0 ∨ (2 ^ 61 ≤ A ∧ 2 ≤ d ∧ NB < 2 ^ 62)) : zround i md sg (A * 2 ^ d - NB) e false = zround i md sg (A - zst NB d) (e + d) false := by
  obtain ⟨h1, h2⟩ := z_sub hA (Nat.le_of_lt h0)
  by_cases ht : NB % 2 ^ d = 0
  · have e1 : A * 2 ^ d - NB = (A - zst NB d) * 2 ^ d := by
      have hdm := Nat.div_add_mod NB (2 ^ d)
      rw [Nat.mul_comm] at hdm
      unfold zst
      rw [if_neg (by omega), Nat.sub_mul]
      omega
    have h3 : A - zst NB d ≠ 0 := by
      intro h2
      rw [h2, Nat.zero_mul] at e1
      omega
    rw [e1, zround_shift i md sg h3]
  · obtain ⟨h61, hd, h62⟩ : 2 ^ 61 ≤ A ∧ 2 ≤ d ∧ NB < 2 ^ 62 := by
      rcases hc with h | h
      · exact absurd h ht
      · exact h
    rw [h1]
    refine zround_zst i md sg e ?_
    have h4 : 2 ^ (zP i + 1 + d) ≤ 2 ^ 60 * 2 ^ d := by
      rw [Nat.pow_add]
      exact Nat.mul_le_mul_right _ (z_pow_le (by have := zP_le i; omega))
    have h5 : 2 ^ 61 * 2 ^ d ≤ A * 2 ^ d := Nat.mul_le_mul_right _ h61
    have h6 : 2 ^ 2 ≤ 2 ^ d := z_pow_le hd
    omega
end
section
/-! Numbers as rows of bits: adding and taking away bit by bit. -/
theorem z_2 (n : Nat) : n % 2 = 0 ∨ n % 2 = 1 := by omega
theorem z_dm (X k : Nat) : 2 ^ k * (X / 2 ^ k) + X % 2 ^ k = X := Nat.div_add_mod X (2 ^ k)
theorem z_ms (X k : Nat) : X % 2 ^ (k + 1) = X % 2 ^ k + 2 ^ k * (X / 2 ^ k % 2) := Nat.mod_pow_succ
theorem z_ds (X k : Nat) : X / 2 ^ (k + 1) = X / 2 ^ k / 2 := by rw [Nat.pow_succ, Nat.div_div_eq_div_mul]
theorem z_mlt (X k : Nat) : X % 2 ^ k < 2 ^ k := Nat.mod_lt _ (z_p k)
theorem z_add_div (X Y k : Nat) : (X + Y) / 2 ^ k = X / 2 ^ k + Y / 2 ^ k + (X % 2 ^ k + Y % 2 ^ k) / 2 ^ k := by
  have h : X + Y = 2 ^ k * (X / 2 ^ k + Y / 2 ^ k) + (X % 2 ^ k + Y % 2 ^ k) := by
    have h1 := z_dm X k
    have h2 := z_dm Y k
    rw [Nat.mul_add]
    omega
  conv => lhs; rw [h]
  rw [Nat.mul_add_div (z_p k)]
theorem z_add_bit (X Y k : Nat) : (X + Y) / 2 ^ k % 2 = (X / 2 ^ k % 2 + Y / 2 ^ k % 2 + (X % 2 ^ k + Y % 2 ^ k) / 2 ^ k) % 2 := by
  rw [z_add_div]
  omega
theorem z_carry (X Y k : Nat) : (X % 2 ^ (k + 1) + Y % 2 ^ (k + 1)) / 2 ^ (k + 1) = (X / 2 ^ k % 2 + Y / 2 ^ k % 2 + (X % 2 ^ k + Y % 2 ^ k) / 2 ^ k) / 2 := by
  rw [z_ms, z_ms, z_ds]
  have h : X % 2 ^ k + 2 ^ k * (X / 2 ^ k % 2) + (Y % 2 ^ k + 2 ^ k * (Y / 2 ^ k % 2)) = 2 ^ k * (X / 2 ^ k % 2 + Y / 2 ^ k % 2) + (X % 2 ^ k + Y % 2 ^ k) := by
    rw [Nat.mul_add]
    omega
  rw [h, Nat.mul_add_div (z_p k)]
theorem z_carry_le (X Y k : Nat) : (X % 2 ^ k + Y % 2 ^ k) / 2 ^ k ≤ 1 := by
  have h1 := z_mlt X k
  have h2 := z_mlt Y k
  have h3 : (X % 2 ^ k + Y % 2 ^ k) / 2 ^ k < 2 := by
    rw [Nat.div_lt_iff_lt_mul (z_p k)]
    omega
  omega
def zbor (X Y k : Nat) : Nat := if X % 2 ^ k < Y % 2 ^ k then 1 else 0
theorem z_sub_div {X Y : Nat} (h : Y ≤ X) (k : Nat) : (X - Y) / 2 ^ k + Y / 2 ^ k + zbor X Y k = X / 2 ^ k := by
  have h1 := z_dm X k
  have h2 := z_dm Y k
  have h3 := z_mlt X k
  have h4 := z_mlt Y k
  have hp := z_p k
  have hle : Y / 2 ^ k ≤ X / 2 ^ k := Nat.div_le_div_right h
  unfold zbor
  by_cases g : X % 2 ^ k < Y % 2 ^ k
  · rw [if_pos g]
    have hlt : Y / 2 ^ k < X / 2 ^ k := by
      rcases Nat.lt_or_ge (Y / 2 ^ k) (X / 2 ^ k) with q | q
      · exact q
      · have : Y / 2 ^ k = X / 2 ^ k := by omega
        rw [this] at h2
        omega
    obtain ⟨d, hd⟩ : ∃ d, X / 2 ^ k = Y / 2 ^ k + 1 + d := ⟨X / 2 ^ k - Y / 2 ^ k - 1, by omega⟩
    have e : X - Y = 2 ^ k * d + (2 ^ k + X % 2 ^ k - Y % 2 ^ k) := by
      rw [hd, Nat.mul_add, Nat.mul_add, Nat.mul_one] at h1
      omega
    rw [e, Nat.mul_add_div hp, Nat.div_eq_of_lt (by omega)]
    omega
  · rw [if_neg g]
    obtain ⟨d, hd⟩ : ∃ d, X / 2 ^ k = Y / 2 ^ k + d := ⟨X / 2 ^ k - Y / 2 ^ k, by omega⟩
    have e : X - Y = 2 ^ k * d + (X % 2 ^ k - Y % 2 ^ k) := by
      rw [hd, Nat.mul_add] at h1
      omega
    rw [e, Nat.mul_add_div hp, Nat.div_eq_of_lt (by omega)]
    omega
theorem z_sub_bit {X Y : Nat} (h : Y ≤ X) (k : Nat) : (X - Y) / 2 ^ k % 2 = (X / 2 ^ k % 2 + Y / 2 ^ k % 2 + zbor X Y k) % 2 := by
  have := z_sub_div h k
  omega
theorem z_borrow (X Y k : Nat) : zbor X Y (k + 1) = if X / 2 ^ k % 2 < Y / 2 ^ k % 2 + zbor X Y k then 1 else 0 := by
  have h3 := z_mlt X k
  have h4 := z_mlt Y k
  unfold zbor
  rw [z_ms X, z_ms Y]
  rcases z_2 (X / 2 ^ k) with a | a <;> rcases z_2 (Y / 2 ^ k) with b | b <;> rw [a, b] <;> by_cases g : X % 2 ^ k < Y % 2 ^ k <;> simp [g] <;> omega
theorem z_bor0 (X Y : Nat) : zbor X Y 0 = 0 := by
  unfold zbor
  simp [Nat.mod_one]
theorem z_bit_hi {N k : Nat} (h : N < 2 ^ k) : N / 2 ^ k % 2 = 0 := by rw [Nat.div_eq_of_lt h]
/-- the bit at log2 N is the highest -/
theorem z_top {N : Nat} (h : N ≠ 0) : N / 2 ^ N.log2 % 2 = 1 := by
  have h1 : N / 2 ^ N.log2 < 2 := by
    rw [Nat.div_lt_iff_lt_mul (z_p _), Nat.mul_comm, ← Nat.pow_succ]
    exact Nat.lt_log2_self
  have h2 : 0 < N / 2 ^ N.log2 := Nat.div_pos (Nat.log2_self_le h) (z_p _)
  omega
theorem z_above {N k : Nat} (h : N.log2 < k) : N / 2 ^ k % 2 = 0 := by
  refine z_bit_hi ?_
  by_cases h0 : N = 0
  · rw [h0]
    exact z_p k
  · exact (Nat.log2_lt h0).1 h
end
section
/-! The reference's way to round, as numbers: half, rest, and the carry into the exponent. -/
theorem zc_bits (N n : Nat) (more : Bool) : zc (N % 2 ^ (n + 1)) (2 ^ (n + 1)) more = if N / 2 ^ n % 2 = 0 then (if N % 2 ^ n = 0 ∧ more = false then 0 else 1) else (if N % 2 ^ n = 0 ∧ more = false then 2 else 3) := by
  have h1 := z_ms N n
  have h2 := z_mlt N n
  have h3 : 2 ^ (n + 1) = 2 * 2 ^ n := by rw [Nat.pow_succ, Nat.mul_comm]
  unfold zc
  rcases z_2 (N / 2 ^ n) with a | a
  · have h4 : N % 2 ^ (n + 1) = N % 2 ^ n := by rw [h1, a, Nat.mul_zero, Nat.add_zero]
    have c1 : 2 * (N % 2 ^ n) < 2 * 2 ^ n := by omega
    rw [h4, h3, if_pos c1, if_pos a]
  · have h4 : N % 2 ^ (n + 1) = N % 2 ^ n + 2 ^ n := by rw [h1, a, Nat.mul_one]
    have c1 : ¬ (2 * (N % 2 ^ n + 2 ^ n) < 2 * 2 ^ n) := by omega
    have c2 : ¬ (N / 2 ^ n % 2 = 0) := by omega
    rw [h4, h3, if_neg c1, if_neg c2]
    have h5 : 2 * (N % 2 ^ n + 2 ^ n) = 2 * 2 ^ n ↔ N % 2 ^ n = 0 := by omega
    simp only [h5]
theorem zL_pos (i : Nat) : 0 < zL i := z_p _
theorem zB_ge (i : Nat) : 127 ≤ zB i := by
  unfold zB
  split <;> omega
/-- the carry: q1 is what is kept, rounded; E the exponent -/
theorem z_carryM (i : Nat) {E q1 : Nat} (hE : 1 ≤ E) : q1 = 2 * zL i → ((2 * zB i < E + 1 ↔ (2 * zB i < E ∨ zI i ≤ (E - 1) * zL i + q1)) ∧ (E + 1) * zL i = (E - 1) * zL i + q1) := by
  intro hq
  obtain ⟨k, rfl⟩ : ∃ k, E = k + 1 := ⟨E - 1, by omega⟩
  have e1 : (k + 1 + 1) * zL i = (k + 1 - 1) * zL i + q1 := by
    rw [hq, Nat.add_sub_cancel, Nat.succ_mul, Nat.succ_mul]
    omega
  refine ⟨?_, e1⟩
  rw [← e1]
  unfold zI
  constructor
  · intro h
    exact Or.inr (Nat.mul_le_mul_right _ (by omega))
  · intro h
    rcases h with h | h
    · omega
    · have := Nat.le_of_mul_le_mul_right h (zL_pos i)
      omega
theorem z_usualM (i : Nat) {E q1 : Nat} (hE : 1 ≤ E) (h1 : zL i ≤ q1) (h2 : q1 < 2 * zL i) : (2 * zB i < E ↔ (2 * zB i < E ∨ zI i ≤ (E - 1) * zL i + q1)) ∧ E * zL i + (q1 - zL i) = (E - 1) * zL i + q1 := by
  obtain ⟨k, rfl⟩ : ∃ k, E = k + 1 := ⟨E - 1, by omega⟩
  have e1 : (k + 1) * zL i = k * zL i + zL i := Nat.succ_mul _ _
  refine ⟨⟨fun h => Or.inl h, fun h => ?_⟩, ?_⟩
  · rcases h with h | h
    · exact h
    · rcases Nat.lt_or_ge (2 * zB i) (k + 1) with g | g
      · exact g
      · exfalso
        unfold zI at h
        rw [Nat.add_sub_cancel] at h
        have h3 : (k + 2) * zL i ≤ (2 * zB i + 1) * zL i := Nat.mul_le_mul_right _ (by omega)
        have h4 : (k + 2) * zL i = k * zL i + 2 * zL i := by rw [Nat.add_mul]
        omega
  · rw [Nat.add_sub_cancel]
    omega
theorem z_smallM (i : Nat) {q1 : Nat} (h1 : q1 < zL i) : ¬ (2 * zB i < 1 ∨ zI i ≤ (1 - 1) * zL i + q1) ∧ (1 - 1) * zL i + q1 = q1 := by
  have hb := zB_ge i
  have h2 : 1 * zL i ≤ (2 * zB i + 1) * zL i := Nat.mul_le_mul_right _ (by omega)
  refine ⟨?_, by omega⟩
  unfold zI
  omega
/-- how much is kept: less than 2 ^ P, and at least 2 ^ (P - 1) where the exponent isn't the least -/
theorem zq_lt (i N : Nat) (e : Int) (h0 : N ≠ 0) : zq N (zlow i (zX i N e) e) < 2 * zL i := by
  have hl := zlow_ge i N e
  have hP := zP_ge i
  generalize zlow i (zX i N e) e = low at hl
  have hL : 2 * zL i = 2 ^ zP i := by
    unfold zL
    rw [Nat.mul_comm, ← Nat.pow_succ]
    congr 1
    omega
  rw [hL]
  unfold zq
  have hN : N < 2 ^ (N.log2 + 1) := Nat.lt_log2_self
  rw [Nat.div_lt_iff_lt_mul (z_p _), ← Nat.pow_add]
  have h1 : N * 2 ^ (-low).toNat < 2 ^ (N.log2 + 1) * 2 ^ (-low).toNat := Nat.mul_lt_mul_of_pos_right hN (z_p _)
  rw [← Nat.pow_add] at h1
  exact Nat.lt_of_lt_of_le h1 (z_pow_le (by omega))
theorem zq_ge (i N : Nat) (e : Int) (h0 : N ≠ 0) (hE : 1 < zX i N e) : zL i ≤ zq N (zlow i (zX i N e) e) := by
  have hX : zX i N e = (N.log2 : Int) + e + (zB i : Int) := by
    unfold zX at hE ⊢
    omega
  have hP := zP_ge i
  have hl : zlow i (zX i N e) e = (N.log2 : Int) - ((zP i : Int) - 1) := by
    unfold zlow
    omega
  rw [hl]
  unfold zq zL
  generalize hlow : (N.log2 : Int) - ((zP i : Int) - 1) = low
  rw [Nat.le_div_iff_mul_le (z_p _), ← Nat.pow_add]
  have hN : 2 ^ N.log2 * 2 ^ (-low).toNat ≤ N * 2 ^ (-low).toNat := Nat.mul_le_mul_right _ (Nat.log2_self_le h0)
  rw [← Nat.pow_add] at hN
  exact Nat.le_trans (z_pow_le (by omega)) hN
end
section
/-! The two constants of the format, and contracts of methods that change nothing: 'PuM .. av v': with the arguments av the method answers v, and the heap is as it was. -/
def nA : Nat → Prop := fun _ => False
def bI (b : Bool) : Int32 := if b then 1 else 0
def fPr (i : Nat) : Int32 := if i = 0 then 53 else 24
def fBi (i : Nat) : Int32 := if i = 0 then 1023 else 127
def fSg (i : Nat) : Int64 := if i = 0 then -9223372036854775808 else 2147483648
def fLe (i : Nat) : Int64 := if i = 0 then 4503599627370496 else 8388608
def fEn (i : Nat) : Int64 := if i = 0 then 9218868437227405312 else 2139095040
def fE : String := "FloatUnit$Format"
def FM (ad : Nat → Nat) (A : Nat → Prop) (U : State) (H : Heap) : Prop :=
  va_En fE "LFloatUnit$Format;" ["WIDE", "NARROW"] [] ad A U H ∧ va_Ef 2 fE "precision" "I" (fun i => .int (fPr i)) ad A U H ∧ va_Ef 2 fE "bias" "I" (fun i => .int (fBi i)) ad A U H ∧
  va_Ef 2 fE "sign" "J" (fun i => .long (fSg i)) ad A U H ∧ va_Ef 2 fE "leading" "J" (fun i => .long (fLe i)) ad A U H ∧ va_Ef 2 fE "endless" "J" (fun i => .long (fEn i)) ad A U H ∧ va_Nw nwFree U
theorem fm_warm {ad : Nat → Nat} {A : Nat → Prop} {u U : State} {H : Heap} (hW : u.WarmedH U.vm) (h : FM ad A u H) : FM ad A U H :=
  ⟨va_En.moved hW.alike h.1, va_Ef.moved hW.alike h.2.1, va_Ef.moved hW.alike h.2.2.1, va_Ef.moved hW.alike h.2.2.2.1, va_Ef.moved hW.alike h.2.2.2.2.1, va_Ef.moved hW.alike h.2.2.2.2.2.1, va_Nw.warmM hW h.2.2.2.2.2.2⟩
theorem fm_same {ad : Nat → Nat} {A : Nat → Prop} {u U : State} {H : Heap} (hvm : u.vm = U.vm) (h : FM ad A u H) : FM ad A U H :=
  have ha : u.vm.Alike U.vm := hvm ▸ Vm.Alike.refl u.vm
  ⟨va_En.moved ha h.1, va_Ef.moved ha h.2.1, va_Ef.moved ha h.2.2.1, va_Ef.moved ha h.2.2.2.1, va_Ef.moved ha h.2.2.2.2.1, va_Ef.moved ha h.2.2.2.2.2.1, va_Nw.same rfl hvm h.2.2.2.2.2.2⟩
theorem fm_kept {ad : Nat → Nat} {A : Nat → Prop} {U : State} {H H1 : Heap} (h : FM ad A U H) (hq : ∀ a : Nat, a < H.size → ¬ A a → H1[a]? = H[a]?) : FM ad A U H1 :=
  ⟨va_En.kept h.1 hq, va_Ef.kept h.2.1 hq, va_Ef.kept h.2.2.1 hq, va_Ef.kept h.2.2.2.1 hq, va_Ef.kept h.2.2.2.2.1 hq, va_Ef.kept h.2.2.2.2.2.1 hq, h.2.2.2.2.2.2⟩
theorem fm_narrow {ad : Nat → Nat} {A B : Nat → Prop} {U : State} {H : Heap} (h : FM ad A U H) (hAB : ∀ q, B q → A q) : FM ad B U H :=
  ⟨va_En.narrow h.1 hAB, va_Ef.narrow h.2.1 hAB, va_Ef.narrow h.2.2.1 hAB, va_Ef.narrow h.2.2.2.1 hAB, va_Ef.narrow h.2.2.2.2.1 hAB, va_Ef.narrow h.2.2.2.2.2.1 hAB, h.2.2.2.2.2.2⟩
def PuM (l : Launch) (ad : Nat → Nat) (y : MethodName) (ws : List Cond) (rm : Room) (av : List Value) (v : Value) : Prop :=
  ∀ Hc : Heap, Met l y ws rm (va_Pc av (fun U => U.heap = Hc ∧ FM ad nA U Hc)) (fun _ _ oc t => oc = .returned (some v) ∧ t.heap = Hc) 0 0 nA
section PU
variable {p : Program} {l : Launch} {e : Env} {R : Room} {s : State} {m : MethodId} {args : Array Value} {below : List Frame} {meth : Method} {c : Code} {H : Heap} {locs : List Loc} {cells slots : Nat} {Q : State → Prop}
variable {Ts ws ws' : List Cond} {cc bytes : ByteArray} {nL maxL index n i : Nat} {own C host ref : String} {y : MethodName} {ret : Option FieldType} {rm : Room} {As av rest st : List Value} {pc : Nat} {ls : Array Slot} {A : Nat → Prop} {ad : Nat → Nat} {b : Addr} {v : Value}
theorem pu_go (hr : va_Run p l e R s m args below meth c H locs cells slots 0 0 (F0 m pc ls st) rest (fun _ oc t => oc = .returned (some v) ∧ t.heap = H) nA)
    (kk : W p l e R s m args below meth c H locs cells slots Q (F0 m (pc + 3) ls (v :: rest))) : W p l e R s m args below meth c H locs cells slots Q (F0 m pc ls st) := by
  intro T hT X
  obtain ⟨v', st₀, t, T', L, h0, X', hL, e1, e2, ⟨hv, hh⟩, st⟩ := hr T hT X
  cases hv
  have hL0 : L = [] := by
    cases L with
    | nil => rfl
    | cons a L => exact (hL a List.mem_cons_self).elim
  subst hL0
  rw [List.append_nil] at X'
  obtain ⟨t2, a1, b1⟩ := kk T' (by rw [e1, hh]) X'
  exact ⟨t2, st t2 a1, b1⟩
theorem pu_S (S : CallFix p m c cc nL s args Ts own) (hM : PuM l ad y ws rm As v) (cw : CallB R s args own index y bytes maxL ret ws rm 0 0 n ∧ (Cond.static y).before args s = true) (hF : FM ad A s s.heap) (hS : va_S A s.heap H locs)
    (hn : As.length = n) (hsize : ls.size = nL) (hstack : st = As.reverse ++ rest) (hW : (rest.map fun v => v.category).sum ≤ 8) (hdg : decode cc pc = .ok (.invokestatic index, 3)) (hf : cells ≤ R.cells ∧ slots ≤ R.slots)
    (kk : W p l e R s m args below meth c H locs cells slots Q (F0 m (pc + 3) ls (v :: rest))) : W p l e R s m args below meth c H locs cells slots Q (F0 m pc ls st) :=
  pu_go (va_runS (g := F0 m pc ls st) (mc := 0) (ms := 0) S (hM H) cw
    ⟨fun a U g mk q => ⟨q.1, q.2.1, fm_same (u := U) (U := U.calling g mk a) rfl q.2.2⟩, fun U hU hWm => ⟨rfl, hU, fm_warm hWm (fm_narrow (fm_kept hF hS.2.1) (fun _ h => h.elim))⟩⟩ rfl hn hsize hstack (lv_room hW) hdg hf) kk
theorem pu_V (S : CallFix p m c cc nL s args Ts own) (hi : i < 2) (hM : PuM l ad y ws rm (.ref (ad i) :: As) v) (cw : CallW R s args own fE index y bytes maxL ret ws rm 0 0 n) (hF : FM ad A s s.heap) (hS : va_S A s.heap H locs)
    (hn : As.length = n) (hsize : ls.size = nL) (hstack : st = As.reverse ++ .ref (ad i) :: rest) (hW : (rest.map fun v => v.category).sum ≤ 8) (hdg : decode cc pc = .ok (.invokevirtual index, 3)) (hf : cells ≤ R.cells ∧ slots ≤ R.slots)
    (kk : W p l e R s m args below meth c H locs cells slots Q (F0 m (pc + 3) ls (v :: rest))) : W p l e R s m args below meth c H locs cells slots Q (F0 m pc ls st) :=
  pu_go (va_runV (g := F0 m pc ls st) (mc := 0) (ms := 0) S (hM H) cw
    ⟨fun a U g mk q => ⟨q.1, q.2.1, fm_same (u := U) (U := U.calling g mk a) rfl q.2.2⟩, va_recvE hF.1 hi hS, fun U hU hWm => ⟨rfl, hU, fm_warm hWm (fm_narrow (fm_kept hF hS.2.1) (fun _ h => h.elim))⟩⟩ rfl hn hsize hstack (lv_room hW) hdg hf) kk
theorem pu_SN (S : CallFix p m c cc nL s args Ts own) (hM : PuM l ad y ws rm As v) (cw : va_CN R s args own index y host bytes maxL ret ws rm 0 0 n ∧ (Cond.static y).before args s = true ∧ True) (hF : FM ad A s s.heap) (hS : va_S A s.heap H locs)
    (hn : As.length = n) (hsize : ls.size = nL) (hstack : st = As.reverse ++ rest) (hW : (rest.map fun v => v.category).sum ≤ 8) (hdg : decode cc pc = .ok (.invokestatic index, 3)) (hf : cells ≤ R.cells ∧ slots ≤ R.slots)
    (kk : W p l e R s m args below meth c H locs cells slots Q (F0 m (pc + 3) ls (v :: rest))) : W p l e R s m args below meth c H locs cells slots Q (F0 m pc ls st) :=
  pu_go (va_runSN (g := F0 m pc ls st) (mc := 0) (ms := 0) S (hM H) cw
    ⟨fun a U g mk q => ⟨q.1, q.2.1, fm_same (u := U) (U := U.calling g mk a) rfl q.2.2⟩, fun U hU hWm => ⟨rfl, hU, fm_warm hWm (fm_narrow (fm_kept hF hS.2.1) (fun _ h => h.elim))⟩⟩ rfl hn hsize hstack (lv_room hW) hdg hf) kk
theorem fm_pr (hx : p.tables.exec = Jvm.exec) (hb : c.code = cc) (hF : FM ad A s s.heap) (hi : i < 2) (hS : va_S A s.heap H locs) (hown : s.vm.findClass own = some m.cls) (hlink : (Cond.fieldLink own index fE "precision" "I").before args s = true) (hdg : decode cc pc = .ok (.getfield index, 3))
    (kk : W p l e R s m args below meth c H locs cells slots Q (F0 m (pc + 3) ls (.int (fPr i) :: rest))) : W p l e R s m args below meth c H locs cells slots Q (F0 m pc ls (.ref (ad i) :: rest)) := va_getX hx hb hF.2.1 hi hS hown hlink (fun _ h => h) hdg kk
theorem fm_bi (hx : p.tables.exec = Jvm.exec) (hb : c.code = cc) (hF : FM ad A s s.heap) (hi : i < 2) (hS : va_S A s.heap H locs) (hown : s.vm.findClass own = some m.cls) (hlink : (Cond.fieldLink own index fE "bias" "I").before args s = true) (hdg : decode cc pc = .ok (.getfield index, 3))
    (kk : W p l e R s m args below meth c H locs cells slots Q (F0 m (pc + 3) ls (.int (fBi i) :: rest))) : W p l e R s m args below meth c H locs cells slots Q (F0 m pc ls (.ref (ad i) :: rest)) := va_getX hx hb hF.2.2.1 hi hS hown hlink (fun _ h => h) hdg kk
theorem fm_sg (hx : p.tables.exec = Jvm.exec) (hb : c.code = cc) (hF : FM ad A s s.heap) (hi : i < 2) (hS : va_S A s.heap H locs) (hown : s.vm.findClass own = some m.cls) (hlink : (Cond.fieldLink own index fE "sign" "J").before args s = true) (hdg : decode cc pc = .ok (.getfield index, 3))
    (kk : W p l e R s m args below meth c H locs cells slots Q (F0 m (pc + 3) ls (.long (fSg i) :: rest))) : W p l e R s m args below meth c H locs cells slots Q (F0 m pc ls (.ref (ad i) :: rest)) := va_getX hx hb hF.2.2.2.1 hi hS hown hlink (fun _ h => h) hdg kk
theorem fm_le (hx : p.tables.exec = Jvm.exec) (hb : c.code = cc) (hF : FM ad A s s.heap) (hi : i < 2) (hS : va_S A s.heap H locs) (hown : s.vm.findClass own = some m.cls) (hlink : (Cond.fieldLink own index fE "leading" "J").before args s = true) (hdg : decode cc pc = .ok (.getfield index, 3))
    (kk : W p l e R s m args below meth c H locs cells slots Q (F0 m (pc + 3) ls (.long (fLe i) :: rest))) : W p l e R s m args below meth c H locs cells slots Q (F0 m pc ls (.ref (ad i) :: rest)) := va_getX hx hb hF.2.2.2.2.1 hi hS hown hlink (fun _ h => h) hdg kk
theorem fm_en (hx : p.tables.exec = Jvm.exec) (hb : c.code = cc) (hF : FM ad A s s.heap) (hi : i < 2) (hS : va_S A s.heap H locs) (hown : s.vm.findClass own = some m.cls) (hlink : (Cond.fieldLink own index fE "endless" "J").before args s = true) (hdg : decode cc pc = .ok (.getfield index, 3))
    (kk : W p l e R s m args below meth c H locs cells slots Q (F0 m (pc + 3) ls (.long (fEn i) :: rest))) : W p l e R s m args below meth c H locs cells slots Q (F0 m pc ls (.ref (ad i) :: rest)) := va_getX hx hb hF.2.2.2.2.2.1 hi hS hown hlink (fun _ h => h) hdg kk
theorem fm_c0 (hx : p.tables.exec = Jvm.exec) (hb : c.code = cc) (hF : FM ad A s s.heap) (hS : va_S A s.heap H locs) (hown : s.vm.findClass own = some m.cls) (hlink : (Cond.fieldLink own index fE "WIDE" "LFloatUnit$Format;").before args s = true) (hdg : decode cc pc = .ok (.getstatic index, 3))
    (kk : W p l e R s m args below meth c H locs cells slots Q (F0 m (pc + 3) ls (.ref (ad 0) :: rest))) : W p l e R s m args below meth c H locs cells slots Q (F0 m pc ls rest) := va_gets hx hb (hF.1.1 0 (by decide)).1 hS hown hlink (fun _ h => h) hdg kk
theorem fm_c1 (hx : p.tables.exec = Jvm.exec) (hb : c.code = cc) (hF : FM ad A s s.heap) (hS : va_S A s.heap H locs) (hown : s.vm.findClass own = some m.cls) (hlink : (Cond.fieldLink own index fE "NARROW" "LFloatUnit$Format;").before args s = true) (hdg : decode cc pc = .ok (.getstatic index, 3))
    (kk : W p l e R s m args below meth c H locs cells slots Q (F0 m (pc + 3) ls (.ref (ad 1) :: rest))) : W p l e R s m args below meth c H locs cells slots Q (F0 m pc ls rest) := va_gets hx hb (hF.1.1 1 (by decide)).1 hS hown hlink (fun _ h => h) hdg kk
end PU
/-- what a pure method's walk begins with -/
theorem pu_ofL {l : Launch} {ad : Nat → Nat} {y : MethodName} {ws ws' : List Cond} {rm : Room} {av : List Value} {r : Int64} {cc : ByteArray} {maxL : Nat} (hy : plainName y.cls = true) (hw : ws = Cond.code y cc maxL (some .long) :: ws') (hn : (lg_sl av).length ≤ maxL)
    (body : ∀ (p : Program) (e : Env) (s : State) (m : MethodId) (args : Array Value) (below : List Frame) (meth : Method) (c : Code) (Q : State → Prop), p.tables.exec = Jvm.exec → c.code = cc → c.maxLocals = maxL → s.vm.findClass y.cls = some m.cls → (∀ w ∈ ws, w.before args s = true) → FM ad nA s s.heap → va_S nA s.heap s.heap [] →
      (∀ (pc : Nat) (ls : Array Slot) (v : Int64), v = r → decode cc pc = .ok (.lreturn, 1) → W p l e rm s m args below meth c s.heap [] 0 0 Q (F0 m pc ls [.long v])) → ∀ ls : Array Slot, lv_has ls maxL (lv_args 0 av) → W p l e rm s m args below meth c s.heap [] 0 0 Q (F0 m 0 ls [])) :
    PuM l ad y ws rm av (.long r) := by
  intro Hc
  refine Met.ofW (cc := cc) (maxL := maxL) (ret := some .long) hy hw ?_
  intro p e s m args below meth c s₁ B hml hv
  obtain ⟨rfl, hh, hF⟩ := hv
  subst hh
  rw [lg_entry_eq]
  exact body p e s m _ below meth c _ B.exec B.bytes hml (findClass_of_methodNamed B.named) (atoms_spec B.pre) hF va_S.rf (fun pc ls v hv hd => by subst hv; exact W.lret B.exec B.bytes B.returns (fun t ht hW => ⟨rfl, ht⟩) (fun q hq => nomatch hq) hd B.notSynchronized) _ (lv_entry av hn)
theorem pu_ofI {l : Launch} {ad : Nat → Nat} {y : MethodName} {ws ws' : List Cond} {rm : Room} {av : List Value} {r : Int32} {cc : ByteArray} {maxL : Nat} (hy : plainName y.cls = true) (hw : ws = Cond.code y cc maxL (some .int) :: ws') (hn : (lg_sl av).length ≤ maxL)
    (body : ∀ (p : Program) (e : Env) (s : State) (m : MethodId) (args : Array Value) (below : List Frame) (meth : Method) (c : Code) (Q : State → Prop), p.tables.exec = Jvm.exec → c.code = cc → c.maxLocals = maxL → s.vm.findClass y.cls = some m.cls → (∀ w ∈ ws, w.before args s = true) → FM ad nA s s.heap → va_S nA s.heap s.heap [] →
      (∀ (pc : Nat) (ls : Array Slot) (v : Int32), v = r → decode cc pc = .ok (.ireturn, 1) → W p l e rm s m args below meth c s.heap [] 0 0 Q (F0 m pc ls [.int v])) → ∀ ls : Array Slot, lv_has ls maxL (lv_args 0 av) → W p l e rm s m args below meth c s.heap [] 0 0 Q (F0 m 0 ls [])) :
    PuM l ad y ws rm av (.int r) := by
  intro Hc
  refine Met.ofW (cc := cc) (maxL := maxL) (ret := some .int) hy hw ?_
  intro p e s m args below meth c s₁ B hml hv
  obtain ⟨rfl, hh, hF⟩ := hv
  subst hh
  rw [lg_entry_eq]
  exact body p e s m _ below meth c _ B.exec B.bytes hml (findClass_of_methodNamed B.named) (atoms_spec B.pre) hF va_S.rf (fun pc ls v hv hd => by subst hv; exact W.iret B.exec B.bytes B.returns (fun t ht hW => ⟨rfl, ht⟩) (fun q hq => nomatch hq) hd B.notSynchronized) _ (lv_entry av hn)
theorem bI_narrow (b : Bool) : narrow .boolean (.int (bI b)) = .int (bI b) := by cases b <;> rfl
theorem pu_ofZ {l : Launch} {ad : Nat → Nat} {y : MethodName} {ws ws' : List Cond} {rm : Room} {av : List Value} {r : Bool} {cc : ByteArray} {maxL : Nat} (hy : plainName y.cls = true) (hw : ws = Cond.code y cc maxL (some .boolean) :: ws') (hn : (lg_sl av).length ≤ maxL)
    (body : ∀ (p : Program) (e : Env) (s : State) (m : MethodId) (args : Array Value) (below : List Frame) (meth : Method) (c : Code) (Q : State → Prop), p.tables.exec = Jvm.exec → c.code = cc → c.maxLocals = maxL → s.vm.findClass y.cls = some m.cls → (∀ w ∈ ws, w.before args s = true) → FM ad nA s s.heap → va_S nA s.heap s.heap [] →
      (∀ (pc : Nat) (ls : Array Slot) (v : Int32), v = bI r → decode cc pc = .ok (.ireturn, 1) → W p l e rm s m args below meth c s.heap [] 0 0 Q (F0 m pc ls [.int v])) → ∀ ls : Array Slot, lv_has ls maxL (lv_args 0 av) → W p l e rm s m args below meth c s.heap [] 0 0 Q (F0 m 0 ls [])) :
    PuM l ad y ws rm av (.int (bI r)) := by
  intro Hc
  refine Met.ofW (cc := cc) (maxL := maxL) (ret := some .boolean) hy hw ?_
  intro p e s m args below meth c s₁ B hml hv
  obtain ⟨rfl, hh, hF⟩ := hv
  subst hh
  rw [lg_entry_eq]
  exact body p e s m _ below meth c _ B.exec B.bytes hml (findClass_of_methodNamed B.named) (atoms_spec B.pre) hF va_S.rf (fun pc ls v hv hd => by subst hv; exact W.zret B.exec B.bytes B.returns (bI_narrow r) (fun t ht hW => ⟨rfl, ht⟩) (fun q hq => nomatch hq) hd B.notSynchronized) _ (lv_entry av hn)
end
section
/-! Words: longs by lN (pasted from the given rows on bits), ints by iI. -/
/-! ===== lN n to 2^64: shifts, and, or, masks, one bit ===== -/
theorem wb_tb (n : Nat) : (lN n).toBitVec = BitVec.ofNat 64 n := rfl
theorem wb_inj {a b : Int64} (h : a.toBitVec = b.toBitVec) : a = b := Int64.toBitVec_inj.mp h
theorem wb_tn {n : Nat} (h : n < 2 ^ 64) : (lN n).toBitVec.toNat = n := by rw [wb_tb, BitVec.toNat_ofNat, Nat.mod_eq_of_lt h]
theorem wb_of (x : Int64) : ∃ n, n < 2 ^ 64 ∧ x = lN n := ⟨x.toBitVec.toNat, x.toBitVec.isLt, wb_inj (by rw [wb_tb]; simp)⟩
theorem wb_of32 (x : Int32) : ∃ n, n < 2 ^ 32 ∧ x = nI n := ⟨x.toBitVec.toNat, x.toBitVec.isLt, Int32.toBitVec_inj.mp (by show _ = BitVec.ofNat 32 _; simp)⟩
theorem wb_c : ∀ k, k < 64 → ((nI k).toInt64 &&& 63) = lN k := by decide +kernel
theorem wb_cu : ∀ k, k < 64 → ((nI k).toInt64.toUInt64 &&& Int64.toUInt64 63) = UInt64.ofNat k := by decide +kernel
theorem wb_sm : ∀ k, k < 64 → (BitVec.ofNat 64 k).smod 64 = BitVec.ofNat 64 k := by decide +kernel
theorem wb_pw {a b : Nat} (h : a ≤ b) : 2 ^ b = 2 ^ a * 2 ^ (b - a) := by rw [← Nat.pow_add]; congr 1; omega
theorem wb_lt2 {a b : Nat} (h : a < b) : 2 ^ a < 2 ^ b := Nat.pow_lt_pow_right (by decide) h
theorem wb_mod (n : Nat) : lN n = lN (n % 2 ^ 64) := wb_inj (by rw [wb_tb, wb_tb]; apply BitVec.eq_of_toNat_eq; rw [BitVec.toNat_ofNat, BitVec.toNat_ofNat, Nat.mod_mod])
theorem wb_shr {n k : Nat} (hn : n < 2 ^ 64) (hk : k < 64) : ((lN n).toUInt64 >>> ((nI k).toInt64.toUInt64 &&& Int64.toUInt64 63)).toInt64 = lN (n / 2 ^ k) := by
  rw [wb_cu k hk]
  apply wb_inj
  apply BitVec.eq_of_toNat_eq
  show ((lN n).toUInt64 >>> UInt64.ofNat k).toNat = (BitVec.ofNat 64 _).toNat
  have h1 : (UInt64.ofNat k).toNat = k := by
    show (BitVec.ofNat 64 k).toNat = k
    rw [BitVec.toNat_ofNat, Nat.mod_eq_of_lt (by omega)]
  have h2 : (lN n).toUInt64.toNat = n := wb_tn hn
  rw [UInt64.toNat_shiftRight, h1, h2, Nat.mod_eq_of_lt hk, Nat.shiftRight_eq_div_pow, BitVec.toNat_ofNat, Nat.mod_eq_of_lt (Nat.lt_of_le_of_lt (Nat.div_le_self _ _) hn)]
theorem wb_shl (n : Nat) {k : Nat} (hk : k < 64) : lN n <<< ((nI k).toInt64 &&& 63) = lN (n * 2 ^ k) := by
  rw [wb_c k hk]
  apply wb_inj
  rw [Int64.toBitVec_shiftLeft, wb_tb, wb_tb, wb_tb, wb_sm k hk]
  apply BitVec.eq_of_toNat_eq
  rw [BitVec.shiftLeft_eq', BitVec.toNat_shiftLeft, BitVec.toNat_ofNat, BitVec.toNat_ofNat, BitVec.toNat_ofNat, Nat.mod_eq_of_lt (show k < 2 ^ 64 by omega), Nat.shiftLeft_eq, Nat.mul_mod, Nat.mod_mod, ← Nat.mul_mod]
theorem wb_and {a b : Nat} (ha : a < 2 ^ 64) (hb : b < 2 ^ 64) : lN a &&& lN b = lN (a &&& b) := by
  apply wb_inj
  rw [Int64.toBitVec_and, wb_tb, wb_tb, wb_tb]
  apply BitVec.eq_of_toNat_eq
  rw [BitVec.toNat_and, BitVec.toNat_ofNat, BitVec.toNat_ofNat, BitVec.toNat_ofNat, Nat.mod_eq_of_lt ha, Nat.mod_eq_of_lt hb, Nat.mod_eq_of_lt (Nat.and_lt_two_pow _ hb)]
theorem wb_or {a b : Nat} (ha : a < 2 ^ 64) (hb : b < 2 ^ 64) : lN a ||| lN b = lN (a ||| b) := by
  apply wb_inj
  rw [Int64.toBitVec_or, wb_tb, wb_tb, wb_tb]
  apply BitVec.eq_of_toNat_eq
  rw [BitVec.toNat_or, BitVec.toNat_ofNat, BitVec.toNat_ofNat, BitVec.toNat_ofNat, Nat.mod_eq_of_lt ha, Nat.mod_eq_of_lt hb, Nat.mod_eq_of_lt (Nat.or_lt_two_pow ha hb)]
theorem wb_mask {n k : Nat} (hn : n < 2 ^ 64) (hk : k < 64) : lN n &&& lN (2 ^ k - 1) = lN (n % 2 ^ k) := by
  rw [wb_and hn (by have := wb_lt2 hk; omega), Nat.and_two_pow_sub_one_eq_mod]
theorem wb_a1 {n : Nat} (hn : n < 2 ^ 64) : lN n &&& 1 = lN (n % 2) := wb_mask (k := 1) hn (by decide)
theorem wb_bit {n k : Nat} (hn : n < 2 ^ 64) (hk : k < 64) : ((lN n).toUInt64 >>> ((nI k).toInt64.toUInt64 &&& Int64.toUInt64 63)).toInt64 &&& 1 = lN (n / 2 ^ k % 2) := by
  rw [wb_shr hn hk, wb_a1 (Nat.lt_of_le_of_lt (Nat.div_le_self _ _) hn)]
theorem wb_xor {q k : Nat} (hk : k < 63) (h : 2 ^ k ≤ q) (h2 : q < 2 ^ (k + 1)) : lN q ^^^ lN (2 ^ k) = lN (q - 2 ^ k) := by
  obtain ⟨r, rfl⟩ : ∃ r, q = 2 ^ k + r := ⟨q - 2 ^ k, by omega⟩
  have hr : r < 2 ^ k := by rw [Nat.pow_succ] at h2; omega
  have hx : (2 ^ k + r) ^^^ 2 ^ k = r := by
    apply Nat.eq_of_testBit_eq
    intro i
    rw [Nat.testBit_xor, Nat.testBit_two_pow]
    rcases Nat.lt_trichotomy i k with h | h | h
    · rw [Nat.testBit_two_pow_add_gt h]
      simp [show ¬ k = i by omega]
    · subst h
      rw [Nat.testBit_two_pow_add_eq]
      simp
    · have a1 : 2 ^ (k + 1) ≤ 2 ^ i := Nat.pow_le_pow_right (by decide) h
      rw [Nat.testBit_lt_two_pow (show 2 ^ k + r < 2 ^ i by omega), Nat.testBit_lt_two_pow (show r < 2 ^ i by omega)]
      simp [show ¬ k = i by omega]
  have b1 := wb_lt2 (show k + 1 < 64 by omega)
  have b2 := wb_lt2 (show k < 64 by omega)
  apply wb_inj
  rw [Int64.toBitVec_xor, wb_tb, wb_tb, wb_tb]
  apply BitVec.eq_of_toNat_eq
  rw [BitVec.toNat_xor, BitVec.toNat_ofNat, BitVec.toNat_ofNat, BitVec.toNat_ofNat, Nat.mod_eq_of_lt (by omega : 2 ^ k + r < 2 ^ 64), Nat.mod_eq_of_lt b2, hx, Nat.add_sub_cancel_left, Nat.mod_eq_of_lt (by omega)]
/-! ===== lN: masks, 'or' of parts that don't overlap is a sum ===== -/
theorem u_tn {n : Nat} (h : n < 2 ^ 64) : (UInt64.ofNat n).toNat = n := Nat.mod_eq_of_lt h
theorem g_and {a b c : Nat} (ha : a < 2 ^ 64) (hb : b < 2 ^ 64) (hc : a &&& b = c) : lN a &&& lN b = lN c := by
  subst hc
  have h : UInt64.ofNat a &&& UInt64.ofNat b = UInt64.ofNat (a &&& b) := UInt64.toNat_inj.mp (by rw [UInt64.toNat_and, u_tn ha, u_tn hb, u_tn (Nat.and_lt_two_pow a hb)])
  have h2 := congrArg UInt64.toInt64 h
  exact h2
theorem g_and1 {a : Nat} (ha : a < 2 ^ 64) : lN a &&& 1 = lN (a % 2) := g_and (b := 1) ha (by decide) (Nat.and_two_pow_sub_one_eq_mod a 1)
theorem g_mask {a s p : Nat} (hp : 2 ^ s = p) (hs : s < 64) (ha : a < 2 ^ 64) : lN a &&& lN (p - 1) = lN (a % p) := by
  subst hp
  have := Nat.pow_lt_pow_right (show 1 < 2 by decide) hs
  exact g_and ha (by omega) (Nat.and_two_pow_sub_one_eq_mod a s)
theorem g_or {k p a b : Nat} (hp : 2 ^ k = p) (ha : a < p) (h : b * p + a < 2 ^ 64) : lN (b * p) ||| lN a = lN (b * p + a) := by
  subst hp
  have h1 : b * 2 ^ k ||| a = b * 2 ^ k + a := by rw [← Nat.shiftLeft_eq, Nat.shiftLeft_add_eq_or_of_lt ha]
  have h3 : UInt64.ofNat (b * 2 ^ k) ||| UInt64.ofNat a = UInt64.ofNat (b * 2 ^ k + a) := UInt64.toNat_inj.mp (by rw [UInt64.toNat_or, u_tn (by omega), u_tn (by omega), u_tn h, h1])
  have h2 := congrArg UInt64.toInt64 h3
  exact h2
theorem g_or' {k p a b : Nat} (hp : 2 ^ k = p) (ha : a < p) (h : a + b * p < 2 ^ 64) : lN a ||| lN (b * p) = lN (a + b * p) := by
  rw [Int64.or_comm, g_or hp ha (by omega), Nat.add_comm]
theorem g_ushr {a k p : Nat} {y : UInt64} (hy : y = UInt64.ofNat k) (hk : k < 64) (hp : 2 ^ k = p) (ha : a < 2 ^ 64) : ((lN a).toUInt64 >>> y).toInt64 = lN (a / p) := by
  subst hy hp
  have h : UInt64.ofNat a >>> UInt64.ofNat k = UInt64.ofNat (a / 2 ^ k) := UInt64.toNat_inj.mp (by rw [UInt64.toNat_shiftRight, u_tn ha, u_tn (by omega), u_tn (Nat.lt_of_le_of_lt (Nat.div_le_self _ _) ha), Nat.mod_eq_of_lt hk, Nat.shiftRight_eq_div_pow])
  have h2 := congrArg UInt64.toInt64 h
  exact h2
theorem g_shl {a k p : Nat} {y : Int64} (hy : y.toBitVec.smod 64 = BitVec.ofNat 64 k) (hk : k < 64) (hp : 2 ^ k = p) (ha : a < 2 ^ 64) : lN a <<< y = lN (a * p) := by
  subst hp
  apply Int64.toBitVec_inj.mp
  rw [Int64.toBitVec_shiftLeft, hy]
  apply BitVec.eq_of_toNat_eq
  have hb : (lN a).toBitVec.toNat = a := Nat.mod_eq_of_lt ha
  have hk' : (BitVec.ofNat 64 k).toNat = k := Nat.mod_eq_of_lt (by omega)
  have h : ((lN a).toBitVec <<< BitVec.ofNat 64 k).toNat = (a * 2 ^ k) % 2 ^ 64 := by simp only [BitVec.shiftLeft_eq', BitVec.toNat_shiftLeft, hb, hk', Nat.shiftLeft_eq]
  exact h
/-! ===== ints by their number ===== -/
def iI (z : Int) : Int32 := Int32.ofInt z
theorem iI_nI (n : Nat) : nI n = iI (n : Int) := Int32.ofInt_eq_ofNat.symm
theorem iI_add (a b : Int) : iI a + iI b = iI (a + b) := (Int32.ofInt_add a b).symm
theorem iI_sub (a b : Int) : iI a - iI b = iI (a - b) := (Int32.ofInt_sub a b).symm
theorem iI_mul (a b : Int) : iI a * iI b = iI (a * b) := (Int32.ofInt_mul a b).symm
theorem iI_neg (a : Int) : -iI a = iI (-a) := (Int32.ofInt_neg a).symm
def iB (a : Int) : Prop := -2147483648 ≤ a ∧ a < 2147483648
theorem iI_toInt {a : Int} (h : iB a) : (iI a).toInt = a := Int32.toInt_ofInt_of_le (by have := h.1; omega) (by have := h.2; omega)
theorem iI_lt {a b : Int} (ha : iB a) (hb : iB b) : iI a < iI b ↔ a < b := by rw [Int32.lt_iff_toInt_lt, iI_toInt ha, iI_toInt hb]
theorem iI_le {a b : Int} (ha : iB a) (hb : iB b) : iI a ≤ iI b ↔ a ≤ b := by rw [Int32.le_iff_toInt_le, iI_toInt ha, iI_toInt hb]
theorem iI_eq {a b : Int} (ha : iB a) (hb : iB b) : iI a = iI b ↔ a = b := by rw [← Int32.toInt_inj, iI_toInt ha, iI_toInt hb]
theorem iI_of (x : Int32) : ∃ z : Int, iB z ∧ x = iI z := ⟨x.toInt, ⟨x.le_toInt, x.toInt_lt⟩, (Int32.ofInt_toInt x).symm⟩
theorem iI_max {a b : Int} (ha : iB a) (hb : iB b) : (if iI a < iI b then iI b else iI a) = iI (max a b) := by
  by_cases h : a < b
  · rw [if_pos ((iI_lt ha hb).2 h), Int.max_eq_right (by omega)]
  · rw [if_neg (fun g => h ((iI_lt ha hb).1 g)), Int.max_eq_left (by omega)]
theorem iI_min {a b : Int} (ha : iB a) (hb : iB b) : (if iI b < iI a then iI b else iI a) = iI (min a b) := by
  by_cases h : b < a
  · rw [if_pos ((iI_lt hb ha).2 h), Int.min_eq_right (by omega)]
  · rw [if_neg (fun g => h ((iI_lt hb ha).1 g)), Int.min_eq_left (by omega)]
theorem bI_0 (b : Bool) : bI b = 0 ↔ b = false := by cases b <;> decide
theorem bI_1 (b : Bool) : ¬ bI b = 0 ↔ b = true := by cases b <;> decide
def jShl (x : Int64) (y : Int32) : Int64 := x <<< (y.toInt64 &&& 63)
def jUshr (x : Int64) (y : Int32) : Int64 := (x.toUInt64 >>> (y.toInt64.toUInt64 &&& Int64.toUInt64 63)).toInt64
def jShr (x : Int64) (y : Int32) : Int64 := x >>> (y.toInt64 &&& 63)
def jMax (x y : Int32) : Int32 := if x < y then y else x
def jMin (x y : Int32) : Int32 := if y < x then y else x
end
section
/-! Methods of the format that call no other, or few (by program). -/
def C_F_own (i : Nat) (x1 : Int64) : Int64 :=
  x1 &&& ((fSg i) ||| ((fSg i) - 1))
abbrev rmF_own : Room := { frames := 0, cells := 0, slots := 0, locals := 0 }
theorem cwF_own {R : Room} {s : State} {args : Array Value} {w0 : Cond} {own : String} {idx : Nat} (hts : ∀ w ∈ (w0 :: bigW), w.before args s = true) (hl : Cond.methodLink own idx yF_own ∈ bigW) (hR : rmF_own.frames + 1 ≤ R.frames ∧ 8 + (3 + 11) + rmF_own.locals ≤ R.locals) : CallW R s args own "FloatUnit$Format" idx yF_own cF_own 3 (some .long) (wsM yF_own cF_own 3 (some .long)) rmF_own 0 0 1 :=
  cwV 1 hts (big_V hl w_141 w_142 w_8 w_143) rfl rfl rfl ⟨rfl, by decide, by decide, by decide +kernel⟩ hR
set_option maxRecDepth 100000 in
set_option maxHeartbeats 4000000 in
theorem c_F_own (l : Launch) (ad : Nat → Nat) {i : Nat} (hi : i < 2) (x1 : Int64) : PuM l ad yF_own (wsM yF_own cF_own 3 (some .long)) rmF_own [.ref (ad i), .long x1] (.long (C_F_own i x1)) := by
  refine pu_ofL (cc := cF_own) (maxL := 3) (by decide) rfl (Nat.le_of_ble_eq_true rfl) ?_
  intro p e s m args below meth c Q hx hb hml hown hts hF hS hret ls hl
  have hl : lv_has ls 3 [(0, .ref (ad i)), (1, .long x1)] := hl
  refine lv_lload_n (pc := 0) hx hb dF_own_0 rfl (lv_at hl 1 rfl) ?_
  refine lv_aload_n (pc := 1) hx hb dF_own_1 rfl (lv_at hl 0 rfl) ?_
  refine fm_sg (pc := 2) hx hb hF hi hS hown (hts _ (List.mem_cons_of_mem _ w_529)) dF_own_2 ?_
  refine lv_aload_n (pc := 5) hx hb dF_own_5 rfl (lv_at hl 0 rfl) ?_
  refine fm_sg (pc := 6) hx hb hF hi hS hown (hts _ (List.mem_cons_of_mem _ w_529)) dF_own_6 ?_
  refine lv_lconst (v := 1) (pc := 9) hx hb dF_own_9 (by decide) ?_
  refine lv_lsub (pc := 10) hx hb dF_own_10 ?_
  refine lv_lor (pc := 11) hx hb dF_own_11 ?_
  refine lv_land (pc := 12) hx hb dF_own_12 ?_
  exact hret _ _ _ (show x1 &&& ((fSg i) ||| ((fSg i) - 1)) = C_F_own i x1 from by rw [C_F_own]) dF_own_13
def C_F_size (i : Nat) (x1 : Int64) : Int64 :=
  x1 &&& ((fSg i) - 1)
abbrev rmF_size : Room := { frames := 0, cells := 0, slots := 0, locals := 0 }
theorem cwF_size {R : Room} {s : State} {args : Array Value} {w0 : Cond} {own : String} {idx : Nat} (hts : ∀ w ∈ (w0 :: bigW), w.before args s = true) (hl : Cond.methodLink own idx yF_size ∈ bigW) (hR : rmF_size.frames + 1 ≤ R.frames ∧ 8 + (3 + 11) + rmF_size.locals ≤ R.locals) : CallW R s args own "FloatUnit$Format" idx yF_size cF_size 3 (some .long) (wsM yF_size cF_size 3 (some .long)) rmF_size 0 0 1 :=
  cwV 1 hts (big_V hl w_153 w_154 w_8 w_155) rfl rfl rfl ⟨rfl, by decide, by decide, by decide +kernel⟩ hR
set_option maxRecDepth 100000 in
set_option maxHeartbeats 4000000 in
theorem c_F_size (l : Launch) (ad : Nat → Nat) {i : Nat} (hi : i < 2) (x1 : Int64) : PuM l ad yF_size (wsM yF_size cF_size 3 (some .long)) rmF_size [.ref (ad i), .long x1] (.long (C_F_size i x1)) := by
  refine pu_ofL (cc := cF_size) (maxL := 3) (by decide) rfl (Nat.le_of_ble_eq_true rfl) ?_
  intro p e s m args below meth c Q hx hb hml hown hts hF hS hret ls hl
  have hl : lv_has ls 3 [(0, .ref (ad i)), (1, .long x1)] := hl
  refine lv_lload_n (pc := 0) hx hb dF_size_0 rfl (lv_at hl 1 rfl) ?_
  refine lv_aload_n (pc := 1) hx hb dF_size_1 rfl (lv_at hl 0 rfl) ?_
  refine fm_sg (pc := 2) hx hb hF hi hS hown (hts _ (List.mem_cons_of_mem _ w_529)) dF_size_2 ?_
  refine lv_lconst (v := 1) (pc := 5) hx hb dF_size_5 (by decide) ?_
  refine lv_lsub (pc := 6) hx hb dF_size_6 ?_
  refine lv_land (pc := 7) hx hb dF_size_7 ?_
  exact hret _ _ _ (show x1 &&& ((fSg i) - 1) = C_F_size i x1 from by rw [C_F_size]) dF_size_8
def C_F_isMinus (i : Nat) (x1 : Int64) : Bool :=
  if (x1 &&& (fSg i)) = 0 then
    false
  else
    true
abbrev rmF_isMinus : Room := { frames := 0, cells := 0, slots := 0, locals := 0 }
theorem cwF_isMinus {R : Room} {s : State} {args : Array Value} {w0 : Cond} {own : String} {idx : Nat} (hts : ∀ w ∈ (w0 :: bigW), w.before args s = true) (hl : Cond.methodLink own idx yF_isMinus ∈ bigW) (hR : rmF_isMinus.frames + 1 ≤ R.frames ∧ 8 + (3 + 11) + rmF_isMinus.locals ≤ R.locals) : CallW R s args own "FloatUnit$Format" idx yF_isMinus cF_isMinus 3 (some .boolean) (wsM yF_isMinus cF_isMinus 3 (some .boolean)) rmF_isMinus 0 0 1 :=
  cwV 1 hts (big_V hl w_165 w_166 w_8 w_167) rfl rfl rfl ⟨rfl, by decide, by decide, by decide +kernel⟩ hR
set_option maxRecDepth 100000 in
set_option maxHeartbeats 4000000 in
theorem c_F_isMinus (l : Launch) (ad : Nat → Nat) {i : Nat} (hi : i < 2) (x1 : Int64) : PuM l ad yF_isMinus (wsM yF_isMinus cF_isMinus 3 (some .boolean)) rmF_isMinus [.ref (ad i), .long x1] (.int (bI (C_F_isMinus i x1))) := by
  refine pu_ofZ (cc := cF_isMinus) (maxL := 3) (by decide) rfl (Nat.le_of_ble_eq_true rfl) ?_
  intro p e s m args below meth c Q hx hb hml hown hts hF hS hret ls hl
  have hl : lv_has ls 3 [(0, .ref (ad i)), (1, .long x1)] := hl
  refine lv_lload_n (pc := 0) hx hb dF_isMinus_0 rfl (lv_at hl 1 rfl) ?_
  refine lv_aload_n (pc := 1) hx hb dF_isMinus_1 rfl (lv_at hl 0 rfl) ?_
  refine fm_sg (pc := 2) hx hb hF hi hS hown (hts _ (List.mem_cons_of_mem _ w_529)) dF_isMinus_2 ?_
  refine lv_land (pc := 5) hx hb dF_isMinus_5 ?_
  refine lv_lconst (v := 0) (pc := 6) hx hb dF_isMinus_6 (by decide) ?_
  refine W.lcmp (pc := 7) hx hb dF_isMinus_7 ?_
  refine lv_if_eq (tgt := 15) (pc := 8) hx hb dF_isMinus_8 (by decide) (fun h1 => ?_) (fun h1 => ?_)
  · skip
    have h1 : (x1 &&& (fSg i)) = 0 := (lg_cmp_eq _ _).1 h1
    refine lv_iconst (v := 0) (pc := 15) hx hb dF_isMinus_15 (by decide) ?_
    exact hret _ _ _ (show bI false = bI (C_F_isMinus i x1) from by rw [C_F_isMinus, if_pos h1]) dF_isMinus_16
  · skip
    have h1 : ¬ ((x1 &&& (fSg i)) = 0) := fun q => h1 ((lg_cmp_eq _ _).2 q)
    refine lv_iconst (v := 1) (pc := 11) hx hb dF_isMinus_11 (by decide) ?_
    refine lv_goto (tgt := 16) (pc := 12) hx hb dF_isMinus_12 (by decide) ?_
    exact hret _ _ _ (show bI true = bI (C_F_isMinus i x1) from by rw [C_F_isMinus, if_neg h1]) dF_isMinus_16
def C_F_isNone (i : Nat) (x1 : Int64) : Bool :=
  if (C_F_size i x1) ≤ (fEn i) then
    false
  else
    true
abbrev rmF_isNone : Room := { frames := 1, cells := 0, slots := 0, locals := 22 }
theorem cwF_isNone {R : Room} {s : State} {args : Array Value} {w0 : Cond} {own : String} {idx : Nat} (hts : ∀ w ∈ (w0 :: bigW), w.before args s = true) (hl : Cond.methodLink own idx yF_isNone ∈ bigW) (hR : rmF_isNone.frames + 1 ≤ R.frames ∧ 8 + (3 + 11) + rmF_isNone.locals ≤ R.locals) : CallW R s args own "FloatUnit$Format" idx yF_isNone cF_isNone 3 (some .boolean) (wsM yF_isNone cF_isNone 3 (some .boolean)) rmF_isNone 0 0 1 :=
  cwV 1 hts (big_V hl w_149 w_150 w_8 w_151) rfl rfl rfl ⟨rfl, by decide, by decide, by decide +kernel⟩ hR
set_option maxRecDepth 100000 in
set_option maxHeartbeats 4000000 in
theorem c_F_isNone (l : Launch) (ad : Nat → Nat) {i : Nat} (hi : i < 2) (x1 : Int64) : PuM l ad yF_isNone (wsM yF_isNone cF_isNone 3 (some .boolean)) rmF_isNone [.ref (ad i), .long x1] (.int (bI (C_F_isNone i x1))) := by
  refine pu_ofZ (cc := cF_isNone) (maxL := 3) (by decide) rfl (Nat.le_of_ble_eq_true rfl) ?_
  intro p e s m args below meth c Q hx hb hml hown hts hF hS hret ls hl
  have hl : lv_has ls 3 [(0, .ref (ad i)), (1, .long x1)] := hl
  refine lv_aload_n (pc := 0) hx hb dF_isNone_0 rfl (lv_at hl 0 rfl) ?_
  refine lv_lload_n (pc := 1) hx hb dF_isNone_1 rfl (lv_at hl 1 rfl) ?_
  refine pu_V (pc := 2) (i := i) (rest := []) ⟨hx, hb, hml, hown, hts⟩ hi (c_F_size l ad hi x1) (cwF_size hts w_152 ⟨by decide, by decide⟩) hF hS rfl hl.1 rfl (Nat.le_of_ble_eq_true rfl) dF_isNone_2 ⟨Nat.zero_le _, Nat.zero_le _⟩ ?_
  refine lv_aload_n (pc := 5) hx hb dF_isNone_5 rfl (lv_at hl 0 rfl) ?_
  refine fm_en (pc := 6) hx hb hF hi hS hown (hts _ (List.mem_cons_of_mem _ w_530)) dF_isNone_6 ?_
  refine W.lcmp (pc := 9) hx hb dF_isNone_9 ?_
  refine lv_if_le (tgt := 17) (pc := 10) hx hb dF_isNone_10 (by decide) (fun h1 => ?_) (fun h1 => ?_)
  · skip
    have h1 : (C_F_size i x1) ≤ (fEn i) := (lg_cmp_le _ _).1 h1
    refine lv_iconst (v := 0) (pc := 17) hx hb dF_isNone_17 (by decide) ?_
    exact hret _ _ _ (show bI false = bI (C_F_isNone i x1) from by rw [C_F_isNone, if_pos h1]) dF_isNone_18
  · skip
    have h1 : ¬ ((C_F_size i x1) ≤ (fEn i)) := fun q => h1 ((lg_cmp_le _ _).2 q)
    refine lv_iconst (v := 1) (pc := 13) hx hb dF_isNone_13 (by decide) ?_
    refine lv_goto (tgt := 18) (pc := 14) hx hb dF_isNone_14 (by decide) ?_
    exact hret _ _ _ (show bI true = bI (C_F_isNone i x1) from by rw [C_F_isNone, if_neg h1]) dF_isNone_18
def C_F_isEndless (i : Nat) (x1 : Int64) : Bool :=
  if (C_F_size i x1) = (fEn i) then
    true
  else
    false
abbrev rmF_isEndless : Room := { frames := 1, cells := 0, slots := 0, locals := 22 }
theorem cwF_isEndless {R : Room} {s : State} {args : Array Value} {w0 : Cond} {own : String} {idx : Nat} (hts : ∀ w ∈ (w0 :: bigW), w.before args s = true) (hl : Cond.methodLink own idx yF_isEndless ∈ bigW) (hR : rmF_isEndless.frames + 1 ≤ R.frames ∧ 8 + (3 + 11) + rmF_isEndless.locals ≤ R.locals) : CallW R s args own "FloatUnit$Format" idx yF_isEndless cF_isEndless 3 (some .boolean) (wsM yF_isEndless cF_isEndless 3 (some .boolean)) rmF_isEndless 0 0 1 :=
  cwV 1 hts (big_V hl w_169 w_170 w_8 w_171) rfl rfl rfl ⟨rfl, by decide, by decide, by decide +kernel⟩ hR
set_option maxRecDepth 100000 in
set_option maxHeartbeats 4000000 in
theorem c_F_isEndless (l : Launch) (ad : Nat → Nat) {i : Nat} (hi : i < 2) (x1 : Int64) : PuM l ad yF_isEndless (wsM yF_isEndless cF_isEndless 3 (some .boolean)) rmF_isEndless [.ref (ad i), .long x1] (.int (bI (C_F_isEndless i x1))) := by
  refine pu_ofZ (cc := cF_isEndless) (maxL := 3) (by decide) rfl (Nat.le_of_ble_eq_true rfl) ?_
  intro p e s m args below meth c Q hx hb hml hown hts hF hS hret ls hl
  have hl : lv_has ls 3 [(0, .ref (ad i)), (1, .long x1)] := hl
  refine lv_aload_n (pc := 0) hx hb dF_isEndless_0 rfl (lv_at hl 0 rfl) ?_
  refine lv_lload_n (pc := 1) hx hb dF_isEndless_1 rfl (lv_at hl 1 rfl) ?_
  refine pu_V (pc := 2) (i := i) (rest := []) ⟨hx, hb, hml, hown, hts⟩ hi (c_F_size l ad hi x1) (cwF_size hts w_152 ⟨by decide, by decide⟩) hF hS rfl hl.1 rfl (Nat.le_of_ble_eq_true rfl) dF_isEndless_2 ⟨Nat.zero_le _, Nat.zero_le _⟩ ?_
  refine lv_aload_n (pc := 5) hx hb dF_isEndless_5 rfl (lv_at hl 0 rfl) ?_
  refine fm_en (pc := 6) hx hb hF hi hS hown (hts _ (List.mem_cons_of_mem _ w_530)) dF_isEndless_6 ?_
  refine W.lcmp (pc := 9) hx hb dF_isEndless_9 ?_
  refine lv_if_ne (tgt := 17) (pc := 10) hx hb dF_isEndless_10 (by decide) (fun h1 => ?_) (fun h1 => ?_)
  · skip
    have h1 : ¬ ((C_F_size i x1) = (fEn i)) := fun q => h1 ((lg_cmp_eq _ _).2 q)
    refine lv_iconst (v := 0) (pc := 17) hx hb dF_isEndless_17 (by decide) ?_
    exact hret _ _ _ (show bI false = bI (C_F_isEndless i x1) from by rw [C_F_isEndless, if_neg h1]) dF_isEndless_18
  · skip
    have h1 : (C_F_size i x1) = (fEn i) := (lg_cmp_eq _ _).1 h1
    refine lv_iconst (v := 1) (pc := 13) hx hb dF_isEndless_13 (by decide) ?_
    refine lv_goto (tgt := 18) (pc := 14) hx hb dF_isEndless_14 (by decide) ?_
    exact hret _ _ _ (show bI true = bI (C_F_isEndless i x1) from by rw [C_F_isEndless, if_pos h1]) dF_isEndless_18
def C_F_isZero (i : Nat) (x1 : Int64) : Bool :=
  if (C_F_size i x1) = 0 then
    true
  else
    false
abbrev rmF_isZero : Room := { frames := 1, cells := 0, slots := 0, locals := 22 }
theorem cwF_isZero {R : Room} {s : State} {args : Array Value} {w0 : Cond} {own : String} {idx : Nat} (hts : ∀ w ∈ (w0 :: bigW), w.before args s = true) (hl : Cond.methodLink own idx yF_isZero ∈ bigW) (hR : rmF_isZero.frames + 1 ≤ R.frames ∧ 8 + (3 + 11) + rmF_isZero.locals ≤ R.locals) : CallW R s args own "FloatUnit$Format" idx yF_isZero cF_isZero 3 (some .boolean) (wsM yF_isZero cF_isZero 3 (some .boolean)) rmF_isZero 0 0 1 :=
  cwV 1 hts (big_V hl w_253 w_254 w_8 w_255) rfl rfl rfl ⟨rfl, by decide, by decide, by decide +kernel⟩ hR
set_option maxRecDepth 100000 in
set_option maxHeartbeats 4000000 in
theorem c_F_isZero (l : Launch) (ad : Nat → Nat) {i : Nat} (hi : i < 2) (x1 : Int64) : PuM l ad yF_isZero (wsM yF_isZero cF_isZero 3 (some .boolean)) rmF_isZero [.ref (ad i), .long x1] (.int (bI (C_F_isZero i x1))) := by
  refine pu_ofZ (cc := cF_isZero) (maxL := 3) (by decide) rfl (Nat.le_of_ble_eq_true rfl) ?_
  intro p e s m args below meth c Q hx hb hml hown hts hF hS hret ls hl
  have hl : lv_has ls 3 [(0, .ref (ad i)), (1, .long x1)] := hl
  refine lv_aload_n (pc := 0) hx hb dF_isZero_0 rfl (lv_at hl 0 rfl) ?_
  refine lv_lload_n (pc := 1) hx hb dF_isZero_1 rfl (lv_at hl 1 rfl) ?_
  refine pu_V (pc := 2) (i := i) (rest := []) ⟨hx, hb, hml, hown, hts⟩ hi (c_F_size l ad hi x1) (cwF_size hts w_152 ⟨by decide, by decide⟩) hF hS rfl hl.1 rfl (Nat.le_of_ble_eq_true rfl) dF_isZero_2 ⟨Nat.zero_le _, Nat.zero_le _⟩ ?_
  refine lv_lconst (v := 0) (pc := 5) hx hb dF_isZero_5 (by decide) ?_
  refine W.lcmp (pc := 6) hx hb dF_isZero_6 ?_
  refine lv_if_ne (tgt := 14) (pc := 7) hx hb dF_isZero_7 (by decide) (fun h1 => ?_) (fun h1 => ?_)
  · skip
    have h1 : ¬ ((C_F_size i x1) = 0) := fun q => h1 ((lg_cmp_eq _ _).2 q)
    refine lv_iconst (v := 0) (pc := 14) hx hb dF_isZero_14 (by decide) ?_
    exact hret _ _ _ (show bI false = bI (C_F_isZero i x1) from by rw [C_F_isZero, if_neg h1]) dF_isZero_15
  · skip
    have h1 : (C_F_size i x1) = 0 := (lg_cmp_eq _ _).1 h1
    refine lv_iconst (v := 1) (pc := 10) hx hb dF_isZero_10 (by decide) ?_
    refine lv_goto (tgt := 15) (pc := 11) hx hb dF_isZero_11 (by decide) ?_
    exact hret _ _ _ (show bI true = bI (C_F_isZero i x1) from by rw [C_F_isZero, if_pos h1]) dF_isZero_15
def C_F_sort (i : Nat) (x1 : Int64) : Int32 :=
  if (C_F_isNone i x1) = false then
    if (C_F_isEndless i x1) = false then
      if (C_F_isZero i x1) = false then
        if (fLe i) ≤ (C_F_size i x1) then
          2
        else
          3
      else
        4
    else
      1
  else
    0
abbrev rmF_sort : Room := { frames := 2, cells := 0, slots := 0, locals := 44 }
theorem cwF_sort {R : Room} {s : State} {args : Array Value} {w0 : Cond} {own : String} {idx : Nat} (hts : ∀ w ∈ (w0 :: bigW), w.before args s = true) (hl : Cond.methodLink own idx yF_sort ∈ bigW) (hR : rmF_sort.frames + 1 ≤ R.frames ∧ 8 + (3 + 11) + rmF_sort.locals ≤ R.locals) : CallW R s args own "FloatUnit$Format" idx yF_sort cF_sort 3 (some .int) (wsM yF_sort cF_sort 3 (some .int)) rmF_sort 0 0 1 :=
  cwV 1 hts (big_V hl w_337 w_338 w_8 w_339) rfl rfl rfl ⟨rfl, by decide, by decide, by decide +kernel⟩ hR
set_option maxRecDepth 100000 in
set_option maxHeartbeats 4000000 in
theorem c_F_sort (l : Launch) (ad : Nat → Nat) {i : Nat} (hi : i < 2) (x1 : Int64) : PuM l ad yF_sort (wsM yF_sort cF_sort 3 (some .int)) rmF_sort [.ref (ad i), .long x1] (.int (C_F_sort i x1)) := by
  refine pu_ofI (cc := cF_sort) (maxL := 3) (by decide) rfl (Nat.le_of_ble_eq_true rfl) ?_
  intro p e s m args below meth c Q hx hb hml hown hts hF hS hret ls hl
  have hl : lv_has ls 3 [(0, .ref (ad i)), (1, .long x1)] := hl
  refine lv_aload_n (pc := 0) hx hb dF_sort_0 rfl (lv_at hl 0 rfl) ?_
  refine lv_lload_n (pc := 1) hx hb dF_sort_1 rfl (lv_at hl 1 rfl) ?_
  refine pu_V (pc := 2) (i := i) (rest := []) ⟨hx, hb, hml, hown, hts⟩ hi (c_F_isNone l ad hi x1) (cwF_isNone hts w_340 ⟨by decide, by decide⟩) hF hS rfl hl.1 rfl (Nat.le_of_ble_eq_true rfl) dF_sort_2 ⟨Nat.zero_le _, Nat.zero_le _⟩ ?_
  refine lv_if_eq (tgt := 10) (pc := 5) hx hb dF_sort_5 (by decide) (fun h1 => ?_) (fun h1 => ?_)
  · skip
    have h1 : (C_F_isNone i x1) = false := (bI_0 _).1 h1
    refine lv_aload_n (pc := 10) hx hb dF_sort_10 rfl (lv_at hl 0 rfl) ?_
    refine lv_lload_n (pc := 11) hx hb dF_sort_11 rfl (lv_at hl 1 rfl) ?_
    refine pu_V (pc := 12) (i := i) (rest := []) ⟨hx, hb, hml, hown, hts⟩ hi (c_F_isEndless l ad hi x1) (cwF_isEndless hts w_341 ⟨by decide, by decide⟩) hF hS rfl hl.1 rfl (Nat.le_of_ble_eq_true rfl) dF_sort_12 ⟨Nat.zero_le _, Nat.zero_le _⟩ ?_
    refine lv_if_eq (tgt := 20) (pc := 15) hx hb dF_sort_15 (by decide) (fun h2 => ?_) (fun h2 => ?_)
    · skip
      have h2 : (C_F_isEndless i x1) = false := (bI_0 _).1 h2
      refine lv_aload_n (pc := 20) hx hb dF_sort_20 rfl (lv_at hl 0 rfl) ?_
      refine lv_lload_n (pc := 21) hx hb dF_sort_21 rfl (lv_at hl 1 rfl) ?_
      refine pu_V (pc := 22) (i := i) (rest := []) ⟨hx, hb, hml, hown, hts⟩ hi (c_F_isZero l ad hi x1) (cwF_isZero hts w_342 ⟨by decide, by decide⟩) hF hS rfl hl.1 rfl (Nat.le_of_ble_eq_true rfl) dF_sort_22 ⟨Nat.zero_le _, Nat.zero_le _⟩ ?_
      refine lv_if_eq (tgt := 30) (pc := 25) hx hb dF_sort_25 (by decide) (fun h3 => ?_) (fun h3 => ?_)
      · skip
        have h3 : (C_F_isZero i x1) = false := (bI_0 _).1 h3
        refine lv_aload_n (pc := 30) hx hb dF_sort_30 rfl (lv_at hl 0 rfl) ?_
        refine lv_lload_n (pc := 31) hx hb dF_sort_31 rfl (lv_at hl 1 rfl) ?_
        refine pu_V (pc := 32) (i := i) (rest := []) ⟨hx, hb, hml, hown, hts⟩ hi (c_F_size l ad hi x1) (cwF_size hts w_152 ⟨by decide, by decide⟩) hF hS rfl hl.1 rfl (Nat.le_of_ble_eq_true rfl) dF_sort_32 ⟨Nat.zero_le _, Nat.zero_le _⟩ ?_
        refine lv_aload_n (pc := 35) hx hb dF_sort_35 rfl (lv_at hl 0 rfl) ?_
        refine fm_le (pc := 36) hx hb hF hi hS hown (hts _ (List.mem_cons_of_mem _ w_531)) dF_sort_36 ?_
        refine W.lcmp (pc := 39) hx hb dF_sort_39 ?_
        refine lv_if_ge (tgt := 47) (pc := 40) hx hb dF_sort_40 (by decide) (fun h4 => ?_) (fun h4 => ?_)
        · skip
          have h4 : (fLe i) ≤ (C_F_size i x1) := (lg_cmp_ge _ _).1 h4
          refine lv_iconst (v := 2) (pc := 47) hx hb dF_sort_47 (by decide) ?_
          exact hret _ _ _ (show 2 = C_F_sort i x1 from by rw [C_F_sort, if_pos h1, if_pos h2, if_pos h3, if_pos h4]) dF_sort_48
        · skip
          have h4 : ¬ ((fLe i) ≤ (C_F_size i x1)) := fun q => h4 ((lg_cmp_ge _ _).2 q)
          refine lv_iconst (v := 3) (pc := 43) hx hb dF_sort_43 (by decide) ?_
          refine lv_goto (tgt := 48) (pc := 44) hx hb dF_sort_44 (by decide) ?_
          exact hret _ _ _ (show 3 = C_F_sort i x1 from by rw [C_F_sort, if_pos h1, if_pos h2, if_pos h3, if_neg h4]) dF_sort_48
      · skip
        have h3 : ¬ ((C_F_isZero i x1) = false) := fun q => h3 ((bI_0 _).2 q)
        refine lv_iconst (v := 4) (pc := 28) hx hb dF_sort_28 (by decide) ?_
        exact hret _ _ _ (show 4 = C_F_sort i x1 from by rw [C_F_sort, if_pos h1, if_pos h2, if_neg h3]) dF_sort_29
    · skip
      have h2 : ¬ ((C_F_isEndless i x1) = false) := fun q => h2 ((bI_0 _).2 q)
      refine lv_iconst (v := 1) (pc := 18) hx hb dF_sort_18 (by decide) ?_
      exact hret _ _ _ (show 1 = C_F_sort i x1 from by rw [C_F_sort, if_pos h1, if_neg h2]) dF_sort_19
  · skip
    have h1 : ¬ ((C_F_isNone i x1) = false) := fun q => h1 ((bI_0 _).2 q)
    refine lv_iconst (v := 0) (pc := 8) hx hb dF_sort_8 (by decide) ?_
    exact hret _ _ _ (show 0 = C_F_sort i x1 from by rw [C_F_sort, if_neg h1]) dF_sort_9
def C_F_rank (i : Nat) (x1 : Int64) : Int64 :=
  if (C_F_isMinus i x1) = false then
    C_F_size i x1
  else
    -(C_F_size i x1)
abbrev rmF_rank : Room := { frames := 1, cells := 0, slots := 0, locals := 22 }
theorem cwF_rank {R : Room} {s : State} {args : Array Value} {w0 : Cond} {own : String} {idx : Nat} (hts : ∀ w ∈ (w0 :: bigW), w.before args s = true) (hl : Cond.methodLink own idx yF_rank ∈ bigW) (hR : rmF_rank.frames + 1 ≤ R.frames ∧ 8 + (3 + 11) + rmF_rank.locals ≤ R.locals) : CallW R s args own "FloatUnit$Format" idx yF_rank cF_rank 3 (some .long) (wsM yF_rank cF_rank 3 (some .long)) rmF_rank 0 0 1 :=
  cwV 1 hts (big_V hl w_287 w_288 w_8 w_289) rfl rfl rfl ⟨rfl, by decide, by decide, by decide +kernel⟩ hR
set_option maxRecDepth 100000 in
set_option maxHeartbeats 4000000 in
theorem c_F_rank (l : Launch) (ad : Nat → Nat) {i : Nat} (hi : i < 2) (x1 : Int64) : PuM l ad yF_rank (wsM yF_rank cF_rank 3 (some .long)) rmF_rank [.ref (ad i), .long x1] (.long (C_F_rank i x1)) := by
  refine pu_ofL (cc := cF_rank) (maxL := 3) (by decide) rfl (Nat.le_of_ble_eq_true rfl) ?_
  intro p e s m args below meth c Q hx hb hml hown hts hF hS hret ls hl
  have hl : lv_has ls 3 [(0, .ref (ad i)), (1, .long x1)] := hl
  refine lv_aload_n (pc := 0) hx hb dF_rank_0 rfl (lv_at hl 0 rfl) ?_
  refine lv_lload_n (pc := 1) hx hb dF_rank_1 rfl (lv_at hl 1 rfl) ?_
  refine pu_V (pc := 2) (i := i) (rest := []) ⟨hx, hb, hml, hown, hts⟩ hi (c_F_isMinus l ad hi x1) (cwF_isMinus hts w_290 ⟨by decide, by decide⟩) hF hS rfl hl.1 rfl (Nat.le_of_ble_eq_true rfl) dF_rank_2 ⟨Nat.zero_le _, Nat.zero_le _⟩ ?_
  refine lv_if_eq (tgt := 17) (pc := 5) hx hb dF_rank_5 (by decide) (fun h1 => ?_) (fun h1 => ?_)
  · skip
    have h1 : (C_F_isMinus i x1) = false := (bI_0 _).1 h1
    refine lv_aload_n (pc := 17) hx hb dF_rank_17 rfl (lv_at hl 0 rfl) ?_
    refine lv_lload_n (pc := 18) hx hb dF_rank_18 rfl (lv_at hl 1 rfl) ?_
    refine pu_V (pc := 19) (i := i) (rest := []) ⟨hx, hb, hml, hown, hts⟩ hi (c_F_size l ad hi x1) (cwF_size hts w_152 ⟨by decide, by decide⟩) hF hS rfl hl.1 rfl (Nat.le_of_ble_eq_true rfl) dF_rank_19 ⟨Nat.zero_le _, Nat.zero_le _⟩ ?_
    exact hret _ _ _ (show C_F_size i x1 = C_F_rank i x1 from by rw [C_F_rank, if_pos h1]) dF_rank_22
  · skip
    have h1 : ¬ ((C_F_isMinus i x1) = false) := fun q => h1 ((bI_0 _).2 q)
    refine lv_aload_n (pc := 8) hx hb dF_rank_8 rfl (lv_at hl 0 rfl) ?_
    refine lv_lload_n (pc := 9) hx hb dF_rank_9 rfl (lv_at hl 1 rfl) ?_
    refine pu_V (pc := 10) (i := i) (rest := []) ⟨hx, hb, hml, hown, hts⟩ hi (c_F_size l ad hi x1) (cwF_size hts w_152 ⟨by decide, by decide⟩) hF hS rfl hl.1 rfl (Nat.le_of_ble_eq_true rfl) dF_rank_10 ⟨Nat.zero_le _, Nat.zero_le _⟩ ?_
    refine lv_lneg (pc := 13) hx hb dF_rank_13 ?_
    refine lv_goto (tgt := 22) (pc := 14) hx hb dF_rank_14 (by decide) ?_
    exact hret _ _ _ (show -(C_F_size i x1) = C_F_rank i x1 from by rw [C_F_rank, if_neg h1]) dF_rank_22
def C_F_unitPower (i : Nat) (k1 : Int32) : Int32 :=
  (k1 - (fBi i)) - ((fPr i) - 1)
abbrev rmF_unitPower : Room := { frames := 0, cells := 0, slots := 0, locals := 0 }
theorem cwF_unitPower {R : Room} {s : State} {args : Array Value} {w0 : Cond} {own : String} {idx : Nat} (hts : ∀ w ∈ (w0 :: bigW), w.before args s = true) (hl : Cond.methodLink own idx yF_unitPower ∈ bigW) (hR : rmF_unitPower.frames + 1 ≤ R.frames ∧ 8 + (2 + 11) + rmF_unitPower.locals ≤ R.locals) : CallW R s args own "FloatUnit$Format" idx yF_unitPower cF_unitPower 2 (some .int) (wsM yF_unitPower cF_unitPower 2 (some .int)) rmF_unitPower 0 0 1 :=
  cwV 1 hts (big_V hl w_188 w_189 w_8 w_190) rfl rfl rfl ⟨rfl, by decide, by decide, by decide +kernel⟩ hR
set_option maxRecDepth 100000 in
set_option maxHeartbeats 4000000 in
theorem c_F_unitPower (l : Launch) (ad : Nat → Nat) {i : Nat} (hi : i < 2) (k1 : Int32) : PuM l ad yF_unitPower (wsM yF_unitPower cF_unitPower 2 (some .int)) rmF_unitPower [.ref (ad i), .int k1] (.int (C_F_unitPower i k1)) := by
  refine pu_ofI (cc := cF_unitPower) (maxL := 2) (by decide) rfl (Nat.le_of_ble_eq_true rfl) ?_
  intro p e s m args below meth c Q hx hb hml hown hts hF hS hret ls hl
  have hl : lv_has ls 2 [(0, .ref (ad i)), (1, .int k1)] := hl
  refine lv_iload_n (pc := 0) hx hb dF_unitPower_0 rfl (lv_at hl 1 rfl) ?_
  refine lv_aload_n (pc := 1) hx hb dF_unitPower_1 rfl (lv_at hl 0 rfl) ?_
  refine fm_bi (pc := 2) hx hb hF hi hS hown (hts _ (List.mem_cons_of_mem _ w_533)) dF_unitPower_2 ?_
  refine lv_isub (pc := 5) hx hb dF_unitPower_5 ?_
  refine lv_aload_n (pc := 6) hx hb dF_unitPower_6 rfl (lv_at hl 0 rfl) ?_
  refine fm_pr (pc := 7) hx hb hF hi hS hown (hts _ (List.mem_cons_of_mem _ w_532)) dF_unitPower_7 ?_
  refine lv_iconst (v := 1) (pc := 10) hx hb dF_unitPower_10 (by decide) ?_
  refine lv_isub (pc := 11) hx hb dF_unitPower_11 ?_
  refine lv_isub (pc := 12) hx hb dF_unitPower_12 ?_
  exact hret _ _ _ (show (k1 - (fBi i)) - ((fPr i) - 1) = C_F_unitPower i k1 from by rw [C_F_unitPower]) dF_unitPower_13
def C_F_plain (i : Nat) (x1 : Int64) : Int64 :=
  if (fLe i) ≤ (C_F_size i x1) then
    ((C_F_size i x1) &&& ((fLe i) - 1)) ||| (fLe i)
  else
    C_F_size i x1
abbrev rmF_plain : Room := { frames := 1, cells := 0, slots := 0, locals := 22 }
theorem cwF_plain {R : Room} {s : State} {args : Array Value} {w0 : Cond} {own : String} {idx : Nat} (hts : ∀ w ∈ (w0 :: bigW), w.before args s = true) (hl : Cond.methodLink own idx yF_plain ∈ bigW) (hR : rmF_plain.frames + 1 ≤ R.frames ∧ 8 + (5 + 11) + rmF_plain.locals ≤ R.locals) : CallW R s args own "FloatUnit$Format" idx yF_plain cF_plain 5 (some .long) (wsM yF_plain cF_plain 5 (some .long)) rmF_plain 0 0 1 :=
  cwV 1 hts (big_V hl w_193 sel_F_plain w_8 w_195) rfl rfl rfl ⟨rfl, by decide, by decide, by decide +kernel⟩ hR
set_option maxRecDepth 100000 in
set_option maxHeartbeats 4000000 in
theorem c_F_plain (l : Launch) (ad : Nat → Nat) {i : Nat} (hi : i < 2) (x1 : Int64) : PuM l ad yF_plain (wsM yF_plain cF_plain 5 (some .long)) rmF_plain [.ref (ad i), .long x1] (.long (C_F_plain i x1)) := by
  refine pu_ofL (cc := cF_plain) (maxL := 5) (by decide) rfl (Nat.le_of_ble_eq_true rfl) ?_
  intro p e s m args below meth c Q hx hb hml hown hts hF hS hret ls hl
  have hl : lv_has ls 5 [(0, .ref (ad i)), (1, .long x1)] := hl
  refine lv_aload_n (pc := 0) hx hb dF_plain_0 rfl (lv_at hl 0 rfl) ?_
  refine lv_lload_n (pc := 1) hx hb dF_plain_1 rfl (lv_at hl 1 rfl) ?_
  refine pu_V (pc := 2) (i := i) (rest := []) ⟨hx, hb, hml, hown, hts⟩ hi (c_F_size l ad hi x1) (cwF_size hts w_152 ⟨by decide, by decide⟩) hF hS rfl hl.1 rfl (Nat.le_of_ble_eq_true rfl) dF_plain_2 ⟨Nat.zero_le _, Nat.zero_le _⟩ ?_
  refine lv_lstore_n (lv' := [(3, .long (C_F_size i x1)), (0, .ref (ad i)), (1, .long x1)]) (pc := 5) hx hb dF_plain_5 rfl hl (by decide) rfl (fun ls hl => ?_)
  refine lv_lload_n (pc := 6) hx hb dF_plain_6 rfl (lv_at hl 0 rfl) ?_
  refine lv_aload_n (pc := 7) hx hb dF_plain_7 rfl (lv_at hl 1 rfl) ?_
  refine fm_le (pc := 8) hx hb hF hi hS hown (hts _ (List.mem_cons_of_mem _ w_531)) dF_plain_8 ?_
  refine W.lcmp (pc := 11) hx hb dF_plain_11 ?_
  refine lv_if_ge (tgt := 19) (pc := 12) hx hb dF_plain_12 (by decide) (fun h1 => ?_) (fun h1 => ?_)
  · skip
    have h1 : (fLe i) ≤ (C_F_size i x1) := (lg_cmp_ge _ _).1 h1
    refine lv_lload_n (pc := 19) hx hb dF_plain_19 rfl (lv_at hl 0 rfl) ?_
    refine lv_aload_n (pc := 20) hx hb dF_plain_20 rfl (lv_at hl 1 rfl) ?_
    refine fm_le (pc := 21) hx hb hF hi hS hown (hts _ (List.mem_cons_of_mem _ w_531)) dF_plain_21 ?_
    refine lv_lconst (v := 1) (pc := 24) hx hb dF_plain_24 (by decide) ?_
    refine lv_lsub (pc := 25) hx hb dF_plain_25 ?_
    refine lv_land (pc := 26) hx hb dF_plain_26 ?_
    refine lv_aload_n (pc := 27) hx hb dF_plain_27 rfl (lv_at hl 1 rfl) ?_
    refine fm_le (pc := 28) hx hb hF hi hS hown (hts _ (List.mem_cons_of_mem _ w_531)) dF_plain_28 ?_
    refine lv_lor (pc := 31) hx hb dF_plain_31 ?_
    exact hret _ _ _ (show ((C_F_size i x1) &&& ((fLe i) - 1)) ||| (fLe i) = C_F_plain i x1 from by rw [C_F_plain, if_pos h1]) dF_plain_32
  · skip
    have h1 : ¬ ((fLe i) ≤ (C_F_size i x1)) := fun q => h1 ((lg_cmp_ge _ _).2 q)
    refine lv_lload_n (pc := 15) hx hb dF_plain_15 rfl (lv_at hl 0 rfl) ?_
    refine lv_goto (tgt := 32) (pc := 16) hx hb dF_plain_16 (by decide) ?_
    exact hret _ _ _ (show C_F_size i x1 = C_F_plain i x1 from by rw [C_F_plain, if_neg h1]) dF_plain_32
def C_F_signed (i : Nat) (z1 : Bool) (x2 : Int64) : Int64 :=
  if z1 = false then
    x2
  else
    x2 ||| (fSg i)
abbrev rmF_signed : Room := { frames := 0, cells := 0, slots := 0, locals := 0 }
theorem cwF_signed {R : Room} {s : State} {args : Array Value} {w0 : Cond} {own : String} {idx : Nat} (hts : ∀ w ∈ (w0 :: bigW), w.before args s = true) (hl : Cond.methodLink own idx yF_signed ∈ bigW) (hR : rmF_signed.frames + 1 ≤ R.frames ∧ 8 + (4 + 11) + rmF_signed.locals ≤ R.locals) : CallW R s args own "FloatUnit$Format" idx yF_signed cF_signed 4 (some .long) (wsM yF_signed cF_signed 4 (some .long)) rmF_signed 0 0 2 :=
  cwV 2 hts (big_V hl w_218 w_219 w_8 w_220) rfl rfl rfl ⟨rfl, by decide, by decide, by decide +kernel⟩ hR
set_option maxRecDepth 100000 in
set_option maxHeartbeats 4000000 in
theorem c_F_signed (l : Launch) (ad : Nat → Nat) {i : Nat} (hi : i < 2) (z1 : Bool) (x2 : Int64) : PuM l ad yF_signed (wsM yF_signed cF_signed 4 (some .long)) rmF_signed [.ref (ad i), .int (bI z1), .long x2] (.long (C_F_signed i z1 x2)) := by
  refine pu_ofL (cc := cF_signed) (maxL := 4) (by decide) rfl (Nat.le_of_ble_eq_true rfl) ?_
  intro p e s m args below meth c Q hx hb hml hown hts hF hS hret ls hl
  have hl : lv_has ls 4 [(0, .ref (ad i)), (1, .int (bI z1)), (2, .long x2)] := hl
  refine lv_iload_n (pc := 0) hx hb dF_signed_0 rfl (lv_at hl 1 rfl) ?_
  refine lv_if_eq (tgt := 13) (pc := 1) hx hb dF_signed_1 (by decide) (fun h1 => ?_) (fun h1 => ?_)
  · skip
    have h1 : z1 = false := (bI_0 _).1 h1
    refine lv_lload_n (pc := 13) hx hb dF_signed_13 rfl (lv_at hl 2 rfl) ?_
    exact hret _ _ _ (show x2 = C_F_signed i z1 x2 from by rw [C_F_signed, if_pos h1]) dF_signed_14
  · skip
    have h1 : ¬ (z1 = false) := fun q => h1 ((bI_0 _).2 q)
    refine lv_lload_n (pc := 4) hx hb dF_signed_4 rfl (lv_at hl 2 rfl) ?_
    refine lv_aload_n (pc := 5) hx hb dF_signed_5 rfl (lv_at hl 0 rfl) ?_
    refine fm_sg (pc := 6) hx hb hF hi hS hown (hts _ (List.mem_cons_of_mem _ w_529)) dF_signed_6 ?_
    refine lv_lor (pc := 9) hx hb dF_signed_9 ?_
    refine lv_goto (tgt := 14) (pc := 10) hx hb dF_signed_10 (by decide) ?_
    exact hret _ _ _ (show x2 ||| (fSg i) = C_F_signed i z1 x2 from by rw [C_F_signed, if_neg h1]) dF_signed_14
def C_F_opposite (i : Nat) (x1 : Int64) : Int64 :=
  x1 ^^^ (fSg i)
abbrev rmF_opposite : Room := { frames := 0, cells := 0, slots := 0, locals := 0 }
theorem cwF_opposite {R : Room} {s : State} {args : Array Value} {w0 : Cond} {own : String} {idx : Nat} (hts : ∀ w ∈ (w0 :: bigW), w.before args s = true) (hl : Cond.methodLink own idx yF_opposite ∈ bigW) (hR : rmF_opposite.frames + 1 ≤ R.frames ∧ 8 + (3 + 11) + rmF_opposite.locals ≤ R.locals) : CallW R s args own "FloatUnit$Format" idx yF_opposite cF_opposite 3 (some .long) (wsM yF_opposite cF_opposite 3 (some .long)) rmF_opposite 0 0 1 :=
  cwV 1 hts (big_V hl w_245 w_246 w_8 w_247) rfl rfl rfl ⟨rfl, by decide, by decide, by decide +kernel⟩ hR
set_option maxRecDepth 100000 in
set_option maxHeartbeats 4000000 in
theorem c_F_opposite (l : Launch) (ad : Nat → Nat) {i : Nat} (hi : i < 2) (x1 : Int64) : PuM l ad yF_opposite (wsM yF_opposite cF_opposite 3 (some .long)) rmF_opposite [.ref (ad i), .long x1] (.long (C_F_opposite i x1)) := by
  refine pu_ofL (cc := cF_opposite) (maxL := 3) (by decide) rfl (Nat.le_of_ble_eq_true rfl) ?_
  intro p e s m args below meth c Q hx hb hml hown hts hF hS hret ls hl
  have hl : lv_has ls 3 [(0, .ref (ad i)), (1, .long x1)] := hl
  refine lv_lload_n (pc := 0) hx hb dF_opposite_0 rfl (lv_at hl 1 rfl) ?_
  refine lv_aload_n (pc := 1) hx hb dF_opposite_1 rfl (lv_at hl 0 rfl) ?_
  refine fm_sg (pc := 2) hx hb hF hi hS hown (hts _ (List.mem_cons_of_mem _ w_529)) dF_opposite_2 ?_
  refine lv_lxor (pc := 5) hx hb dF_opposite_5 ?_
  exact hret _ _ _ (show x1 ^^^ (fSg i) = C_F_opposite i x1 from by rw [C_F_opposite]) dF_opposite_6
def C_F_zero (i : Nat) (z1 : Bool) : Int64 :=
  C_F_signed i z1 0
abbrev rmF_zero : Room := { frames := 1, cells := 0, slots := 0, locals := 23 }
theorem cwF_zero {R : Room} {s : State} {args : Array Value} {w0 : Cond} {own : String} {idx : Nat} (hts : ∀ w ∈ (w0 :: bigW), w.before args s = true) (hl : Cond.methodLink own idx yF_zero ∈ bigW) (hR : rmF_zero.frames + 1 ≤ R.frames ∧ 8 + (2 + 11) + rmF_zero.locals ≤ R.locals) : CallW R s args own "FloatUnit$Format" idx yF_zero cF_zero 2 (some .long) (wsM yF_zero cF_zero 2 (some .long)) rmF_zero 0 0 1 :=
  cwV 1 hts (big_V hl w_214 w_215 w_8 w_216) rfl rfl rfl ⟨rfl, by decide, by decide, by decide +kernel⟩ hR
set_option maxRecDepth 100000 in
set_option maxHeartbeats 4000000 in
theorem c_F_zero (l : Launch) (ad : Nat → Nat) {i : Nat} (hi : i < 2) (z1 : Bool) : PuM l ad yF_zero (wsM yF_zero cF_zero 2 (some .long)) rmF_zero [.ref (ad i), .int (bI z1)] (.long (C_F_zero i z1)) := by
  refine pu_ofL (cc := cF_zero) (maxL := 2) (by decide) rfl (Nat.le_of_ble_eq_true rfl) ?_
  intro p e s m args below meth c Q hx hb hml hown hts hF hS hret ls hl
  have hl : lv_has ls 2 [(0, .ref (ad i)), (1, .int (bI z1))] := hl
  refine lv_aload_n (pc := 0) hx hb dF_zero_0 rfl (lv_at hl 0 rfl) ?_
  refine lv_iload_n (pc := 1) hx hb dF_zero_1 rfl (lv_at hl 1 rfl) ?_
  refine lv_lconst (v := 0) (pc := 2) hx hb dF_zero_2 (by decide) ?_
  refine pu_V (pc := 3) (i := i) (rest := []) ⟨hx, hb, hml, hown, hts⟩ hi (c_F_signed l ad hi z1 0) (cwF_signed hts w_217 ⟨by decide, by decide⟩) hF hS rfl hl.1 rfl (Nat.le_of_ble_eq_true rfl) dF_zero_3 ⟨Nat.zero_le _, Nat.zero_le _⟩ ?_
  exact hret _ _ _ (show C_F_signed i z1 0 = C_F_zero i z1 from by rw [C_F_zero]) dF_zero_6
def C_F_endless (i : Nat) (z1 : Bool) : Int64 :=
  C_F_signed i z1 (fEn i)
abbrev rmF_endless : Room := { frames := 1, cells := 0, slots := 0, locals := 23 }
theorem cwF_endless {R : Room} {s : State} {args : Array Value} {w0 : Cond} {own : String} {idx : Nat} (hts : ∀ w ∈ (w0 :: bigW), w.before args s = true) (hl : Cond.methodLink own idx yF_endless ∈ bigW) (hR : rmF_endless.frames + 1 ≤ R.frames ∧ 8 + (2 + 11) + rmF_endless.locals ≤ R.locals) : CallW R s args own "FloatUnit$Format" idx yF_endless cF_endless 2 (some .long) (wsM yF_endless cF_endless 2 (some .long)) rmF_endless 0 0 1 :=
  cwV 1 hts (big_V hl w_235 w_236 w_8 w_237) rfl rfl rfl ⟨rfl, by decide, by decide, by decide +kernel⟩ hR
set_option maxRecDepth 100000 in
set_option maxHeartbeats 4000000 in
theorem c_F_endless (l : Launch) (ad : Nat → Nat) {i : Nat} (hi : i < 2) (z1 : Bool) : PuM l ad yF_endless (wsM yF_endless cF_endless 2 (some .long)) rmF_endless [.ref (ad i), .int (bI z1)] (.long (C_F_endless i z1)) := by
  refine pu_ofL (cc := cF_endless) (maxL := 2) (by decide) rfl (Nat.le_of_ble_eq_true rfl) ?_
  intro p e s m args below meth c Q hx hb hml hown hts hF hS hret ls hl
  have hl : lv_has ls 2 [(0, .ref (ad i)), (1, .int (bI z1))] := hl
  refine lv_aload_n (pc := 0) hx hb dF_endless_0 rfl (lv_at hl 0 rfl) ?_
  refine lv_iload_n (pc := 1) hx hb dF_endless_1 rfl (lv_at hl 1 rfl) ?_
  refine lv_aload_n (pc := 2) hx hb dF_endless_2 rfl (lv_at hl 0 rfl) ?_
  refine fm_en (pc := 3) hx hb hF hi hS hown (hts _ (List.mem_cons_of_mem _ w_530)) dF_endless_3 ?_
  refine pu_V (pc := 6) (i := i) (rest := []) ⟨hx, hb, hml, hown, hts⟩ hi (c_F_signed l ad hi z1 (fEn i)) (cwF_signed hts w_217 ⟨by decide, by decide⟩) hF hS rfl hl.1 rfl (Nat.le_of_ble_eq_true rfl) dF_endless_6 ⟨Nat.zero_le _, Nat.zero_le _⟩ ?_
  exact hret _ _ _ (show C_F_signed i z1 (fEn i) = C_F_endless i z1 from by rw [C_F_endless]) dF_endless_9
def C_F_greatest (i : Nat) (z1 : Bool) : Int64 :=
  C_F_signed i z1 ((fEn i) - 1)
abbrev rmF_greatest : Room := { frames := 1, cells := 0, slots := 0, locals := 23 }
theorem cwF_greatest {R : Room} {s : State} {args : Array Value} {w0 : Cond} {own : String} {idx : Nat} (hts : ∀ w ∈ (w0 :: bigW), w.before args s = true) (hl : Cond.methodLink own idx yF_greatest ∈ bigW) (hR : rmF_greatest.frames + 1 ≤ R.frames ∧ 8 + (2 + 11) + rmF_greatest.locals ≤ R.locals) : CallW R s args own "FloatUnit$Format" idx yF_greatest cF_greatest 2 (some .long) (wsM yF_greatest cF_greatest 2 (some .long)) rmF_greatest 0 0 1 :=
  cwV 1 hts (big_V hl w_231 w_232 w_8 w_233) rfl rfl rfl ⟨rfl, by decide, by decide, by decide +kernel⟩ hR
set_option maxRecDepth 100000 in
set_option maxHeartbeats 4000000 in
theorem c_F_greatest (l : Launch) (ad : Nat → Nat) {i : Nat} (hi : i < 2) (z1 : Bool) : PuM l ad yF_greatest (wsM yF_greatest cF_greatest 2 (some .long)) rmF_greatest [.ref (ad i), .int (bI z1)] (.long (C_F_greatest i z1)) := by
  refine pu_ofL (cc := cF_greatest) (maxL := 2) (by decide) rfl (Nat.le_of_ble_eq_true rfl) ?_
  intro p e s m args below meth c Q hx hb hml hown hts hF hS hret ls hl
  have hl : lv_has ls 2 [(0, .ref (ad i)), (1, .int (bI z1))] := hl
  refine lv_aload_n (pc := 0) hx hb dF_greatest_0 rfl (lv_at hl 0 rfl) ?_
  refine lv_iload_n (pc := 1) hx hb dF_greatest_1 rfl (lv_at hl 1 rfl) ?_
  refine lv_aload_n (pc := 2) hx hb dF_greatest_2 rfl (lv_at hl 0 rfl) ?_
  refine fm_en (pc := 3) hx hb hF hi hS hown (hts _ (List.mem_cons_of_mem _ w_530)) dF_greatest_3 ?_
  refine lv_lconst (v := 1) (pc := 6) hx hb dF_greatest_6 (by decide) ?_
  refine lv_lsub (pc := 7) hx hb dF_greatest_7 ?_
  refine pu_V (pc := 8) (i := i) (rest := []) ⟨hx, hb, hml, hown, hts⟩ hi (c_F_signed l ad hi z1 ((fEn i) - 1)) (cwF_signed hts w_217 ⟨by decide, by decide⟩) hF hS rfl hl.1 rfl (Nat.le_of_ble_eq_true rfl) dF_greatest_8 ⟨Nat.zero_le _, Nat.zero_le _⟩ ?_
  exact hret _ _ _ (show C_F_signed i z1 ((fEn i) - 1) = C_F_greatest i z1 from by rw [C_F_greatest]) dF_greatest_11
def C_F_none (i : Nat) : Int64 :=
  (fEn i) ||| (jUshr (fLe i) 1)
abbrev rmF_none : Room := { frames := 0, cells := 0, slots := 0, locals := 0 }
theorem cwF_none {R : Room} {s : State} {args : Array Value} {w0 : Cond} {own : String} {idx : Nat} (hts : ∀ w ∈ (w0 :: bigW), w.before args s = true) (hl : Cond.methodLink own idx yF_none ∈ bigW) (hR : rmF_none.frames + 1 ≤ R.frames ∧ 8 + (1 + 11) + rmF_none.locals ≤ R.locals) : CallW R s args own "FloatUnit$Format" idx yF_none cF_none 1 (some .long) (wsM yF_none cF_none 1 (some .long)) rmF_none 0 0 0 :=
  cwV 0 hts (big_V hl w_157 w_158 w_8 w_159) rfl rfl rfl ⟨rfl, by decide, by decide, by decide +kernel⟩ hR
set_option maxRecDepth 100000 in
set_option maxHeartbeats 4000000 in
theorem c_F_none (l : Launch) (ad : Nat → Nat) {i : Nat} (hi : i < 2) : PuM l ad yF_none (wsM yF_none cF_none 1 (some .long)) rmF_none [.ref (ad i)] (.long (C_F_none i)) := by
  refine pu_ofL (cc := cF_none) (maxL := 1) (by decide) rfl (Nat.le_of_ble_eq_true rfl) ?_
  intro p e s m args below meth c Q hx hb hml hown hts hF hS hret ls hl
  have hl : lv_has ls 1 [(0, .ref (ad i))] := hl
  refine lv_aload_n (pc := 0) hx hb dF_none_0 rfl (lv_at hl 0 rfl) ?_
  refine fm_en (pc := 1) hx hb hF hi hS hown (hts _ (List.mem_cons_of_mem _ w_530)) dF_none_1 ?_
  refine lv_aload_n (pc := 4) hx hb dF_none_4 rfl (lv_at hl 0 rfl) ?_
  refine fm_le (pc := 5) hx hb hF hi hS hown (hts _ (List.mem_cons_of_mem _ w_531)) dF_none_5 ?_
  refine lv_iconst (v := 1) (pc := 8) hx hb dF_none_8 (by decide) ?_
  refine lv_lushr (v := jUshr (fLe i) 1) (pc := 9) hx hb dF_none_9 rfl ?_
  refine lv_lor (pc := 10) hx hb dF_none_10 ?_
  exact hret _ _ _ (show (fEn i) ||| (jUshr (fLe i) 1) = C_F_none i from by rw [C_F_none]) dF_none_11
end
section
/-! A pure method that answers a reference. -/
theorem pu_ofA {l : Launch} {ad : Nat → Nat} {y : MethodName} {ws ws' : List Cond} {rm : Room} {av : List Value} {r : Nat} {C : String} {cc : ByteArray} {maxL : Nat} (hy : plainName y.cls = true) (hw : ws = Cond.code y cc maxL (some (.object C)) :: ws') (hn : (lg_sl av).length ≤ maxL)
    (body : ∀ (p : Program) (e : Env) (s : State) (m : MethodId) (args : Array Value) (below : List Frame) (meth : Method) (c : Code) (Q : State → Prop), p.tables.exec = Jvm.exec → c.code = cc → c.maxLocals = maxL → s.vm.findClass y.cls = some m.cls → (∀ w ∈ ws, w.before args s = true) → FM ad nA s s.heap → va_S nA s.heap s.heap [] →
      (∀ (pc : Nat) (ls : Array Slot) (v : Nat), v = r → decode cc pc = .ok (.areturn, 1) → W p l e rm s m args below meth c s.heap [] 0 0 Q (F0 m pc ls [.ref v])) → ∀ ls : Array Slot, lv_has ls maxL (lv_args 0 av) → W p l e rm s m args below meth c s.heap [] 0 0 Q (F0 m 0 ls [])) :
    PuM l ad y ws rm av (.ref r) := by
  intro Hc
  refine Met.ofW (cc := cc) (maxL := maxL) (ret := some (.object C)) hy hw ?_
  intro p e s m args below meth c s₁ B hml hv
  obtain ⟨rfl, hh, hF⟩ := hv
  subst hh
  rw [lg_entry_eq]
  exact body p e s m _ below meth c _ B.exec B.bytes hml (findClass_of_methodNamed B.named) (atoms_spec B.pre) hF va_S.rf (fun pc ls v hv hd => by subst hv; exact W.aret B.exec B.bytes B.returns (Or.inl ⟨_, rfl⟩) (Or.inr ⟨_, rfl⟩) (fun t ht hW => ⟨rfl, ht⟩) (fun q hq => nomatch hq) hd B.notSynchronized) _ (lv_entry av hn)
end
section
/-! Pure methods of the class, and those of the format that rest on them (by program). -/
def C_U_freePlaces_5_0 (u0 : Int64) (u2 : Int32) : Int32 :=
  u2
def C_U_freePlaces_5_1 (u0 : Int64) (u2 : Int32) : Int32 :=
  if (jUshr (jShl u0 u2) 62) = 0 then
    C_U_freePlaces_5_0 u0 (u2 + 1)
  else
    C_U_freePlaces_5_0 u0 u2
def C_U_freePlaces_5_2 (u0 : Int64) (u2 : Int32) : Int32 :=
  if (jUshr (jShl u0 u2) 61) = 0 then
    C_U_freePlaces_5_1 u0 (u2 + 2)
  else
    C_U_freePlaces_5_1 u0 u2
def C_U_freePlaces_5_4 (u0 : Int64) (u2 : Int32) : Int32 :=
  if (jUshr (jShl u0 u2) 59) = 0 then
    C_U_freePlaces_5_2 u0 (u2 + 4)
  else
    C_U_freePlaces_5_2 u0 u2
def C_U_freePlaces_5_8 (u0 : Int64) (u2 : Int32) : Int32 :=
  if (jUshr (jShl u0 u2) 55) = 0 then
    C_U_freePlaces_5_4 u0 (u2 + 8)
  else
    C_U_freePlaces_5_4 u0 u2
def C_U_freePlaces_5_16 (u0 : Int64) (u2 : Int32) : Int32 :=
  if (jUshr (jShl u0 u2) 47) = 0 then
    C_U_freePlaces_5_8 u0 (u2 + 16)
  else
    C_U_freePlaces_5_8 u0 u2
def C_U_freePlaces_5_32 (u0 : Int64) (u2 : Int32) : Int32 :=
  if (jUshr (jShl u0 u2) 31) = 0 then
    C_U_freePlaces_5_16 u0 (u2 + 32)
  else
    C_U_freePlaces_5_16 u0 u2
def C_U_freePlaces (x1 : Int64) : Int32 :=
  C_U_freePlaces_5_32 x1 0
abbrev rmU_freePlaces : Room := { frames := 0, cells := 0, slots := 0, locals := 0 }
theorem cwU_freePlaces {R : Room} {s : State} {args : Array Value} {w0 : Cond} {idx : Nat} (hts : ∀ w ∈ (w0 :: bigW), w.before args s = true) (hl : Cond.methodLink "FloatUnit" idx yU_freePlaces ∈ bigW) (hR : rmU_freePlaces.frames + 1 ≤ R.frames ∧ 8 + (4 + 11) + rmU_freePlaces.locals ≤ R.locals) : CallB R s args "FloatUnit" idx yU_freePlaces cU_freePlaces 4 (some .int) (wsM yU_freePlaces cU_freePlaces 4 (some .int)) rmU_freePlaces 0 0 1 ∧ (Cond.static yU_freePlaces).before args s = true :=
  cwS 1 hts (big_S hl w_200 w_1 w_201) rfl rfl rfl ⟨rfl, by decide, by decide, by decide +kernel⟩ hR
set_option maxRecDepth 100000 in
set_option maxHeartbeats 4000000 in
theorem c_U_freePlaces (l : Launch) (ad : Nat → Nat) (x1 : Int64) : PuM l ad yU_freePlaces (wsM yU_freePlaces cU_freePlaces 4 (some .int)) rmU_freePlaces [.long x1] (.int (C_U_freePlaces x1)) := by
  refine pu_ofI (cc := cU_freePlaces) (maxL := 4) (by decide) rfl (Nat.le_of_ble_eq_true rfl) ?_
  intro p e s m args below meth c Q hx hb hml hown hts hF hS hret ls hl
  have hl : lv_has ls 4 [(0, .long x1)] := hl
  have J5_0 : ∀ (u0 : Int64) (u2 : Int32) (ls : Array Slot), lv_has ls 4 [(0, .long u0), (2, .int u2), (3, .int 0)] → C_U_freePlaces_5_0 u0 u2 = C_U_freePlaces x1 → W p l e rmU_freePlaces s m args below meth c s.heap [] 0 0 Q (F0 m 5 ls []) := by
    intro u0 u2 ls hl he
    refine lv_iload_n (pc := 5) hx hb dU_freePlaces_5 rfl (lv_at hl 2 rfl) ?_
    refine lv_if_le (tgt := 33) (pc := 6) hx hb dU_freePlaces_6 (by decide) (fun h701 => ?_) (fun h701 => ?_)
    · skip
      refine lv_iload_n (pc := 33) hx hb dU_freePlaces_33 rfl (lv_at hl 1 rfl) ?_
      exact hret _ _ _ ((show u2 = C_U_freePlaces_5_0 u0 u2 from by rw [C_U_freePlaces_5_0]).trans he) dU_freePlaces_34
    · exact absurd h701 (by decide)
  have J5_1 : ∀ (u0 : Int64) (u2 : Int32) (ls : Array Slot), lv_has ls 4 [(0, .long u0), (2, .int u2), (3, .int 1)] → C_U_freePlaces_5_1 u0 u2 = C_U_freePlaces x1 → W p l e rmU_freePlaces s m args below meth c s.heap [] 0 0 Q (F0 m 5 ls []) := by
    intro u0 u2 ls hl he
    refine lv_iload_n (pc := 5) hx hb dU_freePlaces_5 rfl (lv_at hl 2 rfl) ?_
    refine lv_if_le (tgt := 33) (pc := 6) hx hb dU_freePlaces_6 (by decide) (fun h601 => ?_) (fun h601 => ?_)
    · exact absurd h601 (by decide)
    · skip
      refine lv_lload_n (pc := 9) hx hb dU_freePlaces_9 rfl (lv_at hl 0 rfl) ?_
      refine lv_iload_n (pc := 10) hx hb dU_freePlaces_10 rfl (lv_at hl 1 rfl) ?_
      refine lv_lshl (v := jShl u0 u2) (pc := 11) hx hb dU_freePlaces_11 rfl ?_
      refine lv_bipush (v := 63) (pc := 12) hx hb dU_freePlaces_12 (by decide) ?_
      refine lv_iload_n (pc := 14) hx hb dU_freePlaces_14 rfl (lv_at hl 2 rfl) ?_
      refine lv_isub (pc := 15) hx hb dU_freePlaces_15 ?_
      refine lv_topi (fun v601 e601 => ?_)
      obtain rfl : v601 = 62 := e601.trans (by decide)
      refine lv_lushr (v := jUshr (jShl u0 u2) 62) (pc := 16) hx hb dU_freePlaces_16 rfl ?_
      refine lv_lconst (v := 0) (pc := 17) hx hb dU_freePlaces_17 (by decide) ?_
      refine W.lcmp (pc := 18) hx hb dU_freePlaces_18 ?_
      refine lv_if_ne (tgt := 26) (pc := 19) hx hb dU_freePlaces_19 (by decide) (fun h602 => ?_) (fun h602 => ?_)
      · skip
        have h602 : ¬ ((jUshr (jShl u0 u2) 62) = 0) := fun q => h602 ((lg_cmp_eq _ _).2 q)
        refine lv_iload_n (pc := 26) hx hb dU_freePlaces_26 rfl (lv_at hl 2 rfl) ?_
        refine lv_iconst (v := 2) (pc := 27) hx hb dU_freePlaces_27 (by decide) ?_
        refine lv_idiv (pc := 28) hx hb dU_freePlaces_28 (by decide) ?_
        refine lv_topi (fun v602 e602 => ?_)
        obtain rfl : v602 = 0 := e602.trans (by decide)
        refine lv_istore_n (lv' := [(3, .int 0), (0, .long u0), (2, .int u2)]) (pc := 29) hx hb dU_freePlaces_29 rfl hl (by decide) rfl (fun ls hl => ?_)
        refine lv_goto (tgt := 5) (pc := 30) hx hb dU_freePlaces_30 (by decide) ?_
        exact J5_0 u0 u2 ls (lv_sub hl [1, 2, 0] rfl) ((show C_U_freePlaces_5_0 u0 u2 = C_U_freePlaces_5_1 u0 u2 from by rw [C_U_freePlaces_5_1, if_neg h602]).trans he)
      · skip
        have h602 : (jUshr (jShl u0 u2) 62) = 0 := (lg_cmp_eq _ _).1 h602
        refine lv_iload_n (pc := 22) hx hb dU_freePlaces_22 rfl (lv_at hl 1 rfl) ?_
        refine lv_iload_n (pc := 23) hx hb dU_freePlaces_23 rfl (lv_at hl 2 rfl) ?_
        refine lv_iadd (pc := 24) hx hb dU_freePlaces_24 ?_
        refine lv_istore_n (lv' := [(2, .int (u2 + 1)), (0, .long u0), (3, .int 1)]) (pc := 25) hx hb dU_freePlaces_25 rfl hl (by decide) rfl (fun ls hl => ?_)
        refine lv_iload_n (pc := 26) hx hb dU_freePlaces_26 rfl (lv_at hl 2 rfl) ?_
        refine lv_iconst (v := 2) (pc := 27) hx hb dU_freePlaces_27 (by decide) ?_
        refine lv_idiv (pc := 28) hx hb dU_freePlaces_28 (by decide) ?_
        refine lv_topi (fun v603 e603 => ?_)
        obtain rfl : v603 = 0 := e603.trans (by decide)
        refine lv_istore_n (lv' := [(3, .int 0), (2, .int (u2 + 1)), (0, .long u0)]) (pc := 29) hx hb dU_freePlaces_29 rfl hl (by decide) rfl (fun ls hl => ?_)
        refine lv_goto (tgt := 5) (pc := 30) hx hb dU_freePlaces_30 (by decide) ?_
        exact J5_0 u0 (u2 + 1) ls (lv_sub hl [2, 1, 0] rfl) ((show C_U_freePlaces_5_0 u0 (u2 + 1) = C_U_freePlaces_5_1 u0 u2 from by rw [C_U_freePlaces_5_1, if_pos h602]).trans he)
  have J5_2 : ∀ (u0 : Int64) (u2 : Int32) (ls : Array Slot), lv_has ls 4 [(0, .long u0), (2, .int u2), (3, .int 2)] → C_U_freePlaces_5_2 u0 u2 = C_U_freePlaces x1 → W p l e rmU_freePlaces s m args below meth c s.heap [] 0 0 Q (F0 m 5 ls []) := by
    intro u0 u2 ls hl he
    refine lv_iload_n (pc := 5) hx hb dU_freePlaces_5 rfl (lv_at hl 2 rfl) ?_
    refine lv_if_le (tgt := 33) (pc := 6) hx hb dU_freePlaces_6 (by decide) (fun h501 => ?_) (fun h501 => ?_)
    · exact absurd h501 (by decide)
    · skip
      refine lv_lload_n (pc := 9) hx hb dU_freePlaces_9 rfl (lv_at hl 0 rfl) ?_
      refine lv_iload_n (pc := 10) hx hb dU_freePlaces_10 rfl (lv_at hl 1 rfl) ?_
      refine lv_lshl (v := jShl u0 u2) (pc := 11) hx hb dU_freePlaces_11 rfl ?_
      refine lv_bipush (v := 63) (pc := 12) hx hb dU_freePlaces_12 (by decide) ?_
      refine lv_iload_n (pc := 14) hx hb dU_freePlaces_14 rfl (lv_at hl 2 rfl) ?_
      refine lv_isub (pc := 15) hx hb dU_freePlaces_15 ?_
      refine lv_topi (fun v501 e501 => ?_)
      obtain rfl : v501 = 61 := e501.trans (by decide)
      refine lv_lushr (v := jUshr (jShl u0 u2) 61) (pc := 16) hx hb dU_freePlaces_16 rfl ?_
      refine lv_lconst (v := 0) (pc := 17) hx hb dU_freePlaces_17 (by decide) ?_
      refine W.lcmp (pc := 18) hx hb dU_freePlaces_18 ?_
      refine lv_if_ne (tgt := 26) (pc := 19) hx hb dU_freePlaces_19 (by decide) (fun h502 => ?_) (fun h502 => ?_)
      · skip
        have h502 : ¬ ((jUshr (jShl u0 u2) 61) = 0) := fun q => h502 ((lg_cmp_eq _ _).2 q)
        refine lv_iload_n (pc := 26) hx hb dU_freePlaces_26 rfl (lv_at hl 2 rfl) ?_
        refine lv_iconst (v := 2) (pc := 27) hx hb dU_freePlaces_27 (by decide) ?_
        refine lv_idiv (pc := 28) hx hb dU_freePlaces_28 (by decide) ?_
        refine lv_topi (fun v502 e502 => ?_)
        obtain rfl : v502 = 1 := e502.trans (by decide)
        refine lv_istore_n (lv' := [(3, .int 1), (0, .long u0), (2, .int u2)]) (pc := 29) hx hb dU_freePlaces_29 rfl hl (by decide) rfl (fun ls hl => ?_)
        refine lv_goto (tgt := 5) (pc := 30) hx hb dU_freePlaces_30 (by decide) ?_
        exact J5_1 u0 u2 ls (lv_sub hl [1, 2, 0] rfl) ((show C_U_freePlaces_5_1 u0 u2 = C_U_freePlaces_5_2 u0 u2 from by rw [C_U_freePlaces_5_2, if_neg h502]).trans he)
      · skip
        have h502 : (jUshr (jShl u0 u2) 61) = 0 := (lg_cmp_eq _ _).1 h502
        refine lv_iload_n (pc := 22) hx hb dU_freePlaces_22 rfl (lv_at hl 1 rfl) ?_
        refine lv_iload_n (pc := 23) hx hb dU_freePlaces_23 rfl (lv_at hl 2 rfl) ?_
        refine lv_iadd (pc := 24) hx hb dU_freePlaces_24 ?_
        refine lv_istore_n (lv' := [(2, .int (u2 + 2)), (0, .long u0), (3, .int 2)]) (pc := 25) hx hb dU_freePlaces_25 rfl hl (by decide) rfl (fun ls hl => ?_)
        refine lv_iload_n (pc := 26) hx hb dU_freePlaces_26 rfl (lv_at hl 2 rfl) ?_
        refine lv_iconst (v := 2) (pc := 27) hx hb dU_freePlaces_27 (by decide) ?_
        refine lv_idiv (pc := 28) hx hb dU_freePlaces_28 (by decide) ?_
        refine lv_topi (fun v503 e503 => ?_)
        obtain rfl : v503 = 1 := e503.trans (by decide)
        refine lv_istore_n (lv' := [(3, .int 1), (2, .int (u2 + 2)), (0, .long u0)]) (pc := 29) hx hb dU_freePlaces_29 rfl hl (by decide) rfl (fun ls hl => ?_)
        refine lv_goto (tgt := 5) (pc := 30) hx hb dU_freePlaces_30 (by decide) ?_
        exact J5_1 u0 (u2 + 2) ls (lv_sub hl [2, 1, 0] rfl) ((show C_U_freePlaces_5_1 u0 (u2 + 2) = C_U_freePlaces_5_2 u0 u2 from by rw [C_U_freePlaces_5_2, if_pos h502]).trans he)
  have J5_4 : ∀ (u0 : Int64) (u2 : Int32) (ls : Array Slot), lv_has ls 4 [(0, .long u0), (2, .int u2), (3, .int 4)] → C_U_freePlaces_5_4 u0 u2 = C_U_freePlaces x1 → W p l e rmU_freePlaces s m args below meth c s.heap [] 0 0 Q (F0 m 5 ls []) := by
    intro u0 u2 ls hl he
    refine lv_iload_n (pc := 5) hx hb dU_freePlaces_5 rfl (lv_at hl 2 rfl) ?_
    refine lv_if_le (tgt := 33) (pc := 6) hx hb dU_freePlaces_6 (by decide) (fun h401 => ?_) (fun h401 => ?_)
    · exact absurd h401 (by decide)
    · skip
      refine lv_lload_n (pc := 9) hx hb dU_freePlaces_9 rfl (lv_at hl 0 rfl) ?_
      refine lv_iload_n (pc := 10) hx hb dU_freePlaces_10 rfl (lv_at hl 1 rfl) ?_
      refine lv_lshl (v := jShl u0 u2) (pc := 11) hx hb dU_freePlaces_11 rfl ?_
      refine lv_bipush (v := 63) (pc := 12) hx hb dU_freePlaces_12 (by decide) ?_
      refine lv_iload_n (pc := 14) hx hb dU_freePlaces_14 rfl (lv_at hl 2 rfl) ?_
      refine lv_isub (pc := 15) hx hb dU_freePlaces_15 ?_
      refine lv_topi (fun v401 e401 => ?_)
      obtain rfl : v401 = 59 := e401.trans (by decide)
      refine lv_lushr (v := jUshr (jShl u0 u2) 59) (pc := 16) hx hb dU_freePlaces_16 rfl ?_
      refine lv_lconst (v := 0) (pc := 17) hx hb dU_freePlaces_17 (by decide) ?_
      refine W.lcmp (pc := 18) hx hb dU_freePlaces_18 ?_
      refine lv_if_ne (tgt := 26) (pc := 19) hx hb dU_freePlaces_19 (by decide) (fun h402 => ?_) (fun h402 => ?_)
      · skip
        have h402 : ¬ ((jUshr (jShl u0 u2) 59) = 0) := fun q => h402 ((lg_cmp_eq _ _).2 q)
        refine lv_iload_n (pc := 26) hx hb dU_freePlaces_26 rfl (lv_at hl 2 rfl) ?_
        refine lv_iconst (v := 2) (pc := 27) hx hb dU_freePlaces_27 (by decide) ?_
        refine lv_idiv (pc := 28) hx hb dU_freePlaces_28 (by decide) ?_
        refine lv_topi (fun v402 e402 => ?_)
        obtain rfl : v402 = 2 := e402.trans (by decide)
        refine lv_istore_n (lv' := [(3, .int 2), (0, .long u0), (2, .int u2)]) (pc := 29) hx hb dU_freePlaces_29 rfl hl (by decide) rfl (fun ls hl => ?_)
        refine lv_goto (tgt := 5) (pc := 30) hx hb dU_freePlaces_30 (by decide) ?_
        exact J5_2 u0 u2 ls (lv_sub hl [1, 2, 0] rfl) ((show C_U_freePlaces_5_2 u0 u2 = C_U_freePlaces_5_4 u0 u2 from by rw [C_U_freePlaces_5_4, if_neg h402]).trans he)
      · skip
        have h402 : (jUshr (jShl u0 u2) 59) = 0 := (lg_cmp_eq _ _).1 h402
        refine lv_iload_n (pc := 22) hx hb dU_freePlaces_22 rfl (lv_at hl 1 rfl) ?_
        refine lv_iload_n (pc := 23) hx hb dU_freePlaces_23 rfl (lv_at hl 2 rfl) ?_
        refine lv_iadd (pc := 24) hx hb dU_freePlaces_24 ?_
        refine lv_istore_n (lv' := [(2, .int (u2 + 4)), (0, .long u0), (3, .int 4)]) (pc := 25) hx hb dU_freePlaces_25 rfl hl (by decide) rfl (fun ls hl => ?_)
        refine lv_iload_n (pc := 26) hx hb dU_freePlaces_26 rfl (lv_at hl 2 rfl) ?_
        refine lv_iconst (v := 2) (pc := 27) hx hb dU_freePlaces_27 (by decide) ?_
        refine lv_idiv (pc := 28) hx hb dU_freePlaces_28 (by decide) ?_
        refine lv_topi (fun v403 e403 => ?_)
        obtain rfl : v403 = 2 := e403.trans (by decide)
        refine lv_istore_n (lv' := [(3, .int 2), (2, .int (u2 + 4)), (0, .long u0)]) (pc := 29) hx hb dU_freePlaces_29 rfl hl (by decide) rfl (fun ls hl => ?_)
        refine lv_goto (tgt := 5) (pc := 30) hx hb dU_freePlaces_30 (by decide) ?_
        exact J5_2 u0 (u2 + 4) ls (lv_sub hl [2, 1, 0] rfl) ((show C_U_freePlaces_5_2 u0 (u2 + 4) = C_U_freePlaces_5_4 u0 u2 from by rw [C_U_freePlaces_5_4, if_pos h402]).trans he)
  have J5_8 : ∀ (u0 : Int64) (u2 : Int32) (ls : Array Slot), lv_has ls 4 [(0, .long u0), (2, .int u2), (3, .int 8)] → C_U_freePlaces_5_8 u0 u2 = C_U_freePlaces x1 → W p l e rmU_freePlaces s m args below meth c s.heap [] 0 0 Q (F0 m 5 ls []) := by
    intro u0 u2 ls hl he
    refine lv_iload_n (pc := 5) hx hb dU_freePlaces_5 rfl (lv_at hl 2 rfl) ?_
    refine lv_if_le (tgt := 33) (pc := 6) hx hb dU_freePlaces_6 (by decide) (fun h301 => ?_) (fun h301 => ?_)
    · exact absurd h301 (by decide)
    · skip
      refine lv_lload_n (pc := 9) hx hb dU_freePlaces_9 rfl (lv_at hl 0 rfl) ?_
      refine lv_iload_n (pc := 10) hx hb dU_freePlaces_10 rfl (lv_at hl 1 rfl) ?_
      refine lv_lshl (v := jShl u0 u2) (pc := 11) hx hb dU_freePlaces_11 rfl ?_
      refine lv_bipush (v := 63) (pc := 12) hx hb dU_freePlaces_12 (by decide) ?_
      refine lv_iload_n (pc := 14) hx hb dU_freePlaces_14 rfl (lv_at hl 2 rfl) ?_
      refine lv_isub (pc := 15) hx hb dU_freePlaces_15 ?_
      refine lv_topi (fun v301 e301 => ?_)
      obtain rfl : v301 = 55 := e301.trans (by decide)
      refine lv_lushr (v := jUshr (jShl u0 u2) 55) (pc := 16) hx hb dU_freePlaces_16 rfl ?_
      refine lv_lconst (v := 0) (pc := 17) hx hb dU_freePlaces_17 (by decide) ?_
      refine W.lcmp (pc := 18) hx hb dU_freePlaces_18 ?_
      refine lv_if_ne (tgt := 26) (pc := 19) hx hb dU_freePlaces_19 (by decide) (fun h302 => ?_) (fun h302 => ?_)
      · skip
        have h302 : ¬ ((jUshr (jShl u0 u2) 55) = 0) := fun q => h302 ((lg_cmp_eq _ _).2 q)
        refine lv_iload_n (pc := 26) hx hb dU_freePlaces_26 rfl (lv_at hl 2 rfl) ?_
        refine lv_iconst (v := 2) (pc := 27) hx hb dU_freePlaces_27 (by decide) ?_
        refine lv_idiv (pc := 28) hx hb dU_freePlaces_28 (by decide) ?_
        refine lv_topi (fun v302 e302 => ?_)
        obtain rfl : v302 = 4 := e302.trans (by decide)
        refine lv_istore_n (lv' := [(3, .int 4), (0, .long u0), (2, .int u2)]) (pc := 29) hx hb dU_freePlaces_29 rfl hl (by decide) rfl (fun ls hl => ?_)
        refine lv_goto (tgt := 5) (pc := 30) hx hb dU_freePlaces_30 (by decide) ?_
        exact J5_4 u0 u2 ls (lv_sub hl [1, 2, 0] rfl) ((show C_U_freePlaces_5_4 u0 u2 = C_U_freePlaces_5_8 u0 u2 from by rw [C_U_freePlaces_5_8, if_neg h302]).trans he)
      · skip
        have h302 : (jUshr (jShl u0 u2) 55) = 0 := (lg_cmp_eq _ _).1 h302
        refine lv_iload_n (pc := 22) hx hb dU_freePlaces_22 rfl (lv_at hl 1 rfl) ?_
        refine lv_iload_n (pc := 23) hx hb dU_freePlaces_23 rfl (lv_at hl 2 rfl) ?_
        refine lv_iadd (pc := 24) hx hb dU_freePlaces_24 ?_
        refine lv_istore_n (lv' := [(2, .int (u2 + 8)), (0, .long u0), (3, .int 8)]) (pc := 25) hx hb dU_freePlaces_25 rfl hl (by decide) rfl (fun ls hl => ?_)
        refine lv_iload_n (pc := 26) hx hb dU_freePlaces_26 rfl (lv_at hl 2 rfl) ?_
        refine lv_iconst (v := 2) (pc := 27) hx hb dU_freePlaces_27 (by decide) ?_
        refine lv_idiv (pc := 28) hx hb dU_freePlaces_28 (by decide) ?_
        refine lv_topi (fun v303 e303 => ?_)
        obtain rfl : v303 = 4 := e303.trans (by decide)
        refine lv_istore_n (lv' := [(3, .int 4), (2, .int (u2 + 8)), (0, .long u0)]) (pc := 29) hx hb dU_freePlaces_29 rfl hl (by decide) rfl (fun ls hl => ?_)
        refine lv_goto (tgt := 5) (pc := 30) hx hb dU_freePlaces_30 (by decide) ?_
        exact J5_4 u0 (u2 + 8) ls (lv_sub hl [2, 1, 0] rfl) ((show C_U_freePlaces_5_4 u0 (u2 + 8) = C_U_freePlaces_5_8 u0 u2 from by rw [C_U_freePlaces_5_8, if_pos h302]).trans he)
  have J5_16 : ∀ (u0 : Int64) (u2 : Int32) (ls : Array Slot), lv_has ls 4 [(0, .long u0), (2, .int u2), (3, .int 16)] → C_U_freePlaces_5_16 u0 u2 = C_U_freePlaces x1 → W p l e rmU_freePlaces s m args below meth c s.heap [] 0 0 Q (F0 m 5 ls []) := by
    intro u0 u2 ls hl he
    refine lv_iload_n (pc := 5) hx hb dU_freePlaces_5 rfl (lv_at hl 2 rfl) ?_
    refine lv_if_le (tgt := 33) (pc := 6) hx hb dU_freePlaces_6 (by decide) (fun h201 => ?_) (fun h201 => ?_)
    · exact absurd h201 (by decide)
    · skip
      refine lv_lload_n (pc := 9) hx hb dU_freePlaces_9 rfl (lv_at hl 0 rfl) ?_
      refine lv_iload_n (pc := 10) hx hb dU_freePlaces_10 rfl (lv_at hl 1 rfl) ?_
      refine lv_lshl (v := jShl u0 u2) (pc := 11) hx hb dU_freePlaces_11 rfl ?_
      refine lv_bipush (v := 63) (pc := 12) hx hb dU_freePlaces_12 (by decide) ?_
      refine lv_iload_n (pc := 14) hx hb dU_freePlaces_14 rfl (lv_at hl 2 rfl) ?_
      refine lv_isub (pc := 15) hx hb dU_freePlaces_15 ?_
      refine lv_topi (fun v201 e201 => ?_)
      obtain rfl : v201 = 47 := e201.trans (by decide)
      refine lv_lushr (v := jUshr (jShl u0 u2) 47) (pc := 16) hx hb dU_freePlaces_16 rfl ?_
      refine lv_lconst (v := 0) (pc := 17) hx hb dU_freePlaces_17 (by decide) ?_
      refine W.lcmp (pc := 18) hx hb dU_freePlaces_18 ?_
      refine lv_if_ne (tgt := 26) (pc := 19) hx hb dU_freePlaces_19 (by decide) (fun h202 => ?_) (fun h202 => ?_)
      · skip
        have h202 : ¬ ((jUshr (jShl u0 u2) 47) = 0) := fun q => h202 ((lg_cmp_eq _ _).2 q)
        refine lv_iload_n (pc := 26) hx hb dU_freePlaces_26 rfl (lv_at hl 2 rfl) ?_
        refine lv_iconst (v := 2) (pc := 27) hx hb dU_freePlaces_27 (by decide) ?_
        refine lv_idiv (pc := 28) hx hb dU_freePlaces_28 (by decide) ?_
        refine lv_topi (fun v202 e202 => ?_)
        obtain rfl : v202 = 8 := e202.trans (by decide)
        refine lv_istore_n (lv' := [(3, .int 8), (0, .long u0), (2, .int u2)]) (pc := 29) hx hb dU_freePlaces_29 rfl hl (by decide) rfl (fun ls hl => ?_)
        refine lv_goto (tgt := 5) (pc := 30) hx hb dU_freePlaces_30 (by decide) ?_
        exact J5_8 u0 u2 ls (lv_sub hl [1, 2, 0] rfl) ((show C_U_freePlaces_5_8 u0 u2 = C_U_freePlaces_5_16 u0 u2 from by rw [C_U_freePlaces_5_16, if_neg h202]).trans he)
      · skip
        have h202 : (jUshr (jShl u0 u2) 47) = 0 := (lg_cmp_eq _ _).1 h202
        refine lv_iload_n (pc := 22) hx hb dU_freePlaces_22 rfl (lv_at hl 1 rfl) ?_
        refine lv_iload_n (pc := 23) hx hb dU_freePlaces_23 rfl (lv_at hl 2 rfl) ?_
        refine lv_iadd (pc := 24) hx hb dU_freePlaces_24 ?_
        refine lv_istore_n (lv' := [(2, .int (u2 + 16)), (0, .long u0), (3, .int 16)]) (pc := 25) hx hb dU_freePlaces_25 rfl hl (by decide) rfl (fun ls hl => ?_)
        refine lv_iload_n (pc := 26) hx hb dU_freePlaces_26 rfl (lv_at hl 2 rfl) ?_
        refine lv_iconst (v := 2) (pc := 27) hx hb dU_freePlaces_27 (by decide) ?_
        refine lv_idiv (pc := 28) hx hb dU_freePlaces_28 (by decide) ?_
        refine lv_topi (fun v203 e203 => ?_)
        obtain rfl : v203 = 8 := e203.trans (by decide)
        refine lv_istore_n (lv' := [(3, .int 8), (2, .int (u2 + 16)), (0, .long u0)]) (pc := 29) hx hb dU_freePlaces_29 rfl hl (by decide) rfl (fun ls hl => ?_)
        refine lv_goto (tgt := 5) (pc := 30) hx hb dU_freePlaces_30 (by decide) ?_
        exact J5_8 u0 (u2 + 16) ls (lv_sub hl [2, 1, 0] rfl) ((show C_U_freePlaces_5_8 u0 (u2 + 16) = C_U_freePlaces_5_16 u0 u2 from by rw [C_U_freePlaces_5_16, if_pos h202]).trans he)
  have J5_32 : ∀ (u0 : Int64) (u2 : Int32) (ls : Array Slot), lv_has ls 4 [(0, .long u0), (2, .int u2), (3, .int 32)] → C_U_freePlaces_5_32 u0 u2 = C_U_freePlaces x1 → W p l e rmU_freePlaces s m args below meth c s.heap [] 0 0 Q (F0 m 5 ls []) := by
    intro u0 u2 ls hl he
    refine lv_iload_n (pc := 5) hx hb dU_freePlaces_5 rfl (lv_at hl 2 rfl) ?_
    refine lv_if_le (tgt := 33) (pc := 6) hx hb dU_freePlaces_6 (by decide) (fun h101 => ?_) (fun h101 => ?_)
    · exact absurd h101 (by decide)
    · skip
      refine lv_lload_n (pc := 9) hx hb dU_freePlaces_9 rfl (lv_at hl 0 rfl) ?_
      refine lv_iload_n (pc := 10) hx hb dU_freePlaces_10 rfl (lv_at hl 1 rfl) ?_
      refine lv_lshl (v := jShl u0 u2) (pc := 11) hx hb dU_freePlaces_11 rfl ?_
      refine lv_bipush (v := 63) (pc := 12) hx hb dU_freePlaces_12 (by decide) ?_
      refine lv_iload_n (pc := 14) hx hb dU_freePlaces_14 rfl (lv_at hl 2 rfl) ?_
      refine lv_isub (pc := 15) hx hb dU_freePlaces_15 ?_
      refine lv_topi (fun v101 e101 => ?_)
      obtain rfl : v101 = 31 := e101.trans (by decide)
      refine lv_lushr (v := jUshr (jShl u0 u2) 31) (pc := 16) hx hb dU_freePlaces_16 rfl ?_
      refine lv_lconst (v := 0) (pc := 17) hx hb dU_freePlaces_17 (by decide) ?_
      refine W.lcmp (pc := 18) hx hb dU_freePlaces_18 ?_
      refine lv_if_ne (tgt := 26) (pc := 19) hx hb dU_freePlaces_19 (by decide) (fun h102 => ?_) (fun h102 => ?_)
      · skip
        have h102 : ¬ ((jUshr (jShl u0 u2) 31) = 0) := fun q => h102 ((lg_cmp_eq _ _).2 q)
        refine lv_iload_n (pc := 26) hx hb dU_freePlaces_26 rfl (lv_at hl 2 rfl) ?_
        refine lv_iconst (v := 2) (pc := 27) hx hb dU_freePlaces_27 (by decide) ?_
        refine lv_idiv (pc := 28) hx hb dU_freePlaces_28 (by decide) ?_
        refine lv_topi (fun v102 e102 => ?_)
        obtain rfl : v102 = 16 := e102.trans (by decide)
        refine lv_istore_n (lv' := [(3, .int 16), (0, .long u0), (2, .int u2)]) (pc := 29) hx hb dU_freePlaces_29 rfl hl (by decide) rfl (fun ls hl => ?_)
        refine lv_goto (tgt := 5) (pc := 30) hx hb dU_freePlaces_30 (by decide) ?_
        exact J5_16 u0 u2 ls (lv_sub hl [1, 2, 0] rfl) ((show C_U_freePlaces_5_16 u0 u2 = C_U_freePlaces_5_32 u0 u2 from by rw [C_U_freePlaces_5_32, if_neg h102]).trans he)
      · skip
        have h102 : (jUshr (jShl u0 u2) 31) = 0 := (lg_cmp_eq _ _).1 h102
        refine lv_iload_n (pc := 22) hx hb dU_freePlaces_22 rfl (lv_at hl 1 rfl) ?_
        refine lv_iload_n (pc := 23) hx hb dU_freePlaces_23 rfl (lv_at hl 2 rfl) ?_
        refine lv_iadd (pc := 24) hx hb dU_freePlaces_24 ?_
        refine lv_istore_n (lv' := [(2, .int (u2 + 32)), (0, .long u0), (3, .int 32)]) (pc := 25) hx hb dU_freePlaces_25 rfl hl (by decide) rfl (fun ls hl => ?_)
        refine lv_iload_n (pc := 26) hx hb dU_freePlaces_26 rfl (lv_at hl 2 rfl) ?_
        refine lv_iconst (v := 2) (pc := 27) hx hb dU_freePlaces_27 (by decide) ?_
        refine lv_idiv (pc := 28) hx hb dU_freePlaces_28 (by decide) ?_
        refine lv_topi (fun v103 e103 => ?_)
        obtain rfl : v103 = 16 := e103.trans (by decide)
        refine lv_istore_n (lv' := [(3, .int 16), (2, .int (u2 + 32)), (0, .long u0)]) (pc := 29) hx hb dU_freePlaces_29 rfl hl (by decide) rfl (fun ls hl => ?_)
        refine lv_goto (tgt := 5) (pc := 30) hx hb dU_freePlaces_30 (by decide) ?_
        exact J5_16 u0 (u2 + 32) ls (lv_sub hl [2, 1, 0] rfl) ((show C_U_freePlaces_5_16 u0 (u2 + 32) = C_U_freePlaces_5_32 u0 u2 from by rw [C_U_freePlaces_5_32, if_pos h102]).trans he)
  refine lv_iconst (v := 0) (pc := 0) hx hb dU_freePlaces_0 (by decide) ?_
  refine lv_istore_n (lv' := [(2, .int 0), (0, .long x1)]) (pc := 1) hx hb dU_freePlaces_1 rfl hl (by decide) rfl (fun ls hl => ?_)
  refine lv_bipush (v := 32) (pc := 2) hx hb dU_freePlaces_2 (by decide) ?_
  refine lv_istore_n (lv' := [(3, .int 32), (2, .int 0), (0, .long x1)]) (pc := 4) hx hb dU_freePlaces_4 rfl hl (by decide) rfl (fun ls hl => ?_)
  exact J5_32 x1 0 ls (lv_sub hl [2, 1, 0] rfl) (show C_U_freePlaces_5_32 x1 0 = C_U_freePlaces x1 from by rw [C_U_freePlaces])
def C_U_pressed (x1 : Int64) (k2 : Int32) : Int64 :=
  if k2 ≤ 62 then
    if (jShl (jUshr x1 k2) k2) = x1 then
      jUshr x1 k2
    else
      (jUshr x1 k2) ||| 1
  else
    if x1 = 0 then
      0
    else
      1
abbrev rmU_pressed : Room := { frames := 0, cells := 0, slots := 0, locals := 0 }
theorem cwU_pressed {R : Room} {s : State} {args : Array Value} {w0 : Cond} {idx : Nat} (hts : ∀ w ∈ (w0 :: bigW), w.before args s = true) (hl : Cond.methodLink "FloatUnit" idx yU_pressed ∈ bigW) (hR : rmU_pressed.frames + 1 ≤ R.frames ∧ 8 + (5 + 11) + rmU_pressed.locals ≤ R.locals) : CallB R s args "FloatUnit" idx yU_pressed cU_pressed 5 (some .long) (wsM yU_pressed cU_pressed 5 (some .long)) rmU_pressed 0 0 2 ∧ (Cond.static yU_pressed).before args s = true :=
  cwS 2 hts (big_S hl w_211 w_1 w_212) rfl rfl rfl ⟨rfl, by decide, by decide, by decide +kernel⟩ hR
set_option maxRecDepth 100000 in
set_option maxHeartbeats 4000000 in
theorem c_U_pressed (l : Launch) (ad : Nat → Nat) (x1 : Int64) (k2 : Int32) : PuM l ad yU_pressed (wsM yU_pressed cU_pressed 5 (some .long)) rmU_pressed [.long x1, .int k2] (.long (C_U_pressed x1 k2)) := by
  refine pu_ofL (cc := cU_pressed) (maxL := 5) (by decide) rfl (Nat.le_of_ble_eq_true rfl) ?_
  intro p e s m args below meth c Q hx hb hml hown hts hF hS hret ls hl
  have hl : lv_has ls 5 [(0, .long x1), (2, .int k2)] := hl
  refine lv_iload_n (pc := 0) hx hb dU_pressed_0 rfl (lv_at hl 1 rfl) ?_
  refine lv_bipush (v := 62) (pc := 1) hx hb dU_pressed_1 (by decide) ?_
  refine lv_icmp_le (tgt := 18) (pc := 3) hx hb dU_pressed_3 (by decide) (fun h1 => ?_) (fun h1 => ?_)
  · skip
    refine lv_lload_n (pc := 18) hx hb dU_pressed_18 rfl (lv_at hl 0 rfl) ?_
    refine lv_iload_n (pc := 19) hx hb dU_pressed_19 rfl (lv_at hl 1 rfl) ?_
    refine lv_lushr (v := jUshr x1 k2) (pc := 20) hx hb dU_pressed_20 rfl ?_
    refine lv_lstore_n (lv' := [(3, .long (jUshr x1 k2)), (0, .long x1), (2, .int k2)]) (pc := 21) hx hb dU_pressed_21 rfl hl (by decide) rfl (fun ls hl => ?_)
    refine lv_lload_n (pc := 22) hx hb dU_pressed_22 rfl (lv_at hl 0 rfl) ?_
    refine lv_iload_n (pc := 23) hx hb dU_pressed_23 rfl (lv_at hl 2 rfl) ?_
    refine lv_lshl (v := jShl (jUshr x1 k2) k2) (pc := 24) hx hb dU_pressed_24 rfl ?_
    refine lv_lload_n (pc := 25) hx hb dU_pressed_25 rfl (lv_at hl 1 rfl) ?_
    refine W.lcmp (pc := 26) hx hb dU_pressed_26 ?_
    refine lv_if_ne (tgt := 34) (pc := 27) hx hb dU_pressed_27 (by decide) (fun h2 => ?_) (fun h2 => ?_)
    · skip
      have h2 : ¬ ((jShl (jUshr x1 k2) k2) = x1) := fun q => h2 ((lg_cmp_eq _ _).2 q)
      refine lv_lload_n (pc := 34) hx hb dU_pressed_34 rfl (lv_at hl 0 rfl) ?_
      refine lv_lconst (v := 1) (pc := 35) hx hb dU_pressed_35 (by decide) ?_
      refine lv_lor (pc := 36) hx hb dU_pressed_36 ?_
      exact hret _ _ _ (show (jUshr x1 k2) ||| 1 = C_U_pressed x1 k2 from by rw [C_U_pressed, if_pos h1, if_neg h2]) dU_pressed_37
    · skip
      have h2 : (jShl (jUshr x1 k2) k2) = x1 := (lg_cmp_eq _ _).1 h2
      refine lv_lload_n (pc := 30) hx hb dU_pressed_30 rfl (lv_at hl 0 rfl) ?_
      refine lv_goto (tgt := 37) (pc := 31) hx hb dU_pressed_31 (by decide) ?_
      exact hret _ _ _ (show jUshr x1 k2 = C_U_pressed x1 k2 from by rw [C_U_pressed, if_pos h1, if_pos h2]) dU_pressed_37
  · skip
    refine lv_lload_n (pc := 6) hx hb dU_pressed_6 rfl (lv_at hl 0 rfl) ?_
    refine lv_lconst (v := 0) (pc := 7) hx hb dU_pressed_7 (by decide) ?_
    refine W.lcmp (pc := 8) hx hb dU_pressed_8 ?_
    refine lv_if_ne (tgt := 16) (pc := 9) hx hb dU_pressed_9 (by decide) (fun h3 => ?_) (fun h3 => ?_)
    · skip
      have h3 : ¬ (x1 = 0) := fun q => h3 ((lg_cmp_eq _ _).2 q)
      refine lv_lconst (v := 1) (pc := 16) hx hb dU_pressed_16 (by decide) ?_
      exact hret _ _ _ (show 1 = C_U_pressed x1 k2 from by rw [C_U_pressed, if_neg h1, if_neg h3]) dU_pressed_17
    · skip
      have h3 : x1 = 0 := (lg_cmp_eq _ _).1 h3
      refine lv_lconst (v := 0) (pc := 12) hx hb dU_pressed_12 (by decide) ?_
      refine lv_goto (tgt := 17) (pc := 13) hx hb dU_pressed_13 (by decide) ?_
      exact hret _ _ _ (show 0 = C_U_pressed x1 k2 from by rw [C_U_pressed, if_neg h1, if_pos h3]) dU_pressed_17
def C_U_moved (x1 : Int64) (k2 : Int32) : Int64 :=
  if k2 ≤ (-64) then
    0
  else
    if k2 < 64 then
      if 0 ≤ k2 then
        jShl x1 k2
      else
        jUshr x1 (-k2)
    else
      0
abbrev rmU_moved : Room := { frames := 0, cells := 0, slots := 0, locals := 0 }
theorem cwU_moved {R : Room} {s : State} {args : Array Value} {w0 : Cond} {idx : Nat} (hts : ∀ w ∈ (w0 :: bigW), w.before args s = true) (hl : Cond.methodLink "FloatUnit" idx yU_moved ∈ bigW) (hR : rmU_moved.frames + 1 ≤ R.frames ∧ 8 + (3 + 11) + rmU_moved.locals ≤ R.locals) : CallB R s args "FloatUnit" idx yU_moved cU_moved 3 (some .long) (wsM yU_moved cU_moved 3 (some .long)) rmU_moved 0 0 2 ∧ (Cond.static yU_moved).before args s = true :=
  cwS 2 hts (big_S hl w_312 w_1 w_313) rfl rfl rfl ⟨rfl, by decide, by decide, by decide +kernel⟩ hR
set_option maxRecDepth 100000 in
set_option maxHeartbeats 4000000 in
theorem c_U_moved (l : Launch) (ad : Nat → Nat) (x1 : Int64) (k2 : Int32) : PuM l ad yU_moved (wsM yU_moved cU_moved 3 (some .long)) rmU_moved [.long x1, .int k2] (.long (C_U_moved x1 k2)) := by
  refine pu_ofL (cc := cU_moved) (maxL := 3) (by decide) rfl (Nat.le_of_ble_eq_true rfl) ?_
  intro p e s m args below meth c Q hx hb hml hown hts hF hS hret ls hl
  have hl : lv_has ls 3 [(0, .long x1), (2, .int k2)] := hl
  refine lv_iload_n (pc := 0) hx hb dU_moved_0 rfl (lv_at hl 1 rfl) ?_
  refine lv_bipush (v := (-64)) (pc := 1) hx hb dU_moved_1 (by decide) ?_
  refine lv_icmp_le (tgt := 12) (pc := 3) hx hb dU_moved_3 (by decide) (fun h1 => ?_) (fun h1 => ?_)
  · skip
    refine lv_lconst (v := 0) (pc := 12) hx hb dU_moved_12 (by decide) ?_
    exact hret _ _ _ (show 0 = C_U_moved x1 k2 from by rw [C_U_moved, if_pos h1]) dU_moved_13
  · skip
    refine lv_iload_n (pc := 6) hx hb dU_moved_6 rfl (lv_at hl 1 rfl) ?_
    refine lv_bipush (v := 64) (pc := 7) hx hb dU_moved_7 (by decide) ?_
    refine lv_icmp_lt (tgt := 14) (pc := 9) hx hb dU_moved_9 (by decide) (fun h2 => ?_) (fun h2 => ?_)
    · skip
      refine lv_iload_n (pc := 14) hx hb dU_moved_14 rfl (lv_at hl 1 rfl) ?_
      refine lv_if_ge (tgt := 25) (pc := 15) hx hb dU_moved_15 (by decide) (fun h3 => ?_) (fun h3 => ?_)
      · skip
        refine lv_lload_n (pc := 25) hx hb dU_moved_25 rfl (lv_at hl 0 rfl) ?_
        refine lv_iload_n (pc := 26) hx hb dU_moved_26 rfl (lv_at hl 1 rfl) ?_
        refine lv_lshl (v := jShl x1 k2) (pc := 27) hx hb dU_moved_27 rfl ?_
        exact hret _ _ _ (show jShl x1 k2 = C_U_moved x1 k2 from by rw [C_U_moved, if_neg h1, if_pos h2, if_pos h3]) dU_moved_28
      · skip
        refine lv_lload_n (pc := 18) hx hb dU_moved_18 rfl (lv_at hl 0 rfl) ?_
        refine lv_iload_n (pc := 19) hx hb dU_moved_19 rfl (lv_at hl 1 rfl) ?_
        refine lv_ineg (pc := 20) hx hb dU_moved_20 ?_
        refine lv_lushr (v := jUshr x1 (-k2)) (pc := 21) hx hb dU_moved_21 rfl ?_
        refine lv_goto (tgt := 28) (pc := 22) hx hb dU_moved_22 (by decide) ?_
        exact hret _ _ _ (show jUshr x1 (-k2) = C_U_moved x1 k2 from by rw [C_U_moved, if_neg h1, if_pos h2, if_neg h3]) dU_moved_28
    · skip
      refine lv_lconst (v := 0) (pc := 12) hx hb dU_moved_12 (by decide) ?_
      exact hret _ _ _ (show 0 = C_U_moved x1 k2 from by rw [C_U_moved, if_neg h1, if_neg h2]) dU_moved_13
def C_U_isBeyond (x1 : Int64) (x2 : Int64) : Bool :=
  if (x1 ^^^ (-9223372036854775808)) ≤ (x2 ^^^ (-9223372036854775808)) then
    false
  else
    true
abbrev rmU_isBeyond : Room := { frames := 0, cells := 0, slots := 0, locals := 0 }
theorem cwU_isBeyond {R : Room} {s : State} {args : Array Value} {w0 : Cond} {idx : Nat} (hts : ∀ w ∈ (w0 :: bigW), w.before args s = true) (hl : Cond.methodLink "FloatUnit" idx yU_isBeyond ∈ bigW) (hR : rmU_isBeyond.frames + 1 ≤ R.frames ∧ 8 + (4 + 11) + rmU_isBeyond.locals ≤ R.locals) : CallB R s args "FloatUnit" idx yU_isBeyond cU_isBeyond 4 (some .boolean) (wsM yU_isBeyond cU_isBeyond 4 (some .boolean)) rmU_isBeyond 0 0 2 ∧ (Cond.static yU_isBeyond).before args s = true :=
  cwS 2 hts (big_S hl w_315 w_1 w_316) rfl rfl rfl ⟨rfl, by decide, by decide, by decide +kernel⟩ hR
set_option maxRecDepth 100000 in
set_option maxHeartbeats 4000000 in
theorem c_U_isBeyond (l : Launch) (ad : Nat → Nat) (x1 : Int64) (x2 : Int64) : PuM l ad yU_isBeyond (wsM yU_isBeyond cU_isBeyond 4 (some .boolean)) rmU_isBeyond [.long x1, .long x2] (.int (bI (C_U_isBeyond x1 x2))) := by
  refine pu_ofZ (cc := cU_isBeyond) (maxL := 4) (by decide) rfl (Nat.le_of_ble_eq_true rfl) ?_
  intro p e s m args below meth c Q hx hb hml hown hts hF hS hret ls hl
  have hl : lv_has ls 4 [(0, .long x1), (2, .long x2)] := hl
  refine lv_lload_n (pc := 0) hx hb dU_isBeyond_0 rfl (lv_at hl 0 rfl) ?_
  refine lv_ldc2 (v := (-9223372036854775808)) (pc := 1) hx hb hown (hts _ (List.mem_cons_of_mem _ w_317)) dU_isBeyond_1 ?_
  refine lv_lxor (pc := 4) hx hb dU_isBeyond_4 ?_
  refine lv_lload_n (pc := 5) hx hb dU_isBeyond_5 rfl (lv_at hl 1 rfl) ?_
  refine lv_ldc2 (v := (-9223372036854775808)) (pc := 6) hx hb hown (hts _ (List.mem_cons_of_mem _ w_317)) dU_isBeyond_6 ?_
  refine lv_lxor (pc := 9) hx hb dU_isBeyond_9 ?_
  refine W.lcmp (pc := 10) hx hb dU_isBeyond_10 ?_
  refine lv_if_le (tgt := 18) (pc := 11) hx hb dU_isBeyond_11 (by decide) (fun h1 => ?_) (fun h1 => ?_)
  · skip
    have h1 : (x1 ^^^ (-9223372036854775808)) ≤ (x2 ^^^ (-9223372036854775808)) := (lg_cmp_le _ _).1 h1
    refine lv_iconst (v := 0) (pc := 18) hx hb dU_isBeyond_18 (by decide) ?_
    exact hret _ _ _ (show bI false = bI (C_U_isBeyond x1 x2) from by rw [C_U_isBeyond, if_pos h1]) dU_isBeyond_19
  · skip
    have h1 : ¬ ((x1 ^^^ (-9223372036854775808)) ≤ (x2 ^^^ (-9223372036854775808))) := fun q => h1 ((lg_cmp_le _ _).2 q)
    refine lv_iconst (v := 1) (pc := 14) hx hb dU_isBeyond_14 (by decide) ?_
    refine lv_goto (tgt := 19) (pc := 15) hx hb dU_isBeyond_15 (by decide) ?_
    exact hret _ _ _ (show bI true = bI (C_U_isBeyond x1 x2) from by rw [C_U_isBeyond, if_neg h1]) dU_isBeyond_19
def C_U_upperProduct (x1 : Int64) (x2 : Int64) : Int64 :=
  if ((((x1 &&& 4294967295) * (jUshr x2 32)) + ((((jUshr x1 32) * (x2 &&& 4294967295)) + (jUshr ((x1 &&& 4294967295) * (x2 &&& 4294967295)) 32)) &&& 4294967295)) &&& 4294967295) = 0 then
    if (((x1 &&& 4294967295) * (x2 &&& 4294967295)) &&& 4294967295) = 0 then
      (((jUshr x1 32) * (jUshr x2 32)) + (jUshr (((jUshr x1 32) * (x2 &&& 4294967295)) + (jUshr ((x1 &&& 4294967295) * (x2 &&& 4294967295)) 32)) 32)) + (jUshr (((x1 &&& 4294967295) * (jUshr x2 32)) + ((((jUshr x1 32) * (x2 &&& 4294967295)) + (jUshr ((x1 &&& 4294967295) * (x2 &&& 4294967295)) 32)) &&& 4294967295)) 32)
    else
      ((((jUshr x1 32) * (jUshr x2 32)) + (jUshr (((jUshr x1 32) * (x2 &&& 4294967295)) + (jUshr ((x1 &&& 4294967295) * (x2 &&& 4294967295)) 32)) 32)) + (jUshr (((x1 &&& 4294967295) * (jUshr x2 32)) + ((((jUshr x1 32) * (x2 &&& 4294967295)) + (jUshr ((x1 &&& 4294967295) * (x2 &&& 4294967295)) 32)) &&& 4294967295)) 32)) ||| 1
  else
    ((((jUshr x1 32) * (jUshr x2 32)) + (jUshr (((jUshr x1 32) * (x2 &&& 4294967295)) + (jUshr ((x1 &&& 4294967295) * (x2 &&& 4294967295)) 32)) 32)) + (jUshr (((x1 &&& 4294967295) * (jUshr x2 32)) + ((((jUshr x1 32) * (x2 &&& 4294967295)) + (jUshr ((x1 &&& 4294967295) * (x2 &&& 4294967295)) 32)) &&& 4294967295)) 32)) ||| 1
abbrev rmU_upperProduct : Room := { frames := 0, cells := 0, slots := 0, locals := 0 }
theorem cwU_upperProduct {R : Room} {s : State} {args : Array Value} {w0 : Cond} {idx : Nat} (hts : ∀ w ∈ (w0 :: bigW), w.before args s = true) (hl : Cond.methodLink "FloatUnit" idx yU_upperProduct ∈ bigW) (hR : rmU_upperProduct.frames + 1 ≤ R.frames ∧ 8 + (21 + 11) + rmU_upperProduct.locals ≤ R.locals) : CallB R s args "FloatUnit" idx yU_upperProduct cU_upperProduct 21 (some .long) (wsM yU_upperProduct cU_upperProduct 21 (some .long)) rmU_upperProduct 0 0 2 ∧ (Cond.static yU_upperProduct).before args s = true :=
  cwS 2 hts (big_S hl w_257 w_1 w_258) rfl rfl rfl ⟨rfl, by decide, by decide, by decide +kernel⟩ hR
set_option maxRecDepth 100000 in
set_option maxHeartbeats 4000000 in
theorem c_U_upperProduct (l : Launch) (ad : Nat → Nat) (x1 : Int64) (x2 : Int64) : PuM l ad yU_upperProduct (wsM yU_upperProduct cU_upperProduct 21 (some .long)) rmU_upperProduct [.long x1, .long x2] (.long (C_U_upperProduct x1 x2)) := by
  refine pu_ofL (cc := cU_upperProduct) (maxL := 21) (by decide) rfl (Nat.le_of_ble_eq_true rfl) ?_
  intro p e s m args below meth c Q hx hb hml hown hts hF hS hret ls hl
  have hl : lv_has ls 21 [(0, .long x1), (2, .long x2)] := hl
  refine lv_lload_n (pc := 0) hx hb dU_upperProduct_0 rfl (lv_at hl 0 rfl) ?_
  refine lv_bipush (v := 32) (pc := 1) hx hb dU_upperProduct_1 (by decide) ?_
  refine lv_lushr (v := jUshr x1 32) (pc := 3) hx hb dU_upperProduct_3 rfl ?_
  refine lv_lstore (lv' := [(4, .long (jUshr x1 32)), (0, .long x1), (2, .long x2)]) (pc := 4) hx hb dU_upperProduct_4 hl (by decide) rfl (fun ls hl => ?_)
  refine lv_lload_n (pc := 6) hx hb dU_upperProduct_6 rfl (lv_at hl 1 rfl) ?_
  refine lv_ldc2 (v := 4294967295) (pc := 7) hx hb hown (hts _ (List.mem_cons_of_mem _ w_259)) dU_upperProduct_7 ?_
  refine lv_land (pc := 10) hx hb dU_upperProduct_10 ?_
  refine lv_lstore (lv' := [(6, .long (x1 &&& 4294967295)), (4, .long (jUshr x1 32)), (0, .long x1), (2, .long x2)]) (pc := 11) hx hb dU_upperProduct_11 hl (by decide) rfl (fun ls hl => ?_)
  refine lv_lload_n (pc := 13) hx hb dU_upperProduct_13 rfl (lv_at hl 3 rfl) ?_
  refine lv_bipush (v := 32) (pc := 14) hx hb dU_upperProduct_14 (by decide) ?_
  refine lv_lushr (v := jUshr x2 32) (pc := 16) hx hb dU_upperProduct_16 rfl ?_
  refine lv_lstore (lv' := [(8, .long (jUshr x2 32)), (6, .long (x1 &&& 4294967295)), (4, .long (jUshr x1 32)), (0, .long x1), (2, .long x2)]) (pc := 17) hx hb dU_upperProduct_17 hl (by decide) rfl (fun ls hl => ?_)
  refine lv_lload_n (pc := 19) hx hb dU_upperProduct_19 rfl (lv_at hl 4 rfl) ?_
  refine lv_ldc2 (v := 4294967295) (pc := 20) hx hb hown (hts _ (List.mem_cons_of_mem _ w_259)) dU_upperProduct_20 ?_
  refine lv_land (pc := 23) hx hb dU_upperProduct_23 ?_
  refine lv_lstore (lv' := [(10, .long (x2 &&& 4294967295)), (8, .long (jUshr x2 32)), (6, .long (x1 &&& 4294967295)), (4, .long (jUshr x1 32)), (0, .long x1), (2, .long x2)]) (pc := 24) hx hb dU_upperProduct_24 hl (by decide) rfl (fun ls hl => ?_)
  refine lv_lload (pc := 26) hx hb dU_upperProduct_26 (lv_at hl 2 rfl) ?_
  refine lv_lload (pc := 28) hx hb dU_upperProduct_28 (lv_at hl 0 rfl) ?_
  refine lv_lmul (pc := 30) hx hb dU_upperProduct_30 ?_
  refine lv_lstore (lv' := [(12, .long ((x1 &&& 4294967295) * (x2 &&& 4294967295))), (10, .long (x2 &&& 4294967295)), (8, .long (jUshr x2 32)), (6, .long (x1 &&& 4294967295)), (4, .long (jUshr x1 32)), (0, .long x1), (2, .long x2)]) (pc := 31) hx hb dU_upperProduct_31 hl (by decide) rfl (fun ls hl => ?_)
  refine lv_lload (pc := 33) hx hb dU_upperProduct_33 (lv_at hl 4 rfl) ?_
  refine lv_lload (pc := 35) hx hb dU_upperProduct_35 (lv_at hl 1 rfl) ?_
  refine lv_lmul (pc := 37) hx hb dU_upperProduct_37 ?_
  refine lv_lload (pc := 38) hx hb dU_upperProduct_38 (lv_at hl 0 rfl) ?_
  refine lv_bipush (v := 32) (pc := 40) hx hb dU_upperProduct_40 (by decide) ?_
  refine lv_lushr (v := jUshr ((x1 &&& 4294967295) * (x2 &&& 4294967295)) 32) (pc := 42) hx hb dU_upperProduct_42 rfl ?_
  refine lv_ladd (pc := 43) hx hb dU_upperProduct_43 ?_
  refine lv_lstore (lv' := [(14, .long (((jUshr x1 32) * (x2 &&& 4294967295)) + (jUshr ((x1 &&& 4294967295) * (x2 &&& 4294967295)) 32))), (12, .long ((x1 &&& 4294967295) * (x2 &&& 4294967295))), (10, .long (x2 &&& 4294967295)), (8, .long (jUshr x2 32)), (6, .long (x1 &&& 4294967295)), (4, .long (jUshr x1 32)), (0, .long x1), (2, .long x2)]) (pc := 44) hx hb dU_upperProduct_44 hl (by decide) rfl (fun ls hl => ?_)
  refine lv_lload (pc := 46) hx hb dU_upperProduct_46 (lv_at hl 4 rfl) ?_
  refine lv_lload (pc := 48) hx hb dU_upperProduct_48 (lv_at hl 3 rfl) ?_
  refine lv_lmul (pc := 50) hx hb dU_upperProduct_50 ?_
  refine lv_lload (pc := 51) hx hb dU_upperProduct_51 (lv_at hl 0 rfl) ?_
  refine lv_ldc2 (v := 4294967295) (pc := 53) hx hb hown (hts _ (List.mem_cons_of_mem _ w_259)) dU_upperProduct_53 ?_
  refine lv_land (pc := 56) hx hb dU_upperProduct_56 ?_
  refine lv_ladd (pc := 57) hx hb dU_upperProduct_57 ?_
  refine lv_lstore (lv' := [(16, .long (((x1 &&& 4294967295) * (jUshr x2 32)) + ((((jUshr x1 32) * (x2 &&& 4294967295)) + (jUshr ((x1 &&& 4294967295) * (x2 &&& 4294967295)) 32)) &&& 4294967295))), (14, .long (((jUshr x1 32) * (x2 &&& 4294967295)) + (jUshr ((x1 &&& 4294967295) * (x2 &&& 4294967295)) 32))), (12, .long ((x1 &&& 4294967295) * (x2 &&& 4294967295))), (10, .long (x2 &&& 4294967295)), (8, .long (jUshr x2 32)), (6, .long (x1 &&& 4294967295)), (4, .long (jUshr x1 32)), (0, .long x1), (2, .long x2)]) (pc := 58) hx hb dU_upperProduct_58 hl (by decide) rfl (fun ls hl => ?_)
  refine lv_lload (pc := 60) hx hb dU_upperProduct_60 (lv_at hl 6 rfl) ?_
  refine lv_lload (pc := 62) hx hb dU_upperProduct_62 (lv_at hl 4 rfl) ?_
  refine lv_lmul (pc := 64) hx hb dU_upperProduct_64 ?_
  refine lv_lload (pc := 65) hx hb dU_upperProduct_65 (lv_at hl 1 rfl) ?_
  refine lv_bipush (v := 32) (pc := 67) hx hb dU_upperProduct_67 (by decide) ?_
  refine lv_lushr (v := jUshr (((jUshr x1 32) * (x2 &&& 4294967295)) + (jUshr ((x1 &&& 4294967295) * (x2 &&& 4294967295)) 32)) 32) (pc := 69) hx hb dU_upperProduct_69 rfl ?_
  refine lv_ladd (pc := 70) hx hb dU_upperProduct_70 ?_
  refine lv_lload (pc := 71) hx hb dU_upperProduct_71 (lv_at hl 0 rfl) ?_
  refine lv_bipush (v := 32) (pc := 73) hx hb dU_upperProduct_73 (by decide) ?_
  refine lv_lushr (v := jUshr (((x1 &&& 4294967295) * (jUshr x2 32)) + ((((jUshr x1 32) * (x2 &&& 4294967295)) + (jUshr ((x1 &&& 4294967295) * (x2 &&& 4294967295)) 32)) &&& 4294967295)) 32) (pc := 75) hx hb dU_upperProduct_75 rfl ?_
  refine lv_ladd (pc := 76) hx hb dU_upperProduct_76 ?_
  refine lv_lstore (lv' := [(18, .long ((((jUshr x1 32) * (jUshr x2 32)) + (jUshr (((jUshr x1 32) * (x2 &&& 4294967295)) + (jUshr ((x1 &&& 4294967295) * (x2 &&& 4294967295)) 32)) 32)) + (jUshr (((x1 &&& 4294967295) * (jUshr x2 32)) + ((((jUshr x1 32) * (x2 &&& 4294967295)) + (jUshr ((x1 &&& 4294967295) * (x2 &&& 4294967295)) 32)) &&& 4294967295)) 32))), (16, .long (((x1 &&& 4294967295) * (jUshr x2 32)) + ((((jUshr x1 32) * (x2 &&& 4294967295)) + (jUshr ((x1 &&& 4294967295) * (x2 &&& 4294967295)) 32)) &&& 4294967295))), (14, .long (((jUshr x1 32) * (x2 &&& 4294967295)) + (jUshr ((x1 &&& 4294967295) * (x2 &&& 4294967295)) 32))), (12, .long ((x1 &&& 4294967295) * (x2 &&& 4294967295))), (10, .long (x2 &&& 4294967295)), (8, .long (jUshr x2 32)), (6, .long (x1 &&& 4294967295)), (4, .long (jUshr x1 32)), (0, .long x1), (2, .long x2)]) (pc := 77) hx hb dU_upperProduct_77 hl (by decide) rfl (fun ls hl => ?_)
  refine lv_lload (pc := 79) hx hb dU_upperProduct_79 (lv_at hl 1 rfl) ?_
  refine lv_ldc2 (v := 4294967295) (pc := 81) hx hb hown (hts _ (List.mem_cons_of_mem _ w_259)) dU_upperProduct_81 ?_
  refine lv_land (pc := 84) hx hb dU_upperProduct_84 ?_
  refine lv_lconst (v := 0) (pc := 85) hx hb dU_upperProduct_85 (by decide) ?_
  refine W.lcmp (pc := 86) hx hb dU_upperProduct_86 ?_
  refine lv_if_ne (tgt := 105) (pc := 87) hx hb dU_upperProduct_87 (by decide) (fun h1 => ?_) (fun h1 => ?_)
  · skip
    have h1 : ¬ (((((x1 &&& 4294967295) * (jUshr x2 32)) + ((((jUshr x1 32) * (x2 &&& 4294967295)) + (jUshr ((x1 &&& 4294967295) * (x2 &&& 4294967295)) 32)) &&& 4294967295)) &&& 4294967295) = 0) := fun q => h1 ((lg_cmp_eq _ _).2 q)
    refine lv_iconst (v := 0) (pc := 105) hx hb dU_upperProduct_105 (by decide) ?_
    refine lv_istore (lv' := [(20, .int 0), (18, .long ((((jUshr x1 32) * (jUshr x2 32)) + (jUshr (((jUshr x1 32) * (x2 &&& 4294967295)) + (jUshr ((x1 &&& 4294967295) * (x2 &&& 4294967295)) 32)) 32)) + (jUshr (((x1 &&& 4294967295) * (jUshr x2 32)) + ((((jUshr x1 32) * (x2 &&& 4294967295)) + (jUshr ((x1 &&& 4294967295) * (x2 &&& 4294967295)) 32)) &&& 4294967295)) 32))), (16, .long (((x1 &&& 4294967295) * (jUshr x2 32)) + ((((jUshr x1 32) * (x2 &&& 4294967295)) + (jUshr ((x1 &&& 4294967295) * (x2 &&& 4294967295)) 32)) &&& 4294967295))), (14, .long (((jUshr x1 32) * (x2 &&& 4294967295)) + (jUshr ((x1 &&& 4294967295) * (x2 &&& 4294967295)) 32))), (12, .long ((x1 &&& 4294967295) * (x2 &&& 4294967295))), (10, .long (x2 &&& 4294967295)), (8, .long (jUshr x2 32)), (6, .long (x1 &&& 4294967295)), (4, .long (jUshr x1 32)), (0, .long x1), (2, .long x2)]) (pc := 106) hx hb dU_upperProduct_106 hl (by decide) rfl (fun ls hl => ?_)
    refine lv_iload (pc := 108) hx hb dU_upperProduct_108 (lv_at hl 0 rfl) ?_
    refine lv_if_eq (tgt := 118) (pc := 110) hx hb dU_upperProduct_110 (by decide) (fun h2 => ?_) (fun h2 => ?_)
    · skip
      refine lv_lload (pc := 118) hx hb dU_upperProduct_118 (lv_at hl 1 rfl) ?_
      refine lv_lconst (v := 1) (pc := 120) hx hb dU_upperProduct_120 (by decide) ?_
      refine lv_lor (pc := 121) hx hb dU_upperProduct_121 ?_
      exact hret _ _ _ (show ((((jUshr x1 32) * (jUshr x2 32)) + (jUshr (((jUshr x1 32) * (x2 &&& 4294967295)) + (jUshr ((x1 &&& 4294967295) * (x2 &&& 4294967295)) 32)) 32)) + (jUshr (((x1 &&& 4294967295) * (jUshr x2 32)) + ((((jUshr x1 32) * (x2 &&& 4294967295)) + (jUshr ((x1 &&& 4294967295) * (x2 &&& 4294967295)) 32)) &&& 4294967295)) 32)) ||| 1 = C_U_upperProduct x1 x2 from by rw [C_U_upperProduct, if_neg h1]) dU_upperProduct_122
    · exact absurd h2 (by decide)
  · skip
    have h1 : ((((x1 &&& 4294967295) * (jUshr x2 32)) + ((((jUshr x1 32) * (x2 &&& 4294967295)) + (jUshr ((x1 &&& 4294967295) * (x2 &&& 4294967295)) 32)) &&& 4294967295)) &&& 4294967295) = 0 := (lg_cmp_eq _ _).1 h1
    refine lv_lload (pc := 90) hx hb dU_upperProduct_90 (lv_at hl 3 rfl) ?_
    refine lv_ldc2 (v := 4294967295) (pc := 92) hx hb hown (hts _ (List.mem_cons_of_mem _ w_259)) dU_upperProduct_92 ?_
    refine lv_land (pc := 95) hx hb dU_upperProduct_95 ?_
    refine lv_lconst (v := 0) (pc := 96) hx hb dU_upperProduct_96 (by decide) ?_
    refine W.lcmp (pc := 97) hx hb dU_upperProduct_97 ?_
    refine lv_if_ne (tgt := 105) (pc := 98) hx hb dU_upperProduct_98 (by decide) (fun h3 => ?_) (fun h3 => ?_)
    · skip
      have h3 : ¬ ((((x1 &&& 4294967295) * (x2 &&& 4294967295)) &&& 4294967295) = 0) := fun q => h3 ((lg_cmp_eq _ _).2 q)
      refine lv_iconst (v := 0) (pc := 105) hx hb dU_upperProduct_105 (by decide) ?_
      refine lv_istore (lv' := [(20, .int 0), (18, .long ((((jUshr x1 32) * (jUshr x2 32)) + (jUshr (((jUshr x1 32) * (x2 &&& 4294967295)) + (jUshr ((x1 &&& 4294967295) * (x2 &&& 4294967295)) 32)) 32)) + (jUshr (((x1 &&& 4294967295) * (jUshr x2 32)) + ((((jUshr x1 32) * (x2 &&& 4294967295)) + (jUshr ((x1 &&& 4294967295) * (x2 &&& 4294967295)) 32)) &&& 4294967295)) 32))), (16, .long (((x1 &&& 4294967295) * (jUshr x2 32)) + ((((jUshr x1 32) * (x2 &&& 4294967295)) + (jUshr ((x1 &&& 4294967295) * (x2 &&& 4294967295)) 32)) &&& 4294967295))), (14, .long (((jUshr x1 32) * (x2 &&& 4294967295)) + (jUshr ((x1 &&& 4294967295) * (x2 &&& 4294967295)) 32))), (12, .long ((x1 &&& 4294967295) * (x2 &&& 4294967295))), (10, .long (x2 &&& 4294967295)), (8, .long (jUshr x2 32)), (6, .long (x1 &&& 4294967295)), (4, .long (jUshr x1 32)), (0, .long x1), (2, .long x2)]) (pc := 106) hx hb dU_upperProduct_106 hl (by decide) rfl (fun ls hl => ?_)
      refine lv_iload (pc := 108) hx hb dU_upperProduct_108 (lv_at hl 0 rfl) ?_
      refine lv_if_eq (tgt := 118) (pc := 110) hx hb dU_upperProduct_110 (by decide) (fun h4 => ?_) (fun h4 => ?_)
      · skip
        refine lv_lload (pc := 118) hx hb dU_upperProduct_118 (lv_at hl 1 rfl) ?_
        refine lv_lconst (v := 1) (pc := 120) hx hb dU_upperProduct_120 (by decide) ?_
        refine lv_lor (pc := 121) hx hb dU_upperProduct_121 ?_
        exact hret _ _ _ (show ((((jUshr x1 32) * (jUshr x2 32)) + (jUshr (((jUshr x1 32) * (x2 &&& 4294967295)) + (jUshr ((x1 &&& 4294967295) * (x2 &&& 4294967295)) 32)) 32)) + (jUshr (((x1 &&& 4294967295) * (jUshr x2 32)) + ((((jUshr x1 32) * (x2 &&& 4294967295)) + (jUshr ((x1 &&& 4294967295) * (x2 &&& 4294967295)) 32)) &&& 4294967295)) 32)) ||| 1 = C_U_upperProduct x1 x2 from by rw [C_U_upperProduct, if_pos h1, if_neg h3]) dU_upperProduct_122
      · exact absurd h4 (by decide)
    · skip
      have h3 : (((x1 &&& 4294967295) * (x2 &&& 4294967295)) &&& 4294967295) = 0 := (lg_cmp_eq _ _).1 h3
      refine lv_iconst (v := 1) (pc := 101) hx hb dU_upperProduct_101 (by decide) ?_
      refine lv_goto (tgt := 106) (pc := 102) hx hb dU_upperProduct_102 (by decide) ?_
      refine lv_istore (lv' := [(20, .int 1), (18, .long ((((jUshr x1 32) * (jUshr x2 32)) + (jUshr (((jUshr x1 32) * (x2 &&& 4294967295)) + (jUshr ((x1 &&& 4294967295) * (x2 &&& 4294967295)) 32)) 32)) + (jUshr (((x1 &&& 4294967295) * (jUshr x2 32)) + ((((jUshr x1 32) * (x2 &&& 4294967295)) + (jUshr ((x1 &&& 4294967295) * (x2 &&& 4294967295)) 32)) &&& 4294967295)) 32))), (16, .long (((x1 &&& 4294967295) * (jUshr x2 32)) + ((((jUshr x1 32) * (x2 &&& 4294967295)) + (jUshr ((x1 &&& 4294967295) * (x2 &&& 4294967295)) 32)) &&& 4294967295))), (14, .long (((jUshr x1 32) * (x2 &&& 4294967295)) + (jUshr ((x1 &&& 4294967295) * (x2 &&& 4294967295)) 32))), (12, .long ((x1 &&& 4294967295) * (x2 &&& 4294967295))), (10, .long (x2 &&& 4294967295)), (8, .long (jUshr x2 32)), (6, .long (x1 &&& 4294967295)), (4, .long (jUshr x1 32)), (0, .long x1), (2, .long x2)]) (pc := 106) hx hb dU_upperProduct_106 hl (by decide) rfl (fun ls hl => ?_)
      refine lv_iload (pc := 108) hx hb dU_upperProduct_108 (lv_at hl 0 rfl) ?_
      refine lv_if_eq (tgt := 118) (pc := 110) hx hb dU_upperProduct_110 (by decide) (fun h5 => ?_) (fun h5 => ?_)
      · exact absurd h5 (by decide)
      · skip
        refine lv_lload (pc := 113) hx hb dU_upperProduct_113 (lv_at hl 1 rfl) ?_
        refine lv_goto (tgt := 122) (pc := 115) hx hb dU_upperProduct_115 (by decide) ?_
        exact hret _ _ _ (show (((jUshr x1 32) * (jUshr x2 32)) + (jUshr (((jUshr x1 32) * (x2 &&& 4294967295)) + (jUshr ((x1 &&& 4294967295) * (x2 &&& 4294967295)) 32)) 32)) + (jUshr (((x1 &&& 4294967295) * (jUshr x2 32)) + ((((jUshr x1 32) * (x2 &&& 4294967295)) + (jUshr ((x1 &&& 4294967295) * (x2 &&& 4294967295)) 32)) &&& 4294967295)) 32) = C_U_upperProduct x1 x2 from by rw [C_U_upperProduct, if_pos h1, if_pos h3]) dU_upperProduct_122
def C_F_lift (x1 : Int64) : Int32 :=
  (C_U_freePlaces x1) - 10
abbrev rmF_lift : Room := { frames := 1, cells := 0, slots := 0, locals := 23 }
theorem cwF_lift {R : Room} {s : State} {args : Array Value} {w0 : Cond} {idx : Nat} (hts : ∀ w ∈ (w0 :: bigW), w.before args s = true) (hl : Cond.methodLink "FloatUnit$Format" idx yF_lift ∈ bigW) (hR : rmF_lift.frames + 1 ≤ R.frames ∧ 8 + (2 + 11) + rmF_lift.locals ≤ R.locals) : CallB R s args "FloatUnit$Format" idx yF_lift cF_lift 2 (some .int) (wsM yF_lift cF_lift 2 (some .int)) rmF_lift 0 0 1 ∧ (Cond.static yF_lift).before args s = true :=
  cwS 1 hts (big_S hl w_197 w_8 w_198) rfl rfl rfl ⟨rfl, by decide, by decide, by decide +kernel⟩ hR
set_option maxRecDepth 100000 in
set_option maxHeartbeats 4000000 in
theorem c_F_lift (l : Launch) (ad : Nat → Nat) (x1 : Int64) : PuM l ad yF_lift (wsM yF_lift cF_lift 2 (some .int)) rmF_lift [.long x1] (.int (C_F_lift x1)) := by
  refine pu_ofI (cc := cF_lift) (maxL := 2) (by decide) rfl (Nat.le_of_ble_eq_true rfl) ?_
  intro p e s m args below meth c Q hx hb hml hown hts hF hS hret ls hl
  have hl : lv_has ls 2 [(0, .long x1)] := hl
  refine lv_lload_n (pc := 0) hx hb dF_lift_0 rfl (lv_at hl 0 rfl) ?_
  refine pu_SN (pc := 1) (rest := []) ⟨hx, hb, hml, hown, hts⟩ (c_U_freePlaces l ad x1) ⟨va_cnB 1 hts (big_M w_201) rfl rfl rfl hF.2.2.2.2.2.2 (hts _ (List.mem_cons_of_mem _ w_1)) ⟨by decide, by decide, by decide +kernel⟩ ⟨by decide, by decide⟩, hts _ (List.mem_cons_of_mem _ w_200), trivial⟩ hF hS rfl hl.1 rfl (Nat.le_of_ble_eq_true rfl) dF_lift_1 ⟨Nat.zero_le _, Nat.zero_le _⟩ ?_
  refine lv_bipush (v := 10) (pc := 4) hx hb dF_lift_4 (by decide) ?_
  refine lv_isub (pc := 6) hx hb dF_lift_6 ?_
  exact hret _ _ _ (show (C_U_freePlaces x1) - 10 = C_F_lift x1 from by rw [C_F_lift]) dF_lift_7
def C_F_significand (i : Nat) (x1 : Int64) : Int64 :=
  jShl (C_F_plain i x1) (C_F_lift (C_F_plain i x1))
abbrev rmF_significand : Room := { frames := 2, cells := 0, slots := 0, locals := 46 }
theorem cwF_significand {R : Room} {s : State} {args : Array Value} {w0 : Cond} {own : String} {idx : Nat} (hts : ∀ w ∈ (w0 :: bigW), w.before args s = true) (hl : Cond.methodLink own idx yF_significand ∈ bigW) (hR : rmF_significand.frames + 1 ≤ R.frames ∧ 8 + (5 + 11) + rmF_significand.locals ≤ R.locals) : CallW R s args own "FloatUnit$Format" idx yF_significand cF_significand 5 (some .long) (wsM yF_significand cF_significand 5 (some .long)) rmF_significand 0 0 1 :=
  cwV 1 hts (big_V hl w_207 w_208 w_8 w_209) rfl rfl rfl ⟨rfl, by decide, by decide, by decide +kernel⟩ hR
set_option maxRecDepth 100000 in
set_option maxHeartbeats 4000000 in
theorem c_F_significand (l : Launch) (ad : Nat → Nat) {i : Nat} (hi : i < 2) (x1 : Int64) : PuM l ad yF_significand (wsM yF_significand cF_significand 5 (some .long)) rmF_significand [.ref (ad i), .long x1] (.long (C_F_significand i x1)) := by
  refine pu_ofL (cc := cF_significand) (maxL := 5) (by decide) rfl (Nat.le_of_ble_eq_true rfl) ?_
  intro p e s m args below meth c Q hx hb hml hown hts hF hS hret ls hl
  have hl : lv_has ls 5 [(0, .ref (ad i)), (1, .long x1)] := hl
  refine lv_aload_n (pc := 0) hx hb dF_significand_0 rfl (lv_at hl 0 rfl) ?_
  refine lv_lload_n (pc := 1) hx hb dF_significand_1 rfl (lv_at hl 1 rfl) ?_
  refine pu_V (pc := 2) (i := i) (rest := []) ⟨hx, hb, hml, hown, hts⟩ hi (c_F_plain l ad hi x1) (cwF_plain hts w_191 ⟨by decide, by decide⟩) hF hS rfl hl.1 rfl (Nat.le_of_ble_eq_true rfl) dF_significand_2 ⟨Nat.zero_le _, Nat.zero_le _⟩ ?_
  refine lv_lstore_n (lv' := [(3, .long (C_F_plain i x1)), (0, .ref (ad i)), (1, .long x1)]) (pc := 5) hx hb dF_significand_5 rfl hl (by decide) rfl (fun ls hl => ?_)
  refine lv_lload_n (pc := 6) hx hb dF_significand_6 rfl (lv_at hl 0 rfl) ?_
  refine lv_lload_n (pc := 7) hx hb dF_significand_7 rfl (lv_at hl 0 rfl) ?_
  refine pu_S (pc := 8) (rest := [.long (C_F_plain i x1)]) ⟨hx, hb, hml, hown, hts⟩ (c_F_lift l ad (C_F_plain i x1)) (cwF_lift hts w_196 ⟨by decide, by decide⟩) hF hS rfl hl.1 rfl (Nat.le_of_ble_eq_true rfl) dF_significand_8 ⟨Nat.zero_le _, Nat.zero_le _⟩ ?_
  refine lv_lshl (v := jShl (C_F_plain i x1) (C_F_lift (C_F_plain i x1))) (pc := 11) hx hb dF_significand_11 rfl ?_
  exact hret _ _ _ (show jShl (C_F_plain i x1) (C_F_lift (C_F_plain i x1)) = C_F_significand i x1 from by rw [C_F_significand]) dF_significand_12
def C_F_power (i : Nat) (x1 : Int64) : Int32 :=
  (C_F_unitPower i (jMax ((jUshr (C_F_size i x1) ((fPr i) - 1)).toInt32) 1)) - (C_F_lift (C_F_plain i x1))
abbrev rmF_power : Room := { frames := 2, cells := 0, slots := 0, locals := 46 }
theorem cwF_power {R : Room} {s : State} {args : Array Value} {w0 : Cond} {own : String} {idx : Nat} (hts : ∀ w ∈ (w0 :: bigW), w.before args s = true) (hl : Cond.methodLink own idx yF_power ∈ bigW) (hR : rmF_power.frames + 1 ≤ R.frames ∧ 8 + (4 + 11) + rmF_power.locals ≤ R.locals) : CallW R s args own "FloatUnit$Format" idx yF_power cF_power 4 (some .int) (wsM yF_power cF_power 4 (some .int)) rmF_power 0 0 1 :=
  cwV 1 hts (big_V hl w_181 w_182 w_8 w_183) rfl rfl rfl ⟨rfl, by decide, by decide, by decide +kernel⟩ hR
set_option maxRecDepth 100000 in
set_option maxHeartbeats 4000000 in
theorem c_F_power (l : Launch) (ad : Nat → Nat) {i : Nat} (hi : i < 2) (x1 : Int64) : PuM l ad yF_power (wsM yF_power cF_power 4 (some .int)) rmF_power [.ref (ad i), .long x1] (.int (C_F_power i x1)) := by
  refine pu_ofI (cc := cF_power) (maxL := 4) (by decide) rfl (Nat.le_of_ble_eq_true rfl) ?_
  intro p e s m args below meth c Q hx hb hml hown hts hF hS hret ls hl
  have hl : lv_has ls 4 [(0, .ref (ad i)), (1, .long x1)] := hl
  refine lv_aload_n (pc := 0) hx hb dF_power_0 rfl (lv_at hl 0 rfl) ?_
  refine lv_lload_n (pc := 1) hx hb dF_power_1 rfl (lv_at hl 1 rfl) ?_
  refine pu_V (pc := 2) (i := i) (rest := []) ⟨hx, hb, hml, hown, hts⟩ hi (c_F_size l ad hi x1) (cwF_size hts w_152 ⟨by decide, by decide⟩) hF hS rfl hl.1 rfl (Nat.le_of_ble_eq_true rfl) dF_power_2 ⟨Nat.zero_le _, Nat.zero_le _⟩ ?_
  refine lv_aload_n (pc := 5) hx hb dF_power_5 rfl (lv_at hl 0 rfl) ?_
  refine fm_pr (pc := 6) hx hb hF hi hS hown (hts _ (List.mem_cons_of_mem _ w_532)) dF_power_6 ?_
  refine lv_iconst (v := 1) (pc := 9) hx hb dF_power_9 (by decide) ?_
  refine lv_isub (pc := 10) hx hb dF_power_10 ?_
  refine lv_lushr (v := jUshr (C_F_size i x1) ((fPr i) - 1)) (pc := 11) hx hb dF_power_11 rfl ?_
  refine lv_l2i (v := (jUshr (C_F_size i x1) ((fPr i) - 1)).toInt32) (pc := 12) hx hb dF_power_12 rfl ?_
  refine lv_istore_n (lv' := [(3, .int ((jUshr (C_F_size i x1) ((fPr i) - 1)).toInt32)), (0, .ref (ad i)), (1, .long x1)]) (pc := 13) hx hb dF_power_13 rfl hl (by decide) rfl (fun ls hl => ?_)
  refine lv_aload_n (pc := 14) hx hb dF_power_14 rfl (lv_at hl 1 rfl) ?_
  refine lv_iload_n (pc := 15) hx hb dF_power_15 rfl (lv_at hl 0 rfl) ?_
  refine lv_iconst (v := 1) (pc := 16) hx hb dF_power_16 (by decide) ?_
  refine va_mmax (pc := 17) hx hb (hml.trans hl.1.symm) hown (hts _ (List.mem_cons_of_mem _ w_184)) (hts _ (List.mem_cons_of_mem _ w_185)) (hts _ (List.mem_cons_of_mem _ w_9)) (hts _ (List.mem_cons_of_mem _ w_186)) (by decide) (Nat.le_of_ble_eq_true rfl) (Nat.zero_le _) (Nat.zero_le _) dF_power_17 ?_
  refine lv_topi (fun v1 e1 => ?_)
  obtain rfl : v1 = jMax ((jUshr (C_F_size i x1) ((fPr i) - 1)).toInt32) 1 := e1
  refine pu_V (pc := 20) (i := i) (rest := []) ⟨hx, hb, hml, hown, hts⟩ hi (c_F_unitPower l ad hi (jMax ((jUshr (C_F_size i x1) ((fPr i) - 1)).toInt32) 1)) (cwF_unitPower hts w_187 ⟨by decide, by decide⟩) hF hS rfl hl.1 rfl (Nat.le_of_ble_eq_true rfl) dF_power_20 ⟨Nat.zero_le _, Nat.zero_le _⟩ ?_
  refine lv_aload_n (pc := 23) hx hb dF_power_23 rfl (lv_at hl 1 rfl) ?_
  refine lv_lload_n (pc := 24) hx hb dF_power_24 rfl (lv_at hl 2 rfl) ?_
  refine pu_V (pc := 25) (i := i) (rest := [.int (C_F_unitPower i (jMax ((jUshr (C_F_size i x1) ((fPr i) - 1)).toInt32) 1))]) ⟨hx, hb, hml, hown, hts⟩ hi (c_F_plain l ad hi x1) (cwF_plain hts w_191 ⟨by decide, by decide⟩) hF hS rfl hl.1 rfl (Nat.le_of_ble_eq_true rfl) dF_power_25 ⟨Nat.zero_le _, Nat.zero_le _⟩ ?_
  refine pu_S (pc := 28) (rest := [.int (C_F_unitPower i (jMax ((jUshr (C_F_size i x1) ((fPr i) - 1)).toInt32) 1))]) ⟨hx, hb, hml, hown, hts⟩ (c_F_lift l ad (C_F_plain i x1)) (cwF_lift hts w_196 ⟨by decide, by decide⟩) hF hS rfl hl.1 rfl (Nat.le_of_ble_eq_true rfl) dF_power_28 ⟨Nat.zero_le _, Nat.zero_le _⟩ ?_
  refine lv_isub (pc := 31) hx hb dF_power_31 ?_
  exact hret _ _ _ (show (C_F_unitPower i (jMax ((jUshr (C_F_size i x1) ((fPr i) - 1)).toInt32) 1)) - (C_F_lift (C_F_plain i x1)) = C_F_power i x1 from by rw [C_F_power]) dF_power_32
def C_U_term (i : Nat) (x2 : Int64) (k3 : Int32) : Int64 :=
  if (C_F_isMinus i x2) = false then
    C_U_pressed (jShl (C_F_significand i x2) 9) ((k3 - (C_F_power i x2)) + 9)
  else
    -(C_U_pressed (jShl (C_F_significand i x2) 9) ((k3 - (C_F_power i x2)) + 9))
abbrev rmU_term : Room := { frames := 3, cells := 0, slots := 0, locals := 70 }
theorem cwU_term {R : Room} {s : State} {args : Array Value} {w0 : Cond} {idx : Nat} (hts : ∀ w ∈ (w0 :: bigW), w.before args s = true) (hl : Cond.methodLink "FloatUnit" idx yU_term ∈ bigW) (hR : rmU_term.frames + 1 ≤ R.frames ∧ 8 + (7 + 11) + rmU_term.locals ≤ R.locals) : CallB R s args "FloatUnit" idx yU_term cU_term 7 (some .long) (wsM yU_term cU_term 7 (some .long)) rmU_term 0 0 3 ∧ (Cond.static yU_term).before args s = true :=
  cwS 3 hts (big_S hl w_204 w_1 w_205) rfl rfl rfl ⟨rfl, by decide, by decide, by decide +kernel⟩ hR
set_option maxRecDepth 100000 in
set_option maxHeartbeats 4000000 in
theorem c_U_term (l : Launch) (ad : Nat → Nat) {i : Nat} (hi : i < 2) (x2 : Int64) (k3 : Int32) : PuM l ad yU_term (wsM yU_term cU_term 7 (some .long)) rmU_term [.ref (ad i), .long x2, .int k3] (.long (C_U_term i x2 k3)) := by
  refine pu_ofL (cc := cU_term) (maxL := 7) (by decide) rfl (Nat.le_of_ble_eq_true rfl) ?_
  intro p e s m args below meth c Q hx hb hml hown hts hF hS hret ls hl
  have hl : lv_has ls 7 [(0, .ref (ad i)), (1, .long x2), (3, .int k3)] := hl
  refine lv_iload_n (pc := 0) hx hb dU_term_0 rfl (lv_at hl 2 rfl) ?_
  refine lv_aload_n (pc := 1) hx hb dU_term_1 rfl (lv_at hl 0 rfl) ?_
  refine lv_lload_n (pc := 2) hx hb dU_term_2 rfl (lv_at hl 1 rfl) ?_
  refine pu_V (pc := 3) (i := i) (rest := [.int k3]) ⟨hx, hb, hml, hown, hts⟩ hi (c_F_power l ad hi x2) (cwF_power hts w_180 ⟨by decide, by decide⟩) hF hS rfl hl.1 rfl (Nat.le_of_ble_eq_true rfl) dU_term_3 ⟨Nat.zero_le _, Nat.zero_le _⟩ ?_
  refine lv_isub (pc := 6) hx hb dU_term_6 ?_
  refine lv_bipush (v := 9) (pc := 7) hx hb dU_term_7 (by decide) ?_
  refine lv_iadd (pc := 9) hx hb dU_term_9 ?_
  refine lv_istore (lv' := [(4, .int ((k3 - (C_F_power i x2)) + 9)), (0, .ref (ad i)), (1, .long x2), (3, .int k3)]) (pc := 10) hx hb dU_term_10 hl (by decide) rfl (fun ls hl => ?_)
  refine lv_aload_n (pc := 12) hx hb dU_term_12 rfl (lv_at hl 1 rfl) ?_
  refine lv_lload_n (pc := 13) hx hb dU_term_13 rfl (lv_at hl 2 rfl) ?_
  refine pu_V (pc := 14) (i := i) (rest := []) ⟨hx, hb, hml, hown, hts⟩ hi (c_F_significand l ad hi x2) (cwF_significand hts w_206 ⟨by decide, by decide⟩) hF hS rfl hl.1 rfl (Nat.le_of_ble_eq_true rfl) dU_term_14 ⟨Nat.zero_le _, Nat.zero_le _⟩ ?_
  refine lv_bipush (v := 9) (pc := 17) hx hb dU_term_17 (by decide) ?_
  refine lv_lshl (v := jShl (C_F_significand i x2) 9) (pc := 19) hx hb dU_term_19 rfl ?_
  refine lv_iload (pc := 20) hx hb dU_term_20 (lv_at hl 0 rfl) ?_
  refine pu_S (pc := 22) (rest := []) ⟨hx, hb, hml, hown, hts⟩ (c_U_pressed l ad (jShl (C_F_significand i x2) 9) ((k3 - (C_F_power i x2)) + 9)) (cwU_pressed hts w_210 ⟨by decide, by decide⟩) hF hS rfl hl.1 rfl (Nat.le_of_ble_eq_true rfl) dU_term_22 ⟨Nat.zero_le _, Nat.zero_le _⟩ ?_
  refine lv_lstore (lv' := [(5, .long (C_U_pressed (jShl (C_F_significand i x2) 9) ((k3 - (C_F_power i x2)) + 9))), (4, .int ((k3 - (C_F_power i x2)) + 9)), (0, .ref (ad i)), (1, .long x2), (3, .int k3)]) (pc := 25) hx hb dU_term_25 hl (by decide) rfl (fun ls hl => ?_)
  refine lv_aload_n (pc := 27) hx hb dU_term_27 rfl (lv_at hl 2 rfl) ?_
  refine lv_lload_n (pc := 28) hx hb dU_term_28 rfl (lv_at hl 3 rfl) ?_
  refine pu_V (pc := 29) (i := i) (rest := []) ⟨hx, hb, hml, hown, hts⟩ hi (c_F_isMinus l ad hi x2) (cwF_isMinus hts w_164 ⟨by decide, by decide⟩) hF hS rfl hl.1 rfl (Nat.le_of_ble_eq_true rfl) dU_term_29 ⟨Nat.zero_le _, Nat.zero_le _⟩ ?_
  refine lv_if_eq (tgt := 41) (pc := 32) hx hb dU_term_32 (by decide) (fun h1 => ?_) (fun h1 => ?_)
  · skip
    have h1 : (C_F_isMinus i x2) = false := (bI_0 _).1 h1
    refine lv_lload (pc := 41) hx hb dU_term_41 (lv_at hl 0 rfl) ?_
    exact hret _ _ _ (show C_U_pressed (jShl (C_F_significand i x2) 9) ((k3 - (C_F_power i x2)) + 9) = C_U_term i x2 k3 from by rw [C_U_term, if_pos h1]) dU_term_43
  · skip
    have h1 : ¬ ((C_F_isMinus i x2) = false) := fun q => h1 ((bI_0 _).2 q)
    refine lv_lload (pc := 35) hx hb dU_term_35 (lv_at hl 0 rfl) ?_
    refine lv_lneg (pc := 37) hx hb dU_term_37 ?_
    refine lv_goto (tgt := 43) (pc := 38) hx hb dU_term_38 (by decide) ?_
    exact hret _ _ _ (show -(C_U_pressed (jShl (C_F_significand i x2) 9) ((k3 - (C_F_power i x2)) + 9)) = C_U_term i x2 k3 from by rw [C_U_term, if_neg h1]) dU_term_43
def C_U_format (z1 : Bool) : Nat :=
  if z1 = false then
    0
  else
    1
abbrev rmU_format : Room := { frames := 0, cells := 0, slots := 0, locals := 0 }
theorem cwU_format {R : Room} {s : State} {args : Array Value} {w0 : Cond} {idx : Nat} (hts : ∀ w ∈ (w0 :: bigW), w.before args s = true) (hl : Cond.methodLink "FloatUnit" idx yU_format ∈ bigW) (hR : rmU_format.frames + 1 ≤ R.frames ∧ 8 + (1 + 11) + rmU_format.locals ≤ R.locals) : CallB R s args "FloatUnit" idx yU_format cU_format 1 (some (.object "FloatUnit$Format")) (wsM yU_format cU_format 1 (some (.object "FloatUnit$Format"))) rmU_format 0 0 1 ∧ (Cond.static yU_format).before args s = true :=
  cwS 1 hts (big_S hl w_134 w_1 w_135) rfl rfl rfl ⟨rfl, by decide, by decide, by decide +kernel⟩ hR
set_option maxRecDepth 100000 in
set_option maxHeartbeats 4000000 in
theorem c_U_format (l : Launch) (ad : Nat → Nat) (z1 : Bool) : PuM l ad yU_format (wsM yU_format cU_format 1 (some (.object "FloatUnit$Format"))) rmU_format [.int (bI z1)] (.ref (ad (C_U_format z1))) := by
  refine pu_ofA (cc := cU_format) (maxL := 1) (by decide) rfl (Nat.le_of_ble_eq_true rfl) ?_
  intro p e s m args below meth c Q hx hb hml hown hts hF hS hret ls hl
  have hl : lv_has ls 1 [(0, .int (bI z1))] := hl
  refine lv_iload_n (pc := 0) hx hb dU_format_0 rfl (lv_at hl 0 rfl) ?_
  refine lv_if_eq (tgt := 10) (pc := 1) hx hb dU_format_1 (by decide) (fun h1 => ?_) (fun h1 => ?_)
  · skip
    have h1 : z1 = false := (bI_0 _).1 h1
    refine fm_c0 (pc := 10) hx hb hF hS hown (hts _ (List.mem_cons_of_mem _ w_138)) dU_format_10 ?_
    exact hret _ _ _ (show ad 0 = ad (C_U_format z1) from by rw [C_U_format, if_pos h1]) dU_format_13
  · skip
    have h1 : ¬ (z1 = false) := fun q => h1 ((bI_0 _).2 q)
    refine fm_c1 (pc := 4) hx hb hF hS hown (hts _ (List.mem_cons_of_mem _ w_136)) dU_format_4 ?_
    refine lv_goto (tgt := 13) (pc := 7) hx hb dU_format_7 (by decide) ?_
    exact hret _ _ _ (show ad 1 = ad (C_U_format z1) from by rw [C_U_format, if_neg h1]) dU_format_13
end
section
/-! Field tables (by program). -/
def TU : u_T := fun k => match k with
  | 0 => ("FloatUnit", "registers", "[J", true)
  | 1 => ("FloatUnit", "currentMode", "I", false)
  | _ => ("FloatUnit", "raised", "I", false)
def tyU : Nat → FieldType := fun k => match k with
  | 0 => .array .long
  | 1 => .int
  | _ => .int
theorem nmU : ∀ a, a < 3 → ∀ b, b < 3 → a ≠ b → (TU a).2.1 ≠ (TU b).2.1 := by decide +kernel
theorem tyU_ok : ∀ k, k < 3 → parseFieldDescriptor (TU k).2.2.1 = some (tyU k) := by decide +kernel
theorem uwU {w0 : Cond} : ∀ w ∈ u_ws "FloatUnit" TU 3, w ∈ w0 :: bigW := by
  intro w hw
  obtain ⟨k, hk, rfl⟩ := List.mem_map.1 hw
  have hk := List.mem_range.1 hk
  refine List.mem_cons_of_mem _ ?_
  rcases (show k = 0 ∨ k = 1 ∨ k = 2 by omega) with rfl | rfl | rfl
  · exact w_21
  · exact w_23
  · exact w_25
def TM : u_T := fun k => match k with
  | 0 => ("FloatUnitModel", "row", "[I", true)
  | 1 => ("FloatUnitModel", "other", "[I", true)
  | 2 => ("FloatUnitModel", "registers", "[J", true)
  | 3 => ("FloatUnitModel", "mode", "I", false)
  | 4 => ("FloatUnitModel", "flags", "I", false)
  | 5 => ("FloatUnitModel", "err", "I", false)
  | 6 => ("FloatUnitModel", "kindX", "I", false)
  | 7 => ("FloatUnitModel", "kindY", "I", false)
  | 8 => ("FloatUnitModel", "signX", "I", false)
  | 9 => ("FloatUnitModel", "signY", "I", false)
  | 10 => ("FloatUnitModel", "powerX", "I", false)
  | 11 => ("FloatUnitModel", "powerY", "I", false)
  | 12 => ("FloatUnitModel", "partX", "J", false)
  | 13 => ("FloatUnitModel", "partY", "J", false)
  | 14 => ("FloatUnitModel", "precision", "I", false)
  | _ => ("FloatUnitModel", "bias", "I", false)
def tyM : Nat → FieldType := fun k => match k with
  | 0 => .array .int
  | 1 => .array .int
  | 2 => .array .long
  | 3 => .int
  | 4 => .int
  | 5 => .int
  | 6 => .int
  | 7 => .int
  | 8 => .int
  | 9 => .int
  | 10 => .int
  | 11 => .int
  | 12 => .long
  | 13 => .long
  | 14 => .int
  | _ => .int
theorem nmM : ∀ a, a < 16 → ∀ b, b < 16 → a ≠ b → (TM a).2.1 ≠ (TM b).2.1 := by decide +kernel
theorem tyM_ok : ∀ k, k < 16 → parseFieldDescriptor (TM k).2.2.1 = some (tyM k) := by decide +kernel
theorem uwM {w0 : Cond} : ∀ w ∈ u_ws "FloatUnitModel" TM 16, w ∈ w0 :: bigW := by
  intro w hw
  obtain ⟨k, hk, rfl⟩ := List.mem_map.1 hw
  have hk := List.mem_range.1 hk
  refine List.mem_cons_of_mem _ ?_
  rcases (show k = 0 ∨ k = 1 ∨ k = 2 ∨ k = 3 ∨ k = 4 ∨ k = 5 ∨ k = 6 ∨ k = 7 ∨ k = 8 ∨ k = 9 ∨ k = 10 ∨ k = 11 ∨ k = 12 ∨ k = 13 ∨ k = 14 ∨ k = 15 by omega) with rfl | rfl | rfl | rfl | rfl | rfl | rfl | rfl | rfl | rfl | rfl | rfl | rfl | rfl | rfl | rfl
  · exact w_372
  · exact w_374
  · exact w_376
  · exact w_378
  · exact w_380
  · exact w_382
  · exact w_384
  · exact w_386
  · exact w_388
  · exact w_390
  · exact w_392
  · exact w_394
  · exact w_396
  · exact w_398
  · exact w_400
  · exact w_402
abbrev clW : List vw_C := [("FloatUnit", TU, 3), ("FloatUnitModel", TM, 16)]
end
section
/-! The unit's object: two cells (object, registers). 'FuM .. av md fl rg ov md1 fl1 rg1': with the arguments av, from mode md, flags fl, registers rg the method answers ov, and the object holds md1, fl1, rg1; nothing else changes. -/
abbrev FUc (h0 r0 : Nat) (cA : ClassId) (md fl : Int32) (rg : Nat → Int64) : va_W := [(h0, .inr (0, [.ref r0, .int md, .int fl])), (r0, .inl (cA, 16, .inr (.inl rg)))]
def fA (h0 r0 : Nat) : Nat → Prop := fun q => q = h0 ∨ q = r0
def FUw (D : va_G) (cA : ClassId) (h0 r0 : Nat) (md fl : Int32) (rg : Nat → Int64) (U : State) (H : Heap) : Prop :=
  va_P D clW (FUc h0 r0 cA md fl rg) H ∧ va_K D clW [(cA, .long)] U ∧ va_D (fA h0 r0) (FUc h0 r0 cA md fl rg)
def FuM (l : Launch) (ad : Nat → Nat) (D : va_G) (cA : ClassId) (h0 r0 : Nat) (y : MethodName) (ws : List Cond) (rm : Room) (av : List Value) (md fl : Int32) (rg : Nat → Int64) (ov : Option Value) (md1 fl1 : Int32) (rg1 : Nat → Int64) : Prop :=
  Met l y ws rm (va_Pc (.ref h0 :: av) (fun U => FUw D cA h0 r0 md fl rg U U.heap ∧ FM ad (fA h0 r0) U U.heap)) (fun _ st oc t => oc = .returned ov ∧ FUw D cA h0 r0 md1 fl1 rg1 t t.heap ∧ va_F (fA h0 r0) st t) 0 0 (fA h0 r0)
section FU
variable {p : Program} {l : Launch} {e : Env} {R : Room} {s : State} {m : MethodId} {args : Array Value} {below : List Frame} {meth : Method} {c : Code} {H : Heap} {locs : List Loc} {cells slots : Nat} {Q : State → Prop}
variable {w0 : Cond} {Ts ws ws' : List Cond} {cc bytes : ByteArray} {nL maxL index n : Nat} {own ref : String} {y : MethodName} {ret : Option FieldType} {rm : Room} {As av rest st : List Value} {pc : Nat} {ls : Array Slot} {ad : Nat → Nat}
variable {D : va_G} {cA : ClassId} {h0 r0 : Nat} {md fl md1 fl1 : Int32} {rg rg1 : Nat → Int64} {ov : Option Value} {H0 : Heap}
theorem fuw_moved {u U : State} (hvm : u.vm.Alike U.vm) (h : FUw D cA h0 r0 md fl rg u H) : FUw D cA h0 r0 md fl rg U H := ⟨h.1, va_K.moved hvm h.2.1, h.2.2⟩
theorem fu_md (hx : p.tables.exec = Jvm.exec) (hb : c.code = cc) (hts : ∀ w ∈ (w0 :: bigW), w.before args s = true) (hown : s.vm.findClass own = some m.cls) (hw : FUw D cA h0 r0 md fl rg s H) (hlink : Cond.fieldLink own index "FloatUnit" "currentMode" "I" ∈ bigW) (hdg : decode cc pc = .ok (.getfield index, 3))
    (kk : W p l e R s m args below meth c H locs cells slots Q (F0 m (pc + 3) ls (.int md :: rest))) : W p l e R s m args below meth c H locs cells slots Q (F0 m pc ls (.ref h0 :: rest)) :=
  va_get (D := D) (ci := 0) (C := "FloatUnit") (T := TU) (N := 3) hx hb hts uwU hown hw.2.1 hw.1 0 rfl rfl 1 (by decide) (hts _ (List.mem_cons_of_mem _ hlink)) (fun _ h => h) rfl hdg kk
theorem fu_fl (hx : p.tables.exec = Jvm.exec) (hb : c.code = cc) (hts : ∀ w ∈ (w0 :: bigW), w.before args s = true) (hown : s.vm.findClass own = some m.cls) (hw : FUw D cA h0 r0 md fl rg s H) (hlink : Cond.fieldLink own index "FloatUnit" "raised" "I" ∈ bigW) (hdg : decode cc pc = .ok (.getfield index, 3))
    (kk : W p l e R s m args below meth c H locs cells slots Q (F0 m (pc + 3) ls (.int fl :: rest))) : W p l e R s m args below meth c H locs cells slots Q (F0 m pc ls (.ref h0 :: rest)) :=
  va_get (D := D) (ci := 0) (C := "FloatUnit") (T := TU) (N := 3) hx hb hts uwU hown hw.2.1 hw.1 0 rfl rfl 2 (by decide) (hts _ (List.mem_cons_of_mem _ hlink)) (fun _ h => h) rfl hdg kk
theorem fu_rg (hx : p.tables.exec = Jvm.exec) (hb : c.code = cc) (hts : ∀ w ∈ (w0 :: bigW), w.before args s = true) (hown : s.vm.findClass own = some m.cls) (hw : FUw D cA h0 r0 md fl rg s H) (hlink : Cond.fieldLink own index "FloatUnit" "registers" "[J" ∈ bigW) (hdg : decode cc pc = .ok (.getfield index, 3))
    (kk : W p l e R s m args below meth c H locs cells slots Q (F0 m (pc + 3) ls (.ref r0 :: rest))) : W p l e R s m args below meth c H locs cells slots Q (F0 m pc ls (.ref h0 :: rest)) :=
  va_get (D := D) (ci := 0) (C := "FloatUnit") (T := TU) (N := 3) hx hb hts uwU hown hw.2.1 hw.1 0 rfl rfl 0 (by decide) (hts _ (List.mem_cons_of_mem _ hlink)) (fun _ h => h) rfl hdg kk
theorem fu_pfl (hx : p.tables.exec = Jvm.exec) (hb : c.code = cc) (hts : ∀ w ∈ (w0 :: bigW), w.before args s = true) (hown : s.vm.findClass own = some m.cls) (hw : FUw D cA h0 r0 md fl rg s H) (hS : va_S (fA h0 r0) H0 H locs) (hlink : Cond.fieldLink own index "FloatUnit" "raised" "I" ∈ bigW) {v : Int32} (hdg : decode cc pc = .ok (.putfield index, 3))
    (kk : ∀ (H1 : Heap) (locs1 : List Loc), FUw D cA h0 r0 md v rg s H1 → va_S (fA h0 r0) H0 H1 locs1 → W p l e R s m args below meth c H1 locs1 cells slots Q (F0 m (pc + 3) ls rest)) : W p l e R s m args below meth c H locs cells slots Q (F0 m pc ls (.int v :: .ref h0 :: rest)) :=
  va_put (D := D) (ci := 0) (C := "FloatUnit") (T := TU) (N := 3) (ty := .int) hx hb hts uwU tyU tyU_ok nmU hown hw.2.1 hw.1 hw.2.2 hS 0 rfl rfl 2 (by decide) (hts _ (List.mem_cons_of_mem _ hlink)) (fun _ h => h) rfl (by decide +kernel) rfl rfl (Nat.le_of_ble_eq_true rfl) hdg (fun H1 locs1 hP hD hS => kk H1 locs1 ⟨hP, hw.2.1, hD⟩ hS)
theorem fu_pmd (hx : p.tables.exec = Jvm.exec) (hb : c.code = cc) (hts : ∀ w ∈ (w0 :: bigW), w.before args s = true) (hown : s.vm.findClass own = some m.cls) (hw : FUw D cA h0 r0 md fl rg s H) (hS : va_S (fA h0 r0) H0 H locs) (hlink : Cond.fieldLink own index "FloatUnit" "currentMode" "I" ∈ bigW) {v : Int32} (hdg : decode cc pc = .ok (.putfield index, 3))
    (kk : ∀ (H1 : Heap) (locs1 : List Loc), FUw D cA h0 r0 v fl rg s H1 → va_S (fA h0 r0) H0 H1 locs1 → W p l e R s m args below meth c H1 locs1 cells slots Q (F0 m (pc + 3) ls rest)) : W p l e R s m args below meth c H locs cells slots Q (F0 m pc ls (.int v :: .ref h0 :: rest)) :=
  va_put (D := D) (ci := 0) (C := "FloatUnit") (T := TU) (N := 3) (ty := .int) hx hb hts uwU tyU tyU_ok nmU hown hw.2.1 hw.1 hw.2.2 hS 0 rfl rfl 1 (by decide) (hts _ (List.mem_cons_of_mem _ hlink)) (fun _ h => h) rfl (by decide +kernel) rfl rfl (Nat.le_of_ble_eq_true rfl) hdg (fun H1 locs1 hP hD hS => kk H1 locs1 ⟨hP, hw.2.1, hD⟩ hS)
theorem fu_ld (hx : p.tables.exec = Jvm.exec) (hb : c.code = cc) (hw : FUw D cA h0 r0 md fl rg s H) {i : Int32} (hin : vp_in i 16) (hdg : decode cc pc = .ok (.laload, 1))
    (kk : W p l e R s m args below meth c H locs cells slots Q (F0 m (pc + 1) ls (.long (rg i.toNatClampNeg) :: rest))) : W p l e R s m args below meth c H locs cells slots Q (F0 m pc ls (.int i :: .ref r0 :: rest)) :=
  va_lald (D := D) (cl := clW) hx hb hw.2.1 hw.1 1 0 rfl rfl hin hdg kk
theorem fu_st (hx : p.tables.exec = Jvm.exec) (hb : c.code = cc) (hw : FUw D cA h0 r0 md fl rg s H) (hS : va_S (fA h0 r0) H0 H locs) {i : Int32} {x : Int64} (hin : vp_in i 16) (hdg : decode cc pc = .ok (.lastore, 1))
    (kk : ∀ (H1 : Heap) (locs1 : List Loc), FUw D cA h0 r0 md fl (vp_updL rg i.toNatClampNeg x) s H1 → va_S (fA h0 r0) H0 H1 locs1 → W p l e R s m args below meth c H1 locs1 cells slots Q (F0 m (pc + 1) ls rest)) : W p l e R s m args below meth c H locs cells slots Q (F0 m pc ls (.long x :: .int i :: .ref r0 :: rest)) :=
  va_last (D := D) (cl := clW) hx hb hw.2.1 hw.1 hw.2.2 hS 1 0 rfl rfl hin hdg (fun H1 locs1 hP hD hS => kk H1 locs1 ⟨hP, hw.2.1, hD⟩ hS)
theorem fu_go {Qa : State → Outcome → State → Prop} (hr : va_Run p l e R s m args below meth c H locs cells slots 0 0 (F0 m pc ls st) rest Qa (fA h0 r0)) (hq : ∀ st oc t, Qa st oc t → oc = .returned ov ∧ FUw D cA h0 r0 md1 fl1 rg1 t t.heap ∧ va_F (fA h0 r0) st t) (hS : va_S (fA h0 r0) H0 H locs)
    (kk : ∀ (H1 : Heap) (locs1 : List Loc), FUw D cA h0 r0 md1 fl1 rg1 s H1 → va_S (fA h0 r0) H0 H1 locs1 → W p l e R s m args below meth c H1 locs1 cells slots Q (F0 m (pc + 3) ls (ov.toList ++ rest))) : W p l e R s m args below meth c H locs cells slots Q (F0 m pc ls st) := by
  intro T hT X
  obtain ⟨v, st₀, t, T', L, g0, X', hL, e1, e2, hqa, sg⟩ := hr T hT X
  obtain ⟨hv, hw, hz, hk⟩ := hq _ _ _ hqa
  cases hv
  rw [g0] at hz hk
  have ha : s.vm.Alike t.vm := by rw [← e2]; exact X'.warmed.alike
  obtain ⟨t2, a1, b1⟩ := kk T'.heap (locs ++ L) (by rw [e1]; exact fuw_moved ha.symm hw)
    ⟨Nat.le_trans hS.1 (by rw [e1]; exact hz), fun q h1 h2 => by rw [e1, hk q (Nat.lt_of_lt_of_le h1 hS.1) h2]; exact hS.2.1 q h1 h2, fun q hq => by
      rcases List.mem_append.mp hq with h | h
      · exact hS.2.2 q h
      · exact hL q h⟩ T' rfl X'
  exact ⟨t2, sg t2 a1, b1⟩
theorem fu_V (S : CallFix p m c cc nL s args Ts own) (hM : FuM l ad D cA h0 r0 y ws rm As md fl rg ov md1 fl1 rg1) (cw : CallW R s args own "FloatUnit" index y bytes maxL ret ws rm 0 0 n) (hF : FM ad (fA h0 r0) s s.heap) (hw : FUw D cA h0 r0 md fl rg s H) (hS : va_S (fA h0 r0) s.heap H locs)
    (hn : As.length = n) (hsize : ls.size = nL) (hstack : st = As.reverse ++ .ref h0 :: rest) (hW : (rest.map fun v => v.category).sum ≤ 8) (hdg : decode cc pc = .ok (.invokevirtual index, 3)) (hf : cells ≤ R.cells ∧ slots ≤ R.slots)
    (kk : ∀ (H1 : Heap) (locs1 : List Loc), FUw D cA h0 r0 md1 fl1 rg1 s H1 → va_S (fA h0 r0) s.heap H1 locs1 → W p l e R s m args below meth c H1 locs1 cells slots Q (F0 m (pc + 3) ls (ov.toList ++ rest))) : W p l e R s m args below meth c H locs cells slots Q (F0 m pc ls st) :=
  fu_go (va_runV (g := F0 m pc ls st) (mc := 0) (ms := 0) S hM cw
    ⟨fun a U g mk q => ⟨q.1, fuw_moved (u := U) (U := U.calling g mk a) (Vm.Alike.refl U.vm) q.2.1, fm_same (u := U) (U := U.calling g mk a) rfl q.2.2⟩, va_recv hw.2.1 hw.1 rfl (q0 := 0) rfl,
      fun U hU hWm => ⟨rfl, by rw [hU]; exact fuw_moved hWm.alike hw, by rw [hU]; exact fm_warm hWm (fm_kept hF hS.2.1)⟩⟩ rfl hn hsize hstack (lv_room hW) hdg hf) (fun _ _ _ h => h) hS kk
end FU
section FUof
variable {l : Launch} {ad : Nat → Nat} {D : va_G} {cA : ClassId} {h0 r0 : Nat} {y : MethodName} {ws ws' : List Cond} {rm : Room} {av : List Value} {md fl md1 fl1 : Int32} {rg rg1 : Nat → Int64} {cc : ByteArray} {maxL : Nat}
theorem fu_ofL {r : Int64} (hy : plainName y.cls = true) (hw : ws = Cond.code y cc maxL (some .long) :: ws') (hn : (lg_sl (.ref h0 :: av)).length ≤ maxL)
    (body : ∀ (p : Program) (e : Env) (s : State) (m : MethodId) (args : Array Value) (below : List Frame) (meth : Method) (c : Code) (Q : State → Prop), p.tables.exec = Jvm.exec → c.code = cc → c.maxLocals = maxL → s.vm.findClass y.cls = some m.cls → (∀ w ∈ ws, w.before args s = true) → FM ad (fA h0 r0) s s.heap → ∀ (H : Heap) (locs : List Loc), va_S (fA h0 r0) s.heap H locs → FUw D cA h0 r0 md fl rg s H →
      (∀ (pc : Nat) (ls : Array Slot) (v : Int64) (md2 fl2 : Int32) (rg2 : Nat → Int64) (H : Heap) (locs : List Loc), v = r → md2 = md1 → fl2 = fl1 → rg2 = rg1 → FUw D cA h0 r0 md2 fl2 rg2 s H → va_S (fA h0 r0) s.heap H locs → decode cc pc = .ok (.lreturn, 1) → W p l e rm s m args below meth c H locs 0 0 Q (F0 m pc ls [.long v])) → ∀ ls : Array Slot, lv_has ls maxL (lv_args 0 (.ref h0 :: av)) → W p l e rm s m args below meth c H locs 0 0 Q (F0 m 0 ls [])) :
    FuM l ad D cA h0 r0 y ws rm av md fl rg (some (.long r)) md1 fl1 rg1 := by
  refine Met.ofW (cc := cc) (maxL := maxL) (ret := some .long) hy hw ?_
  intro p e s m args below meth c s₁ B hml hv
  obtain ⟨rfl, hh, hF⟩ := hv
  rw [lg_entry_eq]
  exact body p e s m _ below meth c _ B.exec B.bytes hml (findClass_of_methodNamed B.named) (atoms_spec B.pre) hF s.heap [] va_S.rf hh (fun pc ls v md2 fl2 rg2 H locs hv e1 e2 e3 hw hS hd => by subst hv e1 e2 e3; exact W.lret B.exec B.bytes B.returns (fun t ht hW => ⟨rfl, by rw [ht]; exact fuw_moved hW.alike hw, hS.F ht⟩) hS.2.2 hd B.notSynchronized) _ (lv_entry _ hn)
theorem fu_ofI {r : Int32} (hy : plainName y.cls = true) (hw : ws = Cond.code y cc maxL (some .int) :: ws') (hn : (lg_sl (.ref h0 :: av)).length ≤ maxL)
    (body : ∀ (p : Program) (e : Env) (s : State) (m : MethodId) (args : Array Value) (below : List Frame) (meth : Method) (c : Code) (Q : State → Prop), p.tables.exec = Jvm.exec → c.code = cc → c.maxLocals = maxL → s.vm.findClass y.cls = some m.cls → (∀ w ∈ ws, w.before args s = true) → FM ad (fA h0 r0) s s.heap → ∀ (H : Heap) (locs : List Loc), va_S (fA h0 r0) s.heap H locs → FUw D cA h0 r0 md fl rg s H →
      (∀ (pc : Nat) (ls : Array Slot) (v : Int32) (md2 fl2 : Int32) (rg2 : Nat → Int64) (H : Heap) (locs : List Loc), v = r → md2 = md1 → fl2 = fl1 → rg2 = rg1 → FUw D cA h0 r0 md2 fl2 rg2 s H → va_S (fA h0 r0) s.heap H locs → decode cc pc = .ok (.ireturn, 1) → W p l e rm s m args below meth c H locs 0 0 Q (F0 m pc ls [.int v])) → ∀ ls : Array Slot, lv_has ls maxL (lv_args 0 (.ref h0 :: av)) → W p l e rm s m args below meth c H locs 0 0 Q (F0 m 0 ls [])) :
    FuM l ad D cA h0 r0 y ws rm av md fl rg (some (.int r)) md1 fl1 rg1 := by
  refine Met.ofW (cc := cc) (maxL := maxL) (ret := some .int) hy hw ?_
  intro p e s m args below meth c s₁ B hml hv
  obtain ⟨rfl, hh, hF⟩ := hv
  rw [lg_entry_eq]
  exact body p e s m _ below meth c _ B.exec B.bytes hml (findClass_of_methodNamed B.named) (atoms_spec B.pre) hF s.heap [] va_S.rf hh (fun pc ls v md2 fl2 rg2 H locs hv e1 e2 e3 hw hS hd => by subst hv e1 e2 e3; exact W.iret B.exec B.bytes B.returns (fun t ht hW => ⟨rfl, by rw [ht]; exact fuw_moved hW.alike hw, hS.F ht⟩) hS.2.2 hd B.notSynchronized) _ (lv_entry _ hn)
theorem fu_ofZ {r : Bool} (hy : plainName y.cls = true) (hw : ws = Cond.code y cc maxL (some .boolean) :: ws') (hn : (lg_sl (.ref h0 :: av)).length ≤ maxL)
    (body : ∀ (p : Program) (e : Env) (s : State) (m : MethodId) (args : Array Value) (below : List Frame) (meth : Method) (c : Code) (Q : State → Prop), p.tables.exec = Jvm.exec → c.code = cc → c.maxLocals = maxL → s.vm.findClass y.cls = some m.cls → (∀ w ∈ ws, w.before args s = true) → FM ad (fA h0 r0) s s.heap → ∀ (H : Heap) (locs : List Loc), va_S (fA h0 r0) s.heap H locs → FUw D cA h0 r0 md fl rg s H →
      (∀ (pc : Nat) (ls : Array Slot) (v : Int32) (md2 fl2 : Int32) (rg2 : Nat → Int64) (H : Heap) (locs : List Loc), v = bI r → md2 = md1 → fl2 = fl1 → rg2 = rg1 → FUw D cA h0 r0 md2 fl2 rg2 s H → va_S (fA h0 r0) s.heap H locs → decode cc pc = .ok (.ireturn, 1) → W p l e rm s m args below meth c H locs 0 0 Q (F0 m pc ls [.int v])) → ∀ ls : Array Slot, lv_has ls maxL (lv_args 0 (.ref h0 :: av)) → W p l e rm s m args below meth c H locs 0 0 Q (F0 m 0 ls [])) :
    FuM l ad D cA h0 r0 y ws rm av md fl rg (some (.int (bI r))) md1 fl1 rg1 := by
  refine Met.ofW (cc := cc) (maxL := maxL) (ret := some .boolean) hy hw ?_
  intro p e s m args below meth c s₁ B hml hv
  obtain ⟨rfl, hh, hF⟩ := hv
  rw [lg_entry_eq]
  exact body p e s m _ below meth c _ B.exec B.bytes hml (findClass_of_methodNamed B.named) (atoms_spec B.pre) hF s.heap [] va_S.rf hh (fun pc ls v md2 fl2 rg2 H locs hv e1 e2 e3 hw hS hd => by subst hv e1 e2 e3; exact W.zret B.exec B.bytes B.returns (bI_narrow r) (fun t ht hW => ⟨rfl, by rw [ht]; exact fuw_moved hW.alike hw, hS.F ht⟩) hS.2.2 hd B.notSynchronized) _ (lv_entry _ hn)
theorem fu_ofV (hy : plainName y.cls = true) (hw : ws = Cond.code y cc maxL none :: ws') (hn : (lg_sl (.ref h0 :: av)).length ≤ maxL)
    (body : ∀ (p : Program) (e : Env) (s : State) (m : MethodId) (args : Array Value) (below : List Frame) (meth : Method) (c : Code) (Q : State → Prop), p.tables.exec = Jvm.exec → c.code = cc → c.maxLocals = maxL → s.vm.findClass y.cls = some m.cls → (∀ w ∈ ws, w.before args s = true) → FM ad (fA h0 r0) s s.heap → ∀ (H : Heap) (locs : List Loc), va_S (fA h0 r0) s.heap H locs → FUw D cA h0 r0 md fl rg s H →
      (∀ (pc : Nat) (ls : Array Slot) (md2 fl2 : Int32) (rg2 : Nat → Int64) (H : Heap) (locs : List Loc), md2 = md1 → fl2 = fl1 → rg2 = rg1 → FUw D cA h0 r0 md2 fl2 rg2 s H → va_S (fA h0 r0) s.heap H locs → decode cc pc = .ok (.return_, 1) → W p l e rm s m args below meth c H locs 0 0 Q (F0 m pc ls [])) → ∀ ls : Array Slot, lv_has ls maxL (lv_args 0 (.ref h0 :: av)) → W p l e rm s m args below meth c H locs 0 0 Q (F0 m 0 ls [])) :
    FuM l ad D cA h0 r0 y ws rm av md fl rg none md1 fl1 rg1 := by
  refine Met.ofW (cc := cc) (maxL := maxL) (ret := none) hy hw ?_
  intro p e s m args below meth c s₁ B hml hv
  obtain ⟨rfl, hh, hF⟩ := hv
  rw [lg_entry_eq]
  exact body p e s m _ below meth c _ B.exec B.bytes hml (findClass_of_methodNamed B.named) (atoms_spec B.pre) hF s.heap [] va_S.rf hh (fun pc ls md2 fl2 rg2 H locs e1 e2 e3 hw hS hd => by subst e1 e2 e3; exact W.vret B.exec B.bytes B.returns (fun t ht hW => ⟨rfl, by rw [ht]; exact fuw_moved hW.alike hw, hS.F ht⟩) hS.2.2 hd B.notSynchronized) _ (lv_entry _ hn)
end FUof
end
section
/-! Methods of the unit that change flags alone (by program). -/
theorem sw3 {x : Int32} (h0 : ¬ x = 0) (h1 : ¬ x = 1) (h2 : ¬ x = 2) : x.toInt < 0 ∨ 2 < x.toInt := by
  obtain ⟨z, hz, rfl⟩ := iI_of x
  have g0 : ¬ z = 0 := fun q => h0 (by rw [q]; rfl)
  have g1 : ¬ z = 1 := fun q => h1 (by rw [q]; rfl)
  have g2 : ¬ z = 2 := fun q => h2 (by rw [q]; rfl)
  rw [iI_toInt hz]
  omega
theorem sw4 {x : Int32} (h0 : ¬ x = 0) (h1 : ¬ x = 1) (h2 : ¬ x = 2) (h3 : ¬ x = 3) : x.toInt < 0 ∨ 3 < x.toInt := by
  obtain ⟨z, hz, rfl⟩ := iI_of x
  have g0 : ¬ z = 0 := fun q => h0 (by rw [q]; rfl)
  have g1 : ¬ z = 1 := fun q => h1 (by rw [q]; rfl)
  have g2 : ¬ z = 2 := fun q => h2 (by rw [q]; rfl)
  have g3 : ¬ z = 3 := fun q => h3 (by rw [q]; rfl)
  rw [iI_toInt hz]
  omega
def C_U_raise (md : Int32) (fl : Int32) (k1 : Int32) : Int32 :=
  fl ||| k1
abbrev rmU_raise : Room := { frames := 0, cells := 0, slots := 0, locals := 0 }
theorem cwU_raise {R : Room} {s : State} {args : Array Value} {w0 : Cond} {own : String} {idx : Nat} (hts : ∀ w ∈ (w0 :: bigW), w.before args s = true) (hl : Cond.methodLink own idx yU_raise ∈ bigW) (hR : rmU_raise.frames + 1 ≤ R.frames ∧ 8 + (2 + 11) + rmU_raise.locals ≤ R.locals) : CallW R s args own "FloatUnit" idx yU_raise cU_raise 2 none (wsM yU_raise cU_raise 2 none) rmU_raise 0 0 1 :=
  cwV 1 hts (big_V hl w_178 sel_U_raise w_1 w_179) rfl rfl rfl ⟨rfl, by decide, by decide, by decide +kernel⟩ hR
set_option maxRecDepth 100000 in
set_option maxHeartbeats 8000000 in
theorem c_U_raise (l : Launch) (ad : Nat → Nat) (D : va_G) (cA : ClassId) (h0 r0 : Nat) (md fl : Int32) (rg : Nat → Int64) (k1 : Int32) : FuM l ad D cA h0 r0 yU_raise (wsM yU_raise cU_raise 2 none) rmU_raise [.int k1] md fl rg none md (C_U_raise md fl k1) rg := by
  refine fu_ofV (cc := cU_raise) (maxL := 2) (by decide) rfl (Nat.le_of_ble_eq_true rfl) ?_
  intro p e s m args below meth c Q hx hb hml hown hts hF H locs hS hw hret ls hl
  have hl : lv_has ls 2 [(0, .ref h0), (1, .int k1)] := hl
  refine lv_aload_n (pc := 0) hx hb dU_raise_0 rfl (lv_at hl 0 rfl) ?_
  refine lv_dup (pc := 1) hx hb dU_raise_1 rfl ?_
  refine fu_fl (pc := 2) hx hb hts hown hw w_20 dU_raise_2 ?_
  refine lv_iload_n (pc := 5) hx hb dU_raise_5 rfl (lv_at hl 1 rfl) ?_
  refine lv_ior (pc := 6) hx hb dU_raise_6 ?_
  refine fu_pfl (pc := 7) hx hb hts hown hw hS w_20 dU_raise_7 (fun H locs hw hS => ?_)
  exact hret _ _ _ _ _ _ _ rfl ((show fl ||| k1 = C_U_raise md fl k1 from by rw [C_U_raise])) rfl hw hS dU_raise_10
def C_U_invalid (md : Int32) (fl : Int32) (i : Nat) : Int64 × Int32 :=
  (C_F_none i, C_U_raise md fl 16)
abbrev rmU_invalid : Room := { frames := 1, cells := 0, slots := 0, locals := 21 }
theorem cwU_invalid {R : Room} {s : State} {args : Array Value} {w0 : Cond} {own : String} {idx : Nat} (hts : ∀ w ∈ (w0 :: bigW), w.before args s = true) (hl : Cond.methodLink own idx yU_invalid ∈ bigW) (hR : rmU_invalid.frames + 1 ≤ R.frames ∧ 8 + (2 + 11) + rmU_invalid.locals ≤ R.locals) : CallW R s args own "FloatUnit" idx yU_invalid cU_invalid 2 (some .long) (wsM yU_invalid cU_invalid 2 (some .long)) rmU_invalid 0 0 1 :=
  cwV 1 hts (big_V hl w_174 sel_U_invalid w_1 w_175) rfl rfl rfl ⟨rfl, by decide, by decide, by decide +kernel⟩ hR
set_option maxRecDepth 100000 in
set_option maxHeartbeats 8000000 in
theorem c_U_invalid (l : Launch) (ad : Nat → Nat) (D : va_G) (cA : ClassId) (h0 r0 : Nat) {i : Nat} (hi : i < 2) (md fl : Int32) (rg : Nat → Int64) : FuM l ad D cA h0 r0 yU_invalid (wsM yU_invalid cU_invalid 2 (some .long)) rmU_invalid [.ref (ad i)] md fl rg (some (.long ((C_U_invalid md fl i).1))) md (C_U_invalid md fl i).2 rg := by
  refine fu_ofL (cc := cU_invalid) (maxL := 2) (by decide) rfl (Nat.le_of_ble_eq_true rfl) ?_
  intro p e s m args below meth c Q hx hb hml hown hts hF H locs hS hw hret ls hl
  have hl : lv_has ls 2 [(0, .ref h0), (1, .ref (ad i))] := hl
  refine lv_aload_n (pc := 0) hx hb dU_invalid_0 rfl (lv_at hl 0 rfl) ?_
  refine lv_bipush (v := 16) (pc := 1) hx hb dU_invalid_1 (by decide) ?_
  refine fu_V (pc := 3) (rest := []) ⟨hx, hb, hml, hown, hts⟩ (c_U_raise l ad D cA h0 r0  md fl rg 16) (cwU_raise hts w_176 ⟨by decide, by decide⟩) hF hw hS rfl hl.1 rfl (Nat.le_of_ble_eq_true rfl) dU_invalid_3 ⟨Nat.zero_le _, Nat.zero_le _⟩ (fun H locs hw hS => ?_)
  refine W.eq (g2 := F0 m 6 ls []) rfl ?_
  refine lv_aload_n (pc := 6) hx hb dU_invalid_6 rfl (lv_at hl 1 rfl) ?_
  refine pu_V (pc := 7) (i := i) (rest := []) ⟨hx, hb, hml, hown, hts⟩ hi (c_F_none l ad hi) (cwF_none hts w_156 ⟨by decide, by decide⟩) hF hS rfl hl.1 rfl (Nat.le_of_ble_eq_true rfl) dU_invalid_7 ⟨Nat.zero_le _, Nat.zero_le _⟩ ?_
  have he9 := (show (C_F_none i, C_U_raise md fl 16) = C_U_invalid md fl i from by rw [C_U_invalid])
  exact hret _ _ _ _ _ _ _ _ (congrArg Prod.fst he9) rfl (congrArg Prod.snd he9) rfl hw hS dU_invalid_10
def C_U_goesAwayFromZero (md : Int32) (fl : Int32) (z1 : Bool) (x2 : Int64) (x3 : Int64) (x4 : Int64) : Bool :=
  if md = 0 then
    if x4 < x3 then
      true
    else
      if x3 = x4 then
        if (x2 &&& 1) = 0 then
          false
        else
          true
      else
        false
  else
    if md = 1 then
      false
    else
      if md = 2 then
        if x3 = 0 then
          false
        else
          if z1 = false then
            true
          else
            false
      else
        if x3 = 0 then
          false
        else
          if z1 = false then
            false
          else
            true
abbrev rmU_goesAwayFromZero : Room := { frames := 0, cells := 0, slots := 0, locals := 0 }
theorem cwU_goesAwayFromZero {R : Room} {s : State} {args : Array Value} {w0 : Cond} {own : String} {idx : Nat} (hts : ∀ w ∈ (w0 :: bigW), w.before args s = true) (hl : Cond.methodLink own idx yU_goesAwayFromZero ∈ bigW) (hR : rmU_goesAwayFromZero.frames + 1 ≤ R.frames ∧ 8 + (8 + 11) + rmU_goesAwayFromZero.locals ≤ R.locals) : CallW R s args own "FloatUnit" idx yU_goesAwayFromZero cU_goesAwayFromZero 8 (some .boolean) (wsM yU_goesAwayFromZero cU_goesAwayFromZero 8 (some .boolean)) rmU_goesAwayFromZero 0 0 4 :=
  cwV 4 hts (big_V hl w_241 sel_U_goesAwayFromZero w_1 w_242) rfl rfl rfl ⟨rfl, by decide, by decide, by decide +kernel⟩ hR
set_option maxRecDepth 100000 in
set_option maxHeartbeats 8000000 in
theorem c_U_goesAwayFromZero (l : Launch) (ad : Nat → Nat) (D : va_G) (cA : ClassId) (h0 r0 : Nat) (md fl : Int32) (rg : Nat → Int64) (z1 : Bool) (x2 : Int64) (x3 : Int64) (x4 : Int64) : FuM l ad D cA h0 r0 yU_goesAwayFromZero (wsM yU_goesAwayFromZero cU_goesAwayFromZero 8 (some .boolean)) rmU_goesAwayFromZero [.int (bI z1), .long x2, .long x3, .long x4] md fl rg (some (.int (bI (C_U_goesAwayFromZero md fl z1 x2 x3 x4)))) md fl rg := by
  refine fu_ofZ (cc := cU_goesAwayFromZero) (maxL := 8) (by decide) rfl (Nat.le_of_ble_eq_true rfl) ?_
  intro p e s m args below meth c Q hx hb hml hown hts hF H locs hS hw hret ls hl
  have hl : lv_has ls 8 [(0, .ref h0), (1, .int (bI z1)), (2, .long x2), (4, .long x3), (6, .long x4)] := hl
  refine lv_aload_n (pc := 0) hx hb dU_goesAwayFromZero_0 rfl (lv_at hl 0 rfl) ?_
  refine fu_md (pc := 1) hx hb hts hown hw w_19 dU_goesAwayFromZero_1 ?_
  by_cases h1 : md = 0
  · refine lv_tableIn (off := 28) (tgt := 32) (pc := 4) hx hb dU_goesAwayFromZero_4 (by rw [h1]; decide) (by rw [h1]; decide) (by rw [h1]; decide) (by decide) ?_
    refine lv_lload (pc := 32) hx hb dU_goesAwayFromZero_32 (lv_at hl 3 rfl) ?_
    refine lv_lload (pc := 34) hx hb dU_goesAwayFromZero_34 (lv_at hl 4 rfl) ?_
    refine W.lcmp (pc := 36) hx hb dU_goesAwayFromZero_36 ?_
    refine lv_if_gt (tgt := 56) (pc := 37) hx hb dU_goesAwayFromZero_37 (by decide) (fun h2 => ?_) (fun h2 => ?_)
    · skip
      have h2 : x4 < x3 := (lg_cmp_gt _ _).1 h2
      refine lv_iconst (v := 1) (pc := 56) hx hb dU_goesAwayFromZero_56 (by decide) ?_
      refine lv_goto (tgt := 61) (pc := 57) hx hb dU_goesAwayFromZero_57 (by decide) ?_
      exact hret _ _ _ _ _ _ _ _ (congrArg bI ((show true = C_U_goesAwayFromZero md fl z1 x2 x3 x4 from by rw [C_U_goesAwayFromZero, if_pos h1, if_pos h2]))) rfl rfl rfl hw hS dU_goesAwayFromZero_61
    · skip
      have h2 : ¬ (x4 < x3) := fun q => h2 ((lg_cmp_gt _ _).2 q)
      refine lv_lload (pc := 40) hx hb dU_goesAwayFromZero_40 (lv_at hl 3 rfl) ?_
      refine lv_lload (pc := 42) hx hb dU_goesAwayFromZero_42 (lv_at hl 4 rfl) ?_
      refine W.lcmp (pc := 44) hx hb dU_goesAwayFromZero_44 ?_
      refine lv_if_ne (tgt := 60) (pc := 45) hx hb dU_goesAwayFromZero_45 (by decide) (fun h3 => ?_) (fun h3 => ?_)
      · skip
        have h3 : ¬ (x3 = x4) := fun q => h3 ((lg_cmp_eq _ _).2 q)
        refine lv_iconst (v := 0) (pc := 60) hx hb dU_goesAwayFromZero_60 (by decide) ?_
        exact hret _ _ _ _ _ _ _ _ (congrArg bI ((show false = C_U_goesAwayFromZero md fl z1 x2 x3 x4 from by rw [C_U_goesAwayFromZero, if_pos h1, if_neg h2, if_neg h3]))) rfl rfl rfl hw hS dU_goesAwayFromZero_61
      · skip
        have h3 : x3 = x4 := (lg_cmp_eq _ _).1 h3
        refine lv_lload_n (pc := 48) hx hb dU_goesAwayFromZero_48 rfl (lv_at hl 2 rfl) ?_
        refine lv_lconst (v := 1) (pc := 49) hx hb dU_goesAwayFromZero_49 (by decide) ?_
        refine lv_land (pc := 50) hx hb dU_goesAwayFromZero_50 ?_
        refine lv_lconst (v := 0) (pc := 51) hx hb dU_goesAwayFromZero_51 (by decide) ?_
        refine W.lcmp (pc := 52) hx hb dU_goesAwayFromZero_52 ?_
        refine lv_if_eq (tgt := 60) (pc := 53) hx hb dU_goesAwayFromZero_53 (by decide) (fun h4 => ?_) (fun h4 => ?_)
        · skip
          have h4 : (x2 &&& 1) = 0 := (lg_cmp_eq _ _).1 h4
          refine lv_iconst (v := 0) (pc := 60) hx hb dU_goesAwayFromZero_60 (by decide) ?_
          exact hret _ _ _ _ _ _ _ _ (congrArg bI ((show false = C_U_goesAwayFromZero md fl z1 x2 x3 x4 from by rw [C_U_goesAwayFromZero, if_pos h1, if_neg h2, if_pos h3, if_pos h4]))) rfl rfl rfl hw hS dU_goesAwayFromZero_61
        · skip
          have h4 : ¬ ((x2 &&& 1) = 0) := fun q => h4 ((lg_cmp_eq _ _).2 q)
          refine lv_iconst (v := 1) (pc := 56) hx hb dU_goesAwayFromZero_56 (by decide) ?_
          refine lv_goto (tgt := 61) (pc := 57) hx hb dU_goesAwayFromZero_57 (by decide) ?_
          exact hret _ _ _ _ _ _ _ _ (congrArg bI ((show true = C_U_goesAwayFromZero md fl z1 x2 x3 x4 from by rw [C_U_goesAwayFromZero, if_pos h1, if_neg h2, if_pos h3, if_neg h4]))) rfl rfl rfl hw hS dU_goesAwayFromZero_61
  · skip
    by_cases h5 : md = 1
    · refine lv_tableIn (off := 58) (tgt := 62) (pc := 4) hx hb dU_goesAwayFromZero_4 (by rw [h5]; decide) (by rw [h5]; decide) (by rw [h5]; decide) (by decide) ?_
      refine lv_iconst (v := 0) (pc := 62) hx hb dU_goesAwayFromZero_62 (by decide) ?_
      exact hret _ _ _ _ _ _ _ _ (congrArg bI ((show false = C_U_goesAwayFromZero md fl z1 x2 x3 x4 from by rw [C_U_goesAwayFromZero, if_neg h1, if_pos h5]))) rfl rfl rfl hw hS dU_goesAwayFromZero_63
    · skip
      by_cases h6 : md = 2
      · refine lv_tableIn (off := 60) (tgt := 64) (pc := 4) hx hb dU_goesAwayFromZero_4 (by rw [h6]; decide) (by rw [h6]; decide) (by rw [h6]; decide) (by decide) ?_
        refine lv_lload (pc := 64) hx hb dU_goesAwayFromZero_64 (lv_at hl 3 rfl) ?_
        refine lv_lconst (v := 0) (pc := 66) hx hb dU_goesAwayFromZero_66 (by decide) ?_
        refine W.lcmp (pc := 67) hx hb dU_goesAwayFromZero_67 ?_
        refine lv_if_eq (tgt := 79) (pc := 68) hx hb dU_goesAwayFromZero_68 (by decide) (fun h7 => ?_) (fun h7 => ?_)
        · skip
          have h7 : x3 = 0 := (lg_cmp_eq _ _).1 h7
          refine lv_iconst (v := 0) (pc := 79) hx hb dU_goesAwayFromZero_79 (by decide) ?_
          exact hret _ _ _ _ _ _ _ _ (congrArg bI ((show false = C_U_goesAwayFromZero md fl z1 x2 x3 x4 from by rw [C_U_goesAwayFromZero, if_neg h1, if_neg h5, if_pos h6, if_pos h7]))) rfl rfl rfl hw hS dU_goesAwayFromZero_80
        · skip
          have h7 : ¬ (x3 = 0) := fun q => h7 ((lg_cmp_eq _ _).2 q)
          refine lv_iload_n (pc := 71) hx hb dU_goesAwayFromZero_71 rfl (lv_at hl 1 rfl) ?_
          refine lv_if_ne (tgt := 79) (pc := 72) hx hb dU_goesAwayFromZero_72 (by decide) (fun h8 => ?_) (fun h8 => ?_)
          · skip
            have h8 : ¬ (z1 = false) := fun q => h8 ((bI_0 _).2 q)
            refine lv_iconst (v := 0) (pc := 79) hx hb dU_goesAwayFromZero_79 (by decide) ?_
            exact hret _ _ _ _ _ _ _ _ (congrArg bI ((show false = C_U_goesAwayFromZero md fl z1 x2 x3 x4 from by rw [C_U_goesAwayFromZero, if_neg h1, if_neg h5, if_pos h6, if_neg h7, if_neg h8]))) rfl rfl rfl hw hS dU_goesAwayFromZero_80
          · skip
            have h8 : z1 = false := (bI_0 _).1 h8
            refine lv_iconst (v := 1) (pc := 75) hx hb dU_goesAwayFromZero_75 (by decide) ?_
            refine lv_goto (tgt := 80) (pc := 76) hx hb dU_goesAwayFromZero_76 (by decide) ?_
            exact hret _ _ _ _ _ _ _ _ (congrArg bI ((show true = C_U_goesAwayFromZero md fl z1 x2 x3 x4 from by rw [C_U_goesAwayFromZero, if_neg h1, if_neg h5, if_pos h6, if_neg h7, if_pos h8]))) rfl rfl rfl hw hS dU_goesAwayFromZero_80
      · skip
        refine lv_tableOut (tgt := 81) (pc := 4) hx hb dU_goesAwayFromZero_4 (sw3 h1 h5 h6) (by decide) ?_
        refine lv_lload (pc := 81) hx hb dU_goesAwayFromZero_81 (lv_at hl 3 rfl) ?_
        refine lv_lconst (v := 0) (pc := 83) hx hb dU_goesAwayFromZero_83 (by decide) ?_
        refine W.lcmp (pc := 84) hx hb dU_goesAwayFromZero_84 ?_
        refine lv_if_eq (tgt := 96) (pc := 85) hx hb dU_goesAwayFromZero_85 (by decide) (fun h9 => ?_) (fun h9 => ?_)
        · skip
          have h9 : x3 = 0 := (lg_cmp_eq _ _).1 h9
          refine lv_iconst (v := 0) (pc := 96) hx hb dU_goesAwayFromZero_96 (by decide) ?_
          exact hret _ _ _ _ _ _ _ _ (congrArg bI ((show false = C_U_goesAwayFromZero md fl z1 x2 x3 x4 from by rw [C_U_goesAwayFromZero, if_neg h1, if_neg h5, if_neg h6, if_pos h9]))) rfl rfl rfl hw hS dU_goesAwayFromZero_97
        · skip
          have h9 : ¬ (x3 = 0) := fun q => h9 ((lg_cmp_eq _ _).2 q)
          refine lv_iload_n (pc := 88) hx hb dU_goesAwayFromZero_88 rfl (lv_at hl 1 rfl) ?_
          refine lv_if_eq (tgt := 96) (pc := 89) hx hb dU_goesAwayFromZero_89 (by decide) (fun h10 => ?_) (fun h10 => ?_)
          · skip
            have h10 : z1 = false := (bI_0 _).1 h10
            refine lv_iconst (v := 0) (pc := 96) hx hb dU_goesAwayFromZero_96 (by decide) ?_
            exact hret _ _ _ _ _ _ _ _ (congrArg bI ((show false = C_U_goesAwayFromZero md fl z1 x2 x3 x4 from by rw [C_U_goesAwayFromZero, if_neg h1, if_neg h5, if_neg h6, if_neg h9, if_pos h10]))) rfl rfl rfl hw hS dU_goesAwayFromZero_97
          · skip
            have h10 : ¬ (z1 = false) := fun q => h10 ((bI_0 _).2 q)
            refine lv_iconst (v := 1) (pc := 92) hx hb dU_goesAwayFromZero_92 (by decide) ?_
            refine lv_goto (tgt := 97) (pc := 93) hx hb dU_goesAwayFromZero_93 (by decide) ?_
            exact hret _ _ _ _ _ _ _ _ (congrArg bI ((show true = C_U_goesAwayFromZero md fl z1 x2 x3 x4 from by rw [C_U_goesAwayFromZero, if_neg h1, if_neg h5, if_neg h6, if_neg h9, if_neg h10]))) rfl rfl rfl hw hS dU_goesAwayFromZero_97
def C_U_huge_34 (md f9 : Int32) (i : Nat) (v2 : Bool) (v3 : Bool) : Int64 × Int32 :=
  if v3 = false then
    (C_F_endless i v2, f9)
  else
    (C_F_greatest i v2, f9)
def C_U_huge (md : Int32) (fl : Int32) (i : Nat) (z2 : Bool) : Int64 × Int32 :=
  if md = 1 then
    C_U_huge_34 md (C_U_raise md fl 5) i z2 true
  else
    if z2 = false then
      if md = 3 then
        C_U_huge_34 md (C_U_raise md fl 5) i z2 true
      else
        C_U_huge_34 md (C_U_raise md fl 5) i z2 false
    else
      if md = 2 then
        C_U_huge_34 md (C_U_raise md fl 5) i z2 true
      else
        C_U_huge_34 md (C_U_raise md fl 5) i z2 false
abbrev rmU_huge : Room := { frames := 2, cells := 0, slots := 0, locals := 44 }
theorem cwU_huge {R : Room} {s : State} {args : Array Value} {w0 : Cond} {own : String} {idx : Nat} (hts : ∀ w ∈ (w0 :: bigW), w.before args s = true) (hl : Cond.methodLink own idx yU_huge ∈ bigW) (hR : rmU_huge.frames + 1 ≤ R.frames ∧ 8 + (4 + 11) + rmU_huge.locals ≤ R.locals) : CallW R s args own "FloatUnit" idx yU_huge cU_huge 4 (some .long) (wsM yU_huge cU_huge 4 (some .long)) rmU_huge 0 0 2 :=
  cwV 2 hts (big_V hl w_228 sel_U_huge w_1 w_229) rfl rfl rfl ⟨rfl, by decide, by decide, by decide +kernel⟩ hR
set_option maxRecDepth 100000 in
set_option maxHeartbeats 8000000 in
theorem c_U_huge (l : Launch) (ad : Nat → Nat) (D : va_G) (cA : ClassId) (h0 r0 : Nat) {i : Nat} (hi : i < 2) (md fl : Int32) (rg : Nat → Int64) (z2 : Bool) : FuM l ad D cA h0 r0 yU_huge (wsM yU_huge cU_huge 4 (some .long)) rmU_huge [.ref (ad i), .int (bI z2)] md fl rg (some (.long ((C_U_huge md fl i z2).1))) md (C_U_huge md fl i z2).2 rg := by
  refine fu_ofL (cc := cU_huge) (maxL := 4) (by decide) rfl (Nat.le_of_ble_eq_true rfl) ?_
  intro p e s m args below meth c Q hx hb hml hown hts hF H locs hS hw hret ls hl
  have hl : lv_has ls 4 [(0, .ref h0), (1, .ref (ad i)), (2, .int (bI z2))] := hl
  have J34 : ∀ (f9 : Int32) (v2 : Bool) (v3 : Bool) (ls : Array Slot) (H : Heap) (locs : List Loc), lv_has ls 4 [(0, .ref h0), (1, .ref (ad i)), (2, .int (bI v2))] → FUw D cA h0 r0 md f9 rg s H → va_S (fA h0 r0) s.heap H locs → C_U_huge_34 md f9 i v2 v3 = C_U_huge md fl i z2 → W p l e rmU_huge s m args below meth c H locs 0 0 Q (F0 m 34 ls [.int (bI v3)]) := by
    intro f9 v2 v3 ls H locs hl hw hS he
    refine lv_istore_n (lv' := [(3, .int (bI v3)), (0, .ref h0), (1, .ref (ad i)), (2, .int (bI v2))]) (pc := 34) hx hb dU_huge_34 rfl hl (by decide) rfl (fun ls hl => ?_)
    refine lv_iload_n (pc := 35) hx hb dU_huge_35 rfl (lv_at hl 0 rfl) ?_
    refine lv_if_eq (tgt := 47) (pc := 36) hx hb dU_huge_36 (by decide) (fun h101 => ?_) (fun h101 => ?_)
    · skip
      have h101 : v3 = false := (bI_0 _).1 h101
      refine lv_aload_n (pc := 47) hx hb dU_huge_47 rfl (lv_at hl 2 rfl) ?_
      refine lv_iload_n (pc := 48) hx hb dU_huge_48 rfl (lv_at hl 3 rfl) ?_
      refine pu_V (pc := 49) (i := i) (rest := []) ⟨hx, hb, hml, hown, hts⟩ hi (c_F_endless l ad hi v2) (cwF_endless hts w_234 ⟨by decide, by decide⟩) hF hS rfl hl.1 rfl (Nat.le_of_ble_eq_true rfl) dU_huge_49 ⟨Nat.zero_le _, Nat.zero_le _⟩ ?_
      have he9 := (show (C_F_endless i v2, f9) = C_U_huge_34 md f9 i v2 v3 from by rw [C_U_huge_34, if_pos h101]).trans he
      exact hret _ _ _ _ _ _ _ _ (congrArg Prod.fst he9) rfl (congrArg Prod.snd he9) rfl hw hS dU_huge_52
    · skip
      have h101 : ¬ (v3 = false) := fun q => h101 ((bI_0 _).2 q)
      refine lv_aload_n (pc := 39) hx hb dU_huge_39 rfl (lv_at hl 2 rfl) ?_
      refine lv_iload_n (pc := 40) hx hb dU_huge_40 rfl (lv_at hl 3 rfl) ?_
      refine pu_V (pc := 41) (i := i) (rest := []) ⟨hx, hb, hml, hown, hts⟩ hi (c_F_greatest l ad hi v2) (cwF_greatest hts w_230 ⟨by decide, by decide⟩) hF hS rfl hl.1 rfl (Nat.le_of_ble_eq_true rfl) dU_huge_41 ⟨Nat.zero_le _, Nat.zero_le _⟩ ?_
      refine lv_goto (tgt := 52) (pc := 44) hx hb dU_huge_44 (by decide) ?_
      have he9 := (show (C_F_greatest i v2, f9) = C_U_huge_34 md f9 i v2 v3 from by rw [C_U_huge_34, if_neg h101]).trans he
      exact hret _ _ _ _ _ _ _ _ (congrArg Prod.fst he9) rfl (congrArg Prod.snd he9) rfl hw hS dU_huge_52
  refine lv_aload_n (pc := 0) hx hb dU_huge_0 rfl (lv_at hl 0 rfl) ?_
  refine lv_iconst (v := 5) (pc := 1) hx hb dU_huge_1 (by decide) ?_
  refine fu_V (pc := 2) (rest := []) ⟨hx, hb, hml, hown, hts⟩ (c_U_raise l ad D cA h0 r0  md fl rg 5) (cwU_raise hts w_176 ⟨by decide, by decide⟩) hF hw hS rfl hl.1 rfl (Nat.le_of_ble_eq_true rfl) dU_huge_2 ⟨Nat.zero_le _, Nat.zero_le _⟩ (fun H locs hw hS => ?_)
  refine W.eq (g2 := F0 m 5 ls []) rfl ?_
  refine lv_aload_n (pc := 5) hx hb dU_huge_5 rfl (lv_at hl 0 rfl) ?_
  refine fu_md (pc := 6) hx hb hts hown hw w_19 dU_huge_6 ?_
  refine lv_iconst (v := 1) (pc := 9) hx hb dU_huge_9 (by decide) ?_
  refine lv_icmp_eq (tgt := 29) (pc := 10) hx hb dU_huge_10 (by decide) (fun h1 => ?_) (fun h1 => ?_)
  · skip
    refine lv_iconst (v := 1) (pc := 29) hx hb dU_huge_29 (by decide) ?_
    refine lv_goto (tgt := 34) (pc := 30) hx hb dU_huge_30 (by decide) ?_
    exact J34 (C_U_raise md fl 5) z2 true ls _ _ (lv_sub hl [0, 1, 2] rfl) hw hS ((show C_U_huge_34 md (C_U_raise md fl 5) i z2 true = C_U_huge md fl i z2 from by rw [C_U_huge, if_pos h1]))
  · skip
    refine lv_aload_n (pc := 13) hx hb dU_huge_13 rfl (lv_at hl 0 rfl) ?_
    refine fu_md (pc := 14) hx hb hts hown hw w_19 dU_huge_14 ?_
    refine lv_iload_n (pc := 17) hx hb dU_huge_17 rfl (lv_at hl 2 rfl) ?_
    refine lv_if_eq (tgt := 25) (pc := 18) hx hb dU_huge_18 (by decide) (fun h2 => ?_) (fun h2 => ?_)
    · skip
      have h2 : z2 = false := (bI_0 _).1 h2
      refine lv_iconst (v := 3) (pc := 25) hx hb dU_huge_25 (by decide) ?_
      refine lv_icmp_ne (tgt := 33) (pc := 26) hx hb dU_huge_26 (by decide) (fun h3 => ?_) (fun h3 => ?_)
      · skip
        refine lv_iconst (v := 0) (pc := 33) hx hb dU_huge_33 (by decide) ?_
        exact J34 (C_U_raise md fl 5) z2 false ls _ _ (lv_sub hl [0, 1, 2] rfl) hw hS ((show C_U_huge_34 md (C_U_raise md fl 5) i z2 false = C_U_huge md fl i z2 from by rw [C_U_huge, if_neg h1, if_pos h2, if_neg h3]))
      · skip
        refine lv_iconst (v := 1) (pc := 29) hx hb dU_huge_29 (by decide) ?_
        refine lv_goto (tgt := 34) (pc := 30) hx hb dU_huge_30 (by decide) ?_
        exact J34 (C_U_raise md fl 5) z2 true ls _ _ (lv_sub hl [0, 1, 2] rfl) hw hS ((show C_U_huge_34 md (C_U_raise md fl 5) i z2 true = C_U_huge md fl i z2 from by rw [C_U_huge, if_neg h1, if_pos h2, if_pos h3]))
    · skip
      have h2 : ¬ (z2 = false) := fun q => h2 ((bI_0 _).2 q)
      refine lv_iconst (v := 2) (pc := 21) hx hb dU_huge_21 (by decide) ?_
      refine lv_goto (tgt := 26) (pc := 22) hx hb dU_huge_22 (by decide) ?_
      refine lv_icmp_ne (tgt := 33) (pc := 26) hx hb dU_huge_26 (by decide) (fun h4 => ?_) (fun h4 => ?_)
      · skip
        refine lv_iconst (v := 0) (pc := 33) hx hb dU_huge_33 (by decide) ?_
        exact J34 (C_U_raise md fl 5) z2 false ls _ _ (lv_sub hl [0, 1, 2] rfl) hw hS ((show C_U_huge_34 md (C_U_raise md fl 5) i z2 false = C_U_huge md fl i z2 from by rw [C_U_huge, if_neg h1, if_neg h2, if_neg h4]))
      · skip
        refine lv_iconst (v := 1) (pc := 29) hx hb dU_huge_29 (by decide) ?_
        refine lv_goto (tgt := 34) (pc := 30) hx hb dU_huge_30 (by decide) ?_
        exact J34 (C_U_raise md fl 5) z2 true ls _ _ (lv_sub hl [0, 1, 2] rfl) hw hS ((show C_U_huge_34 md (C_U_raise md fl 5) i z2 true = C_U_huge md fl i z2 from by rw [C_U_huge, if_neg h1, if_neg h2, if_pos h4]))
def C_U_rounded_168 (md f9 : Int32) (i : Nat) (v2 : Bool) (u14 : Int64) (u16 : Int64) : Int64 × Int32 :=
  if u16 < (fEn i) then
    if u14 = 0 then
      (C_F_signed i v2 u16, f9)
    else
      if (fLe i) ≤ u16 then
        (C_F_signed i v2 u16, C_U_raise md f9 1)
      else
        (C_F_signed i v2 u16, C_U_raise md f9 3)
  else
    ((C_U_huge md f9 i v2).1, (C_U_huge md f9 i v2).2)
def C_U_rounded_153 (md f9 : Int32) (i : Nat) (v2 : Bool) (u10 : Int32) (u12 : Int64) (u14 : Int64) : Int64 × Int32 :=
  C_U_rounded_168 md f9 i v2 u14 ((((u10 - 1).toInt64) * (fLe i)) + u12)
def C_U_rounded_112 (md f9 : Int32) (i : Nat) (v2 : Bool) (u6 : Int64) (u10 : Int32) (u11 : Int32) : Int64 × Int32 :=
  if (C_U_goesAwayFromZero md f9 v2 (jUshr u6 u11) (u6 - (jShl (jUshr u6 u11) u11)) (jShl 1 (u11 - 1))) = false then
    C_U_rounded_153 md f9 i v2 u10 (jUshr u6 u11) (u6 - (jShl (jUshr u6 u11) u11))
  else
    C_U_rounded_153 md f9 i v2 u10 ((jUshr u6 u11) + 1) (u6 - (jShl (jUshr u6 u11) u11))
def C_U_rounded_87 (md f9 : Int32) (i : Nat) (v2 : Bool) (u6 : Int64) (u9 : Int32) (u10 : Int32) : Int64 × Int32 :=
  if ((C_F_unitPower i u10) - u9) ≤ 63 then
    C_U_rounded_112 md f9 i v2 u6 u10 ((C_F_unitPower i u10) - u9)
  else
    C_U_rounded_112 md f9 i v2 1 u10 63
def C_U_rounded_48 (md f9 : Int32) (i : Nat) (v2 : Bool) (u6 : Int64) (u8 : Int32) (u9 : Int32) : Int64 × Int32 :=
  if (jMax (((u9 - u8) + 62) + (fBi i)) 1) ≤ (2 * (fBi i)) then
    C_U_rounded_87 md f9 i v2 u6 (u9 - u8) (jMax (((u9 - u8) + 62) + (fBi i)) 1)
  else
    ((C_U_huge md f9 i v2).1, (C_U_huge md f9 i v2).2)
def C_U_rounded_17 (md f9 : Int32) (i : Nat) (v2 : Bool) (u3 : Int64) (u5 : Int32) (u6 : Int64) : Int64 × Int32 :=
  if 0 ≤ u3 then
    C_U_rounded_48 md f9 i v2 (jShl u6 (C_U_freePlaces u6)) (C_U_freePlaces u6) u5
  else
    C_U_rounded_48 md f9 i v2 (jShl u6 (C_U_freePlaces u6)) (C_U_freePlaces u6) (u5 + 1)
def C_U_rounded (md : Int32) (fl : Int32) (i : Nat) (z2 : Bool) (x3 : Int64) (k4 : Int32) : Int64 × Int32 :=
  if 0 ≤ x3 then
    C_U_rounded_17 md fl i z2 x3 k4 x3
  else
    C_U_rounded_17 md fl i z2 x3 k4 ((jUshr x3 1) ||| (x3 &&& 1))
abbrev rmU_rounded : Room := { frames := 3, cells := 0, slots := 0, locals := 67 }
theorem cwU_rounded {R : Room} {s : State} {args : Array Value} {w0 : Cond} {own : String} {idx : Nat} (hts : ∀ w ∈ (w0 :: bigW), w.before args s = true) (hl : Cond.methodLink own idx yU_rounded ∈ bigW) (hR : rmU_rounded.frames + 1 ≤ R.frames ∧ 8 + (18 + 11) + rmU_rounded.locals ≤ R.locals) : CallW R s args own "FloatUnit" idx yU_rounded cU_rounded 18 (some .long) (wsM yU_rounded cU_rounded 18 (some .long)) rmU_rounded 0 0 4 :=
  cwV 4 hts (big_V hl w_223 sel_U_rounded w_1 w_224) rfl rfl rfl ⟨rfl, by decide, by decide, by decide +kernel⟩ hR
set_option maxRecDepth 100000 in
set_option maxHeartbeats 8000000 in
theorem c_U_rounded (l : Launch) (ad : Nat → Nat) (D : va_G) (cA : ClassId) (h0 r0 : Nat) {i : Nat} (hi : i < 2) (md fl : Int32) (rg : Nat → Int64) (z2 : Bool) (x3 : Int64) (k4 : Int32) : FuM l ad D cA h0 r0 yU_rounded (wsM yU_rounded cU_rounded 18 (some .long)) rmU_rounded [.ref (ad i), .int (bI z2), .long x3, .int k4] md fl rg (some (.long ((C_U_rounded md fl i z2 x3 k4).1))) md (C_U_rounded md fl i z2 x3 k4).2 rg := by
  refine fu_ofL (cc := cU_rounded) (maxL := 18) (by decide) rfl (Nat.le_of_ble_eq_true rfl) ?_
  intro p e s m args below meth c Q hx hb hml hown hts hF H locs hS hw hret ls hl
  have hl : lv_has ls 18 [(0, .ref h0), (1, .ref (ad i)), (2, .int (bI z2)), (3, .long x3), (5, .int k4)] := hl
  have J168 : ∀ (f9 : Int32) (v2 : Bool) (u14 : Int64) (u16 : Int64) (ls : Array Slot) (H : Heap) (locs : List Loc), lv_has ls 18 [(0, .ref h0), (1, .ref (ad i)), (2, .int (bI v2)), (14, .long u14), (16, .long u16)] → FUw D cA h0 r0 md f9 rg s H → va_S (fA h0 r0) s.heap H locs → C_U_rounded_168 md f9 i v2 u14 u16 = C_U_rounded md fl i z2 x3 k4 → W p l e rmU_rounded s m args below meth c H locs 0 0 Q (F0 m 168 ls []) := by
    intro f9 v2 u14 u16 ls H locs hl hw hS he
    refine lv_lload (pc := 168) hx hb dU_rounded_168 (lv_at hl 4 rfl) ?_
    refine lv_aload_n (pc := 170) hx hb dU_rounded_170 rfl (lv_at hl 1 rfl) ?_
    refine fm_en (pc := 171) hx hb hF hi hS hown (hts _ (List.mem_cons_of_mem _ w_536)) dU_rounded_171 ?_
    refine W.lcmp (pc := 174) hx hb dU_rounded_174 ?_
    refine lv_if_lt (tgt := 185) (pc := 175) hx hb dU_rounded_175 (by decide) (fun h601 => ?_) (fun h601 => ?_)
    · skip
      have h601 : u16 < (fEn i) := (lg_cmp_lt _ _).1 h601
      refine lv_lload (pc := 185) hx hb dU_rounded_185 (lv_at hl 3 rfl) ?_
      refine lv_lconst (v := 0) (pc := 187) hx hb dU_rounded_187 (by decide) ?_
      refine W.lcmp (pc := 188) hx hb dU_rounded_188 ?_
      refine lv_if_eq (tgt := 211) (pc := 189) hx hb dU_rounded_189 (by decide) (fun h602 => ?_) (fun h602 => ?_)
      · skip
        have h602 : u14 = 0 := (lg_cmp_eq _ _).1 h602
        refine lv_aload_n (pc := 211) hx hb dU_rounded_211 rfl (lv_at hl 1 rfl) ?_
        refine lv_iload_n (pc := 212) hx hb dU_rounded_212 rfl (lv_at hl 2 rfl) ?_
        refine lv_lload (pc := 213) hx hb dU_rounded_213 (lv_at hl 4 rfl) ?_
        refine pu_V (pc := 215) (i := i) (rest := []) ⟨hx, hb, hml, hown, hts⟩ hi (c_F_signed l ad hi v2 u16) (cwF_signed hts w_243 ⟨by decide, by decide⟩) hF hS rfl hl.1 rfl (Nat.le_of_ble_eq_true rfl) dU_rounded_215 ⟨Nat.zero_le _, Nat.zero_le _⟩ ?_
        have he9 := (show (C_F_signed i v2 u16, f9) = C_U_rounded_168 md f9 i v2 u14 u16 from by rw [C_U_rounded_168, if_pos h601, if_pos h602]).trans he
        exact hret _ _ _ _ _ _ _ _ (congrArg Prod.fst he9) rfl (congrArg Prod.snd he9) rfl hw hS dU_rounded_218
      · skip
        have h602 : ¬ (u14 = 0) := fun q => h602 ((lg_cmp_eq _ _).2 q)
        refine lv_aload_n (pc := 192) hx hb dU_rounded_192 rfl (lv_at hl 0 rfl) ?_
        refine lv_lload (pc := 193) hx hb dU_rounded_193 (lv_at hl 4 rfl) ?_
        refine lv_aload_n (pc := 195) hx hb dU_rounded_195 rfl (lv_at hl 1 rfl) ?_
        refine fm_le (pc := 196) hx hb hF hi hS hown (hts _ (List.mem_cons_of_mem _ w_535)) dU_rounded_196 ?_
        refine W.lcmp (pc := 199) hx hb dU_rounded_199 ?_
        refine lv_if_ge (tgt := 207) (pc := 200) hx hb dU_rounded_200 (by decide) (fun h603 => ?_) (fun h603 => ?_)
        · skip
          have h603 : (fLe i) ≤ u16 := (lg_cmp_ge _ _).1 h603
          refine lv_iconst (v := 1) (pc := 207) hx hb dU_rounded_207 (by decide) ?_
          refine fu_V (pc := 208) (rest := []) ⟨hx, hb, hml, hown, hts⟩ (c_U_raise l ad D cA h0 r0  md f9 rg 1) (cwU_raise hts w_176 ⟨by decide, by decide⟩) hF hw hS rfl hl.1 rfl (Nat.le_of_ble_eq_true rfl) dU_rounded_208 ⟨Nat.zero_le _, Nat.zero_le _⟩ (fun H locs hw hS => ?_)
          refine W.eq (g2 := F0 m 211 ls []) rfl ?_
          refine lv_aload_n (pc := 211) hx hb dU_rounded_211 rfl (lv_at hl 1 rfl) ?_
          refine lv_iload_n (pc := 212) hx hb dU_rounded_212 rfl (lv_at hl 2 rfl) ?_
          refine lv_lload (pc := 213) hx hb dU_rounded_213 (lv_at hl 4 rfl) ?_
          refine pu_V (pc := 215) (i := i) (rest := []) ⟨hx, hb, hml, hown, hts⟩ hi (c_F_signed l ad hi v2 u16) (cwF_signed hts w_243 ⟨by decide, by decide⟩) hF hS rfl hl.1 rfl (Nat.le_of_ble_eq_true rfl) dU_rounded_215 ⟨Nat.zero_le _, Nat.zero_le _⟩ ?_
          have he9 := (show (C_F_signed i v2 u16, C_U_raise md f9 1) = C_U_rounded_168 md f9 i v2 u14 u16 from by rw [C_U_rounded_168, if_pos h601, if_neg h602, if_pos h603]).trans he
          exact hret _ _ _ _ _ _ _ _ (congrArg Prod.fst he9) rfl (congrArg Prod.snd he9) rfl hw hS dU_rounded_218
        · skip
          have h603 : ¬ ((fLe i) ≤ u16) := fun q => h603 ((lg_cmp_ge _ _).2 q)
          refine lv_iconst (v := 3) (pc := 203) hx hb dU_rounded_203 (by decide) ?_
          refine lv_goto (tgt := 208) (pc := 204) hx hb dU_rounded_204 (by decide) ?_
          refine fu_V (pc := 208) (rest := []) ⟨hx, hb, hml, hown, hts⟩ (c_U_raise l ad D cA h0 r0  md f9 rg 3) (cwU_raise hts w_176 ⟨by decide, by decide⟩) hF hw hS rfl hl.1 rfl (Nat.le_of_ble_eq_true rfl) dU_rounded_208 ⟨Nat.zero_le _, Nat.zero_le _⟩ (fun H locs hw hS => ?_)
          refine W.eq (g2 := F0 m 211 ls []) rfl ?_
          refine lv_aload_n (pc := 211) hx hb dU_rounded_211 rfl (lv_at hl 1 rfl) ?_
          refine lv_iload_n (pc := 212) hx hb dU_rounded_212 rfl (lv_at hl 2 rfl) ?_
          refine lv_lload (pc := 213) hx hb dU_rounded_213 (lv_at hl 4 rfl) ?_
          refine pu_V (pc := 215) (i := i) (rest := []) ⟨hx, hb, hml, hown, hts⟩ hi (c_F_signed l ad hi v2 u16) (cwF_signed hts w_243 ⟨by decide, by decide⟩) hF hS rfl hl.1 rfl (Nat.le_of_ble_eq_true rfl) dU_rounded_215 ⟨Nat.zero_le _, Nat.zero_le _⟩ ?_
          have he9 := (show (C_F_signed i v2 u16, C_U_raise md f9 3) = C_U_rounded_168 md f9 i v2 u14 u16 from by rw [C_U_rounded_168, if_pos h601, if_neg h602, if_neg h603]).trans he
          exact hret _ _ _ _ _ _ _ _ (congrArg Prod.fst he9) rfl (congrArg Prod.snd he9) rfl hw hS dU_rounded_218
    · skip
      have h601 : ¬ (u16 < (fEn i)) := fun q => h601 ((lg_cmp_lt _ _).2 q)
      refine lv_aload_n (pc := 178) hx hb dU_rounded_178 rfl (lv_at hl 0 rfl) ?_
      refine lv_aload_n (pc := 179) hx hb dU_rounded_179 rfl (lv_at hl 1 rfl) ?_
      refine lv_iload_n (pc := 180) hx hb dU_rounded_180 rfl (lv_at hl 2 rfl) ?_
      refine fu_V (pc := 181) (rest := []) ⟨hx, hb, hml, hown, hts⟩ (c_U_huge l ad D cA h0 r0 hi md f9 rg v2) (cwU_huge hts w_226 ⟨by decide, by decide⟩) hF hw hS rfl hl.1 rfl (Nat.le_of_ble_eq_true rfl) dU_rounded_181 ⟨Nat.zero_le _, Nat.zero_le _⟩ (fun H locs hw hS => ?_)
      refine W.eq (g2 := F0 m 184 ls [.long ((C_U_huge md f9 i v2).1)]) rfl ?_
      have he9 := (show ((C_U_huge md f9 i v2).1, (C_U_huge md f9 i v2).2) = C_U_rounded_168 md f9 i v2 u14 u16 from by rw [C_U_rounded_168, if_neg h601]).trans he
      exact hret _ _ _ _ _ _ _ _ (congrArg Prod.fst he9) rfl (congrArg Prod.snd he9) rfl hw hS dU_rounded_184
  have J153 : ∀ (f9 : Int32) (v2 : Bool) (u10 : Int32) (u12 : Int64) (u14 : Int64) (ls : Array Slot) (H : Heap) (locs : List Loc), lv_has ls 18 [(0, .ref h0), (1, .ref (ad i)), (2, .int (bI v2)), (10, .int u10), (12, .long u12), (14, .long u14)] → FUw D cA h0 r0 md f9 rg s H → va_S (fA h0 r0) s.heap H locs → C_U_rounded_153 md f9 i v2 u10 u12 u14 = C_U_rounded md fl i z2 x3 k4 → W p l e rmU_rounded s m args below meth c H locs 0 0 Q (F0 m 153 ls []) := by
    intro f9 v2 u10 u12 u14 ls H locs hl hw hS he
    refine lv_iload (pc := 153) hx hb dU_rounded_153 (lv_at hl 3 rfl) ?_
    refine lv_iconst (v := 1) (pc := 155) hx hb dU_rounded_155 (by decide) ?_
    refine lv_isub (pc := 156) hx hb dU_rounded_156 ?_
    refine lv_i2l (v := (u10 - 1).toInt64) (pc := 157) hx hb dU_rounded_157 rfl ?_
    refine lv_aload_n (pc := 158) hx hb dU_rounded_158 rfl (lv_at hl 1 rfl) ?_
    refine fm_le (pc := 159) hx hb hF hi hS hown (hts _ (List.mem_cons_of_mem _ w_535)) dU_rounded_159 ?_
    refine lv_lmul (pc := 162) hx hb dU_rounded_162 ?_
    refine lv_lload (pc := 163) hx hb dU_rounded_163 (lv_at hl 4 rfl) ?_
    refine lv_ladd (pc := 165) hx hb dU_rounded_165 ?_
    refine lv_lstore (lv' := [(16, .long ((((u10 - 1).toInt64) * (fLe i)) + u12)), (0, .ref h0), (1, .ref (ad i)), (2, .int (bI v2)), (10, .int u10), (12, .long u12), (14, .long u14)]) (pc := 166) hx hb dU_rounded_166 hl (by decide) rfl (fun ls hl => ?_)
    exact J168 f9 v2 u14 ((((u10 - 1).toInt64) * (fLe i)) + u12) ls _ _ (lv_sub hl [1, 2, 3, 6, 0] rfl) hw hS ((show C_U_rounded_168 md f9 i v2 u14 ((((u10 - 1).toInt64) * (fLe i)) + u12) = C_U_rounded_153 md f9 i v2 u10 u12 u14 from by rw [C_U_rounded_153]).trans he)
  have J112 : ∀ (f9 : Int32) (v2 : Bool) (u6 : Int64) (u10 : Int32) (u11 : Int32) (ls : Array Slot) (H : Heap) (locs : List Loc), lv_has ls 18 [(0, .ref h0), (1, .ref (ad i)), (2, .int (bI v2)), (6, .long u6), (10, .int u10), (11, .int u11)] → FUw D cA h0 r0 md f9 rg s H → va_S (fA h0 r0) s.heap H locs → C_U_rounded_112 md f9 i v2 u6 u10 u11 = C_U_rounded md fl i z2 x3 k4 → W p l e rmU_rounded s m args below meth c H locs 0 0 Q (F0 m 112 ls []) := by
    intro f9 v2 u6 u10 u11 ls H locs hl hw hS he
    refine lv_lload (pc := 112) hx hb dU_rounded_112 (lv_at hl 3 rfl) ?_
    refine lv_iload (pc := 114) hx hb dU_rounded_114 (lv_at hl 5 rfl) ?_
    refine lv_lushr (v := jUshr u6 u11) (pc := 116) hx hb dU_rounded_116 rfl ?_
    refine lv_lstore (lv' := [(12, .long (jUshr u6 u11)), (0, .ref h0), (1, .ref (ad i)), (2, .int (bI v2)), (6, .long u6), (10, .int u10), (11, .int u11)]) (pc := 117) hx hb dU_rounded_117 hl (by decide) rfl (fun ls hl => ?_)
    refine lv_lload (pc := 119) hx hb dU_rounded_119 (lv_at hl 4 rfl) ?_
    refine lv_lload (pc := 121) hx hb dU_rounded_121 (lv_at hl 0 rfl) ?_
    refine lv_iload (pc := 123) hx hb dU_rounded_123 (lv_at hl 6 rfl) ?_
    refine lv_lshl (v := jShl (jUshr u6 u11) u11) (pc := 125) hx hb dU_rounded_125 rfl ?_
    refine lv_lsub (pc := 126) hx hb dU_rounded_126 ?_
    refine lv_lstore (lv' := [(14, .long (u6 - (jShl (jUshr u6 u11) u11))), (12, .long (jUshr u6 u11)), (0, .ref h0), (1, .ref (ad i)), (2, .int (bI v2)), (6, .long u6), (10, .int u10), (11, .int u11)]) (pc := 127) hx hb dU_rounded_127 hl (by decide) rfl (fun ls hl => ?_)
    refine lv_aload_n (pc := 129) hx hb dU_rounded_129 rfl (lv_at hl 2 rfl) ?_
    refine lv_iload_n (pc := 130) hx hb dU_rounded_130 rfl (lv_at hl 4 rfl) ?_
    refine lv_lload (pc := 131) hx hb dU_rounded_131 (lv_at hl 1 rfl) ?_
    refine lv_lload (pc := 133) hx hb dU_rounded_133 (lv_at hl 0 rfl) ?_
    refine lv_lconst (v := 1) (pc := 135) hx hb dU_rounded_135 (by decide) ?_
    refine lv_iload (pc := 136) hx hb dU_rounded_136 (lv_at hl 7 rfl) ?_
    refine lv_iconst (v := 1) (pc := 138) hx hb dU_rounded_138 (by decide) ?_
    refine lv_isub (pc := 139) hx hb dU_rounded_139 ?_
    refine lv_lshl (v := jShl 1 (u11 - 1)) (pc := 140) hx hb dU_rounded_140 rfl ?_
    refine fu_V (pc := 141) (rest := []) ⟨hx, hb, hml, hown, hts⟩ (c_U_goesAwayFromZero l ad D cA h0 r0  md f9 rg v2 (jUshr u6 u11) (u6 - (jShl (jUshr u6 u11) u11)) (jShl 1 (u11 - 1))) (cwU_goesAwayFromZero hts w_239 ⟨by decide, by decide⟩) hF hw hS rfl hl.1 rfl (Nat.le_of_ble_eq_true rfl) dU_rounded_141 ⟨Nat.zero_le _, Nat.zero_le _⟩ (fun H locs hw hS => ?_)
    refine W.eq (g2 := F0 m 144 ls [.int (bI (C_U_goesAwayFromZero md f9 v2 (jUshr u6 u11) (u6 - (jShl (jUshr u6 u11) u11)) (jShl 1 (u11 - 1))))]) rfl ?_
    refine lv_if_eq (tgt := 153) (pc := 144) hx hb dU_rounded_144 (by decide) (fun h401 => ?_) (fun h401 => ?_)
    · skip
      have h401 : (C_U_goesAwayFromZero md f9 v2 (jUshr u6 u11) (u6 - (jShl (jUshr u6 u11) u11)) (jShl 1 (u11 - 1))) = false := (bI_0 _).1 h401
      exact J153 f9 v2 u10 (jUshr u6 u11) (u6 - (jShl (jUshr u6 u11) u11)) ls _ _ (lv_sub hl [2, 3, 4, 6, 1, 0] rfl) hw hS ((show C_U_rounded_153 md f9 i v2 u10 (jUshr u6 u11) (u6 - (jShl (jUshr u6 u11) u11)) = C_U_rounded_112 md f9 i v2 u6 u10 u11 from by rw [C_U_rounded_112, if_pos h401]).trans he)
    · skip
      have h401 : ¬ ((C_U_goesAwayFromZero md f9 v2 (jUshr u6 u11) (u6 - (jShl (jUshr u6 u11) u11)) (jShl 1 (u11 - 1))) = false) := fun q => h401 ((bI_0 _).2 q)
      refine lv_lload (pc := 147) hx hb dU_rounded_147 (lv_at hl 1 rfl) ?_
      refine lv_lconst (v := 1) (pc := 149) hx hb dU_rounded_149 (by decide) ?_
      refine lv_ladd (pc := 150) hx hb dU_rounded_150 ?_
      refine lv_lstore (lv' := [(12, .long ((jUshr u6 u11) + 1)), (14, .long (u6 - (jShl (jUshr u6 u11) u11))), (0, .ref h0), (1, .ref (ad i)), (2, .int (bI v2)), (6, .long u6), (10, .int u10), (11, .int u11)]) (pc := 151) hx hb dU_rounded_151 hl (by decide) rfl (fun ls hl => ?_)
      exact J153 f9 v2 u10 ((jUshr u6 u11) + 1) (u6 - (jShl (jUshr u6 u11) u11)) ls _ _ (lv_sub hl [2, 3, 4, 6, 0, 1] rfl) hw hS ((show C_U_rounded_153 md f9 i v2 u10 ((jUshr u6 u11) + 1) (u6 - (jShl (jUshr u6 u11) u11)) = C_U_rounded_112 md f9 i v2 u6 u10 u11 from by rw [C_U_rounded_112, if_neg h401]).trans he)
  have J87 : ∀ (f9 : Int32) (v2 : Bool) (u6 : Int64) (u9 : Int32) (u10 : Int32) (ls : Array Slot) (H : Heap) (locs : List Loc), lv_has ls 18 [(0, .ref h0), (1, .ref (ad i)), (2, .int (bI v2)), (6, .long u6), (9, .int u9), (10, .int u10)] → FUw D cA h0 r0 md f9 rg s H → va_S (fA h0 r0) s.heap H locs → C_U_rounded_87 md f9 i v2 u6 u9 u10 = C_U_rounded md fl i z2 x3 k4 → W p l e rmU_rounded s m args below meth c H locs 0 0 Q (F0 m 87 ls []) := by
    intro f9 v2 u6 u9 u10 ls H locs hl hw hS he
    refine lv_aload_n (pc := 87) hx hb dU_rounded_87 rfl (lv_at hl 1 rfl) ?_
    refine lv_iload (pc := 88) hx hb dU_rounded_88 (lv_at hl 5 rfl) ?_
    refine pu_V (pc := 90) (i := i) (rest := []) ⟨hx, hb, hml, hown, hts⟩ hi (c_F_unitPower l ad hi u10) (cwF_unitPower hts w_238 ⟨by decide, by decide⟩) hF hS rfl hl.1 rfl (Nat.le_of_ble_eq_true rfl) dU_rounded_90 ⟨Nat.zero_le _, Nat.zero_le _⟩ ?_
    refine lv_iload (pc := 93) hx hb dU_rounded_93 (lv_at hl 4 rfl) ?_
    refine lv_isub (pc := 95) hx hb dU_rounded_95 ?_
    refine lv_istore (lv' := [(11, .int ((C_F_unitPower i u10) - u9)), (0, .ref h0), (1, .ref (ad i)), (2, .int (bI v2)), (6, .long u6), (9, .int u9), (10, .int u10)]) (pc := 96) hx hb dU_rounded_96 hl (by decide) rfl (fun ls hl => ?_)
    refine lv_iload (pc := 98) hx hb dU_rounded_98 (lv_at hl 0 rfl) ?_
    refine lv_bipush (v := 63) (pc := 100) hx hb dU_rounded_100 (by decide) ?_
    refine lv_icmp_le (tgt := 112) (pc := 102) hx hb dU_rounded_102 (by decide) (fun h301 => ?_) (fun h301 => ?_)
    · skip
      exact J112 f9 v2 u6 u10 ((C_F_unitPower i u10) - u9) ls _ _ (lv_sub hl [1, 2, 3, 4, 6, 0] rfl) hw hS ((show C_U_rounded_112 md f9 i v2 u6 u10 ((C_F_unitPower i u10) - u9) = C_U_rounded_87 md f9 i v2 u6 u9 u10 from by rw [C_U_rounded_87, if_pos h301]).trans he)
    · skip
      refine lv_lconst (v := 1) (pc := 105) hx hb dU_rounded_105 (by decide) ?_
      refine lv_lstore (lv' := [(6, .long 1), (11, .int ((C_F_unitPower i u10) - u9)), (0, .ref h0), (1, .ref (ad i)), (2, .int (bI v2)), (9, .int u9), (10, .int u10)]) (pc := 106) hx hb dU_rounded_106 hl (by decide) rfl (fun ls hl => ?_)
      refine lv_bipush (v := 63) (pc := 108) hx hb dU_rounded_108 (by decide) ?_
      refine lv_istore (lv' := [(11, .int 63), (6, .long 1), (0, .ref h0), (1, .ref (ad i)), (2, .int (bI v2)), (9, .int u9), (10, .int u10)]) (pc := 110) hx hb dU_rounded_110 hl (by decide) rfl (fun ls hl => ?_)
      exact J112 f9 v2 1 u10 63 ls _ _ (lv_sub hl [2, 3, 4, 1, 6, 0] rfl) hw hS ((show C_U_rounded_112 md f9 i v2 1 u10 63 = C_U_rounded_87 md f9 i v2 u6 u9 u10 from by rw [C_U_rounded_87, if_neg h301]).trans he)
  have J48 : ∀ (f9 : Int32) (v2 : Bool) (u6 : Int64) (u8 : Int32) (u9 : Int32) (ls : Array Slot) (H : Heap) (locs : List Loc), lv_has ls 18 [(0, .ref h0), (1, .ref (ad i)), (2, .int (bI v2)), (6, .long u6), (8, .int u8)] → FUw D cA h0 r0 md f9 rg s H → va_S (fA h0 r0) s.heap H locs → C_U_rounded_48 md f9 i v2 u6 u8 u9 = C_U_rounded md fl i z2 x3 k4 → W p l e rmU_rounded s m args below meth c H locs 0 0 Q (F0 m 48 ls [.int u9]) := by
    intro f9 v2 u6 u8 u9 ls H locs hl hw hS he
    refine lv_iload (pc := 48) hx hb dU_rounded_48 (lv_at hl 4 rfl) ?_
    refine lv_isub (pc := 50) hx hb dU_rounded_50 ?_
    refine lv_istore (lv' := [(9, .int (u9 - u8)), (0, .ref h0), (1, .ref (ad i)), (2, .int (bI v2)), (6, .long u6), (8, .int u8)]) (pc := 51) hx hb dU_rounded_51 hl (by decide) rfl (fun ls hl => ?_)
    refine lv_iload (pc := 53) hx hb dU_rounded_53 (lv_at hl 0 rfl) ?_
    refine lv_bipush (v := 62) (pc := 55) hx hb dU_rounded_55 (by decide) ?_
    refine lv_iadd (pc := 57) hx hb dU_rounded_57 ?_
    refine lv_aload_n (pc := 58) hx hb dU_rounded_58 rfl (lv_at hl 2 rfl) ?_
    refine fm_bi (pc := 59) hx hb hF hi hS hown (hts _ (List.mem_cons_of_mem _ w_534)) dU_rounded_59 ?_
    refine lv_iadd (pc := 62) hx hb dU_rounded_62 ?_
    refine lv_iconst (v := 1) (pc := 63) hx hb dU_rounded_63 (by decide) ?_
    refine va_mmax (pc := 64) hx hb (hml.trans hl.1.symm) hown (hts _ (List.mem_cons_of_mem _ w_202)) (hts _ (List.mem_cons_of_mem _ w_185)) (hts _ (List.mem_cons_of_mem _ w_9)) (hts _ (List.mem_cons_of_mem _ w_186)) (by decide) (Nat.le_of_ble_eq_true rfl) (Nat.zero_le _) (Nat.zero_le _) dU_rounded_64 ?_
    refine lv_topi (fun v201 e201 => ?_)
    obtain rfl : v201 = jMax (((u9 - u8) + 62) + (fBi i)) 1 := e201
    refine lv_istore (lv' := [(10, .int (jMax (((u9 - u8) + 62) + (fBi i)) 1)), (9, .int (u9 - u8)), (0, .ref h0), (1, .ref (ad i)), (2, .int (bI v2)), (6, .long u6), (8, .int u8)]) (pc := 67) hx hb dU_rounded_67 hl (by decide) rfl (fun ls hl => ?_)
    refine lv_iload (pc := 69) hx hb dU_rounded_69 (lv_at hl 0 rfl) ?_
    refine lv_iconst (v := 2) (pc := 71) hx hb dU_rounded_71 (by decide) ?_
    refine lv_aload_n (pc := 72) hx hb dU_rounded_72 rfl (lv_at hl 3 rfl) ?_
    refine fm_bi (pc := 73) hx hb hF hi hS hown (hts _ (List.mem_cons_of_mem _ w_534)) dU_rounded_73 ?_
    refine lv_imul (pc := 76) hx hb dU_rounded_76 ?_
    refine lv_icmp_le (tgt := 87) (pc := 77) hx hb dU_rounded_77 (by decide) (fun h201 => ?_) (fun h201 => ?_)
    · skip
      exact J87 f9 v2 u6 (u9 - u8) (jMax (((u9 - u8) + 62) + (fBi i)) 1) ls _ _ (lv_sub hl [2, 3, 4, 5, 1, 0] rfl) hw hS ((show C_U_rounded_87 md f9 i v2 u6 (u9 - u8) (jMax (((u9 - u8) + 62) + (fBi i)) 1) = C_U_rounded_48 md f9 i v2 u6 u8 u9 from by rw [C_U_rounded_48, if_pos h201]).trans he)
    · skip
      refine lv_aload_n (pc := 80) hx hb dU_rounded_80 rfl (lv_at hl 2 rfl) ?_
      refine lv_aload_n (pc := 81) hx hb dU_rounded_81 rfl (lv_at hl 3 rfl) ?_
      refine lv_iload_n (pc := 82) hx hb dU_rounded_82 rfl (lv_at hl 4 rfl) ?_
      refine fu_V (pc := 83) (rest := []) ⟨hx, hb, hml, hown, hts⟩ (c_U_huge l ad D cA h0 r0 hi md f9 rg v2) (cwU_huge hts w_226 ⟨by decide, by decide⟩) hF hw hS rfl hl.1 rfl (Nat.le_of_ble_eq_true rfl) dU_rounded_83 ⟨Nat.zero_le _, Nat.zero_le _⟩ (fun H locs hw hS => ?_)
      refine W.eq (g2 := F0 m 86 ls [.long ((C_U_huge md f9 i v2).1)]) rfl ?_
      have he9 := (show ((C_U_huge md f9 i v2).1, (C_U_huge md f9 i v2).2) = C_U_rounded_48 md f9 i v2 u6 u8 u9 from by rw [C_U_rounded_48, if_neg h201]).trans he
      exact hret _ _ _ _ _ _ _ _ (congrArg Prod.fst he9) rfl (congrArg Prod.snd he9) rfl hw hS dU_rounded_86
  have J17 : ∀ (f9 : Int32) (v2 : Bool) (u3 : Int64) (u5 : Int32) (u6 : Int64) (ls : Array Slot) (H : Heap) (locs : List Loc), lv_has ls 18 [(0, .ref h0), (1, .ref (ad i)), (2, .int (bI v2)), (3, .long u3), (5, .int u5)] → FUw D cA h0 r0 md f9 rg s H → va_S (fA h0 r0) s.heap H locs → C_U_rounded_17 md f9 i v2 u3 u5 u6 = C_U_rounded md fl i z2 x3 k4 → W p l e rmU_rounded s m args below meth c H locs 0 0 Q (F0 m 17 ls [.long u6]) := by
    intro f9 v2 u3 u5 u6 ls H locs hl hw hS he
    refine lv_lstore (lv' := [(6, .long u6), (0, .ref h0), (1, .ref (ad i)), (2, .int (bI v2)), (3, .long u3), (5, .int u5)]) (pc := 17) hx hb dU_rounded_17 hl (by decide) rfl (fun ls hl => ?_)
    refine lv_lload (pc := 19) hx hb dU_rounded_19 (lv_at hl 0 rfl) ?_
    refine pu_S (pc := 21) (rest := []) ⟨hx, hb, hml, hown, hts⟩ (c_U_freePlaces l ad u6) (cwU_freePlaces hts w_225 ⟨by decide, by decide⟩) hF hS rfl hl.1 rfl (Nat.le_of_ble_eq_true rfl) dU_rounded_21 ⟨Nat.zero_le _, Nat.zero_le _⟩ ?_
    refine lv_istore (lv' := [(8, .int (C_U_freePlaces u6)), (6, .long u6), (0, .ref h0), (1, .ref (ad i)), (2, .int (bI v2)), (3, .long u3), (5, .int u5)]) (pc := 24) hx hb dU_rounded_24 hl (by decide) rfl (fun ls hl => ?_)
    refine lv_lload (pc := 26) hx hb dU_rounded_26 (lv_at hl 1 rfl) ?_
    refine lv_iload (pc := 28) hx hb dU_rounded_28 (lv_at hl 0 rfl) ?_
    refine lv_lshl (v := jShl u6 (C_U_freePlaces u6)) (pc := 30) hx hb dU_rounded_30 rfl ?_
    refine lv_lstore (lv' := [(6, .long (jShl u6 (C_U_freePlaces u6))), (8, .int (C_U_freePlaces u6)), (0, .ref h0), (1, .ref (ad i)), (2, .int (bI v2)), (3, .long u3), (5, .int u5)]) (pc := 31) hx hb dU_rounded_31 hl (by decide) rfl (fun ls hl => ?_)
    refine lv_lload_n (pc := 33) hx hb dU_rounded_33 rfl (lv_at hl 5 rfl) ?_
    refine lv_lconst (v := 0) (pc := 34) hx hb dU_rounded_34 (by decide) ?_
    refine W.lcmp (pc := 35) hx hb dU_rounded_35 ?_
    refine lv_if_ge (tgt := 46) (pc := 36) hx hb dU_rounded_36 (by decide) (fun h101 => ?_) (fun h101 => ?_)
    · skip
      have h101 : 0 ≤ u3 := (lg_cmp_ge _ _).1 h101
      refine lv_iload (pc := 46) hx hb dU_rounded_46 (lv_at hl 6 rfl) ?_
      exact J48 f9 v2 (jShl u6 (C_U_freePlaces u6)) (C_U_freePlaces u6) u5 ls _ _ (lv_sub hl [2, 3, 4, 0, 1] rfl) hw hS ((show C_U_rounded_48 md f9 i v2 (jShl u6 (C_U_freePlaces u6)) (C_U_freePlaces u6) u5 = C_U_rounded_17 md f9 i v2 u3 u5 u6 from by rw [C_U_rounded_17, if_pos h101]).trans he)
    · skip
      have h101 : ¬ (0 ≤ u3) := fun q => h101 ((lg_cmp_ge _ _).2 q)
      refine lv_iload (pc := 39) hx hb dU_rounded_39 (lv_at hl 6 rfl) ?_
      refine lv_iconst (v := 1) (pc := 41) hx hb dU_rounded_41 (by decide) ?_
      refine lv_iadd (pc := 42) hx hb dU_rounded_42 ?_
      refine lv_goto (tgt := 48) (pc := 43) hx hb dU_rounded_43 (by decide) ?_
      exact J48 f9 v2 (jShl u6 (C_U_freePlaces u6)) (C_U_freePlaces u6) (u5 + 1) ls _ _ (lv_sub hl [2, 3, 4, 0, 1] rfl) hw hS ((show C_U_rounded_48 md f9 i v2 (jShl u6 (C_U_freePlaces u6)) (C_U_freePlaces u6) (u5 + 1) = C_U_rounded_17 md f9 i v2 u3 u5 u6 from by rw [C_U_rounded_17, if_neg h101]).trans he)
  refine lv_lload_n (pc := 0) hx hb dU_rounded_0 rfl (lv_at hl 3 rfl) ?_
  refine lv_lconst (v := 0) (pc := 1) hx hb dU_rounded_1 (by decide) ?_
  refine W.lcmp (pc := 2) hx hb dU_rounded_2 ?_
  refine lv_if_ge (tgt := 16) (pc := 3) hx hb dU_rounded_3 (by decide) (fun h1 => ?_) (fun h1 => ?_)
  · skip
    have h1 : 0 ≤ x3 := (lg_cmp_ge _ _).1 h1
    refine lv_lload_n (pc := 16) hx hb dU_rounded_16 rfl (lv_at hl 3 rfl) ?_
    exact J17 fl z2 x3 k4 x3 ls _ _ (lv_sub hl [0, 1, 2, 3, 4] rfl) hw hS ((show C_U_rounded_17 md fl i z2 x3 k4 x3 = C_U_rounded md fl i z2 x3 k4 from by rw [C_U_rounded, if_pos h1]))
  · skip
    have h1 : ¬ (0 ≤ x3) := fun q => h1 ((lg_cmp_ge _ _).2 q)
    refine lv_lload_n (pc := 6) hx hb dU_rounded_6 rfl (lv_at hl 3 rfl) ?_
    refine lv_iconst (v := 1) (pc := 7) hx hb dU_rounded_7 (by decide) ?_
    refine lv_lushr (v := jUshr x3 1) (pc := 8) hx hb dU_rounded_8 rfl ?_
    refine lv_lload_n (pc := 9) hx hb dU_rounded_9 rfl (lv_at hl 3 rfl) ?_
    refine lv_lconst (v := 1) (pc := 10) hx hb dU_rounded_10 (by decide) ?_
    refine lv_land (pc := 11) hx hb dU_rounded_11 ?_
    refine lv_lor (pc := 12) hx hb dU_rounded_12 ?_
    refine lv_goto (tgt := 17) (pc := 13) hx hb dU_rounded_13 (by decide) ?_
    exact J17 fl z2 x3 k4 ((jUshr x3 1) ||| (x3 &&& 1)) ls _ _ (lv_sub hl [0, 1, 2, 3, 4] rfl) hw hS ((show C_U_rounded_17 md fl i z2 x3 k4 ((jUshr x3 1) ||| (x3 &&& 1)) = C_U_rounded md fl i z2 x3 k4 from by rw [C_U_rounded, if_neg h1]))
end
section
/-! The operations of the unit (by program). -/
def C_U_quotientByZero (md : Int32) (fl : Int32) (i : Nat) (x2 : Int64) (z3 : Bool) : Int64 × Int32 :=
  if (C_F_isZero i x2) = false then
    (C_F_endless i z3, C_U_raise md fl 8)
  else
    ((C_U_invalid md fl i).1, (C_U_invalid md fl i).2)
abbrev rmU_quotientByZero : Room := { frames := 2, cells := 0, slots := 0, locals := 44 }
theorem cwU_quotientByZero {R : Room} {s : State} {args : Array Value} {w0 : Cond} {own : String} {idx : Nat} (hts : ∀ w ∈ (w0 :: bigW), w.before args s = true) (hl : Cond.methodLink own idx yU_quotientByZero ∈ bigW) (hR : rmU_quotientByZero.frames + 1 ≤ R.frames ∧ 8 + (5 + 11) + rmU_quotientByZero.locals ≤ R.locals) : CallW R s args own "FloatUnit" idx yU_quotientByZero cU_quotientByZero 5 (some .long) (wsM yU_quotientByZero cU_quotientByZero 5 (some .long)) rmU_quotientByZero 0 0 3 :=
  cwV 3 hts (big_V hl w_266 sel_U_quotientByZero w_1 w_267) rfl rfl rfl ⟨rfl, by decide, by decide, by decide +kernel⟩ hR
set_option maxRecDepth 100000 in
set_option maxHeartbeats 8000000 in
theorem c_U_quotientByZero (l : Launch) (ad : Nat → Nat) (D : va_G) (cA : ClassId) (h0 r0 : Nat) {i : Nat} (hi : i < 2) (md fl : Int32) (rg : Nat → Int64) (x2 : Int64) (z3 : Bool) : FuM l ad D cA h0 r0 yU_quotientByZero (wsM yU_quotientByZero cU_quotientByZero 5 (some .long)) rmU_quotientByZero [.ref (ad i), .long x2, .int (bI z3)] md fl rg (some (.long ((C_U_quotientByZero md fl i x2 z3).1))) md (C_U_quotientByZero md fl i x2 z3).2 rg := by
  refine fu_ofL (cc := cU_quotientByZero) (maxL := 5) (by decide) rfl (Nat.le_of_ble_eq_true rfl) ?_
  intro p e s m args below meth c Q hx hb hml hown hts hF H locs hS hw hret ls hl
  have hl : lv_has ls 5 [(0, .ref h0), (1, .ref (ad i)), (2, .long x2), (4, .int (bI z3))] := hl
  refine lv_aload_n (pc := 0) hx hb dU_quotientByZero_0 rfl (lv_at hl 1 rfl) ?_
  refine lv_lload_n (pc := 1) hx hb dU_quotientByZero_1 rfl (lv_at hl 2 rfl) ?_
  refine pu_V (pc := 2) (i := i) (rest := []) ⟨hx, hb, hml, hown, hts⟩ hi (c_F_isZero l ad hi x2) (cwF_isZero hts w_252 ⟨by decide, by decide⟩) hF hS rfl hl.1 rfl (Nat.le_of_ble_eq_true rfl) dU_quotientByZero_2 ⟨Nat.zero_le _, Nat.zero_le _⟩ ?_
  refine lv_if_eq (tgt := 14) (pc := 5) hx hb dU_quotientByZero_5 (by decide) (fun h1 => ?_) (fun h1 => ?_)
  · skip
    have h1 : (C_F_isZero i x2) = false := (bI_0 _).1 h1
    refine lv_aload_n (pc := 14) hx hb dU_quotientByZero_14 rfl (lv_at hl 0 rfl) ?_
    refine lv_bipush (v := 8) (pc := 15) hx hb dU_quotientByZero_15 (by decide) ?_
    refine fu_V (pc := 17) (rest := []) ⟨hx, hb, hml, hown, hts⟩ (c_U_raise l ad D cA h0 r0  md fl rg 8) (cwU_raise hts w_176 ⟨by decide, by decide⟩) hF hw hS rfl hl.1 rfl (Nat.le_of_ble_eq_true rfl) dU_quotientByZero_17 ⟨Nat.zero_le _, Nat.zero_le _⟩ (fun H locs hw hS => ?_)
    refine W.eq (g2 := F0 m 20 ls []) rfl ?_
    refine lv_aload_n (pc := 20) hx hb dU_quotientByZero_20 rfl (lv_at hl 1 rfl) ?_
    refine lv_iload (pc := 21) hx hb dU_quotientByZero_21 (lv_at hl 3 rfl) ?_
    refine pu_V (pc := 23) (i := i) (rest := []) ⟨hx, hb, hml, hown, hts⟩ hi (c_F_endless l ad hi z3) (cwF_endless hts w_234 ⟨by decide, by decide⟩) hF hS rfl hl.1 rfl (Nat.le_of_ble_eq_true rfl) dU_quotientByZero_23 ⟨Nat.zero_le _, Nat.zero_le _⟩ ?_
    have he9 := (show (C_F_endless i z3, C_U_raise md fl 8) = C_U_quotientByZero md fl i x2 z3 from by rw [C_U_quotientByZero, if_pos h1])
    exact hret _ _ _ _ _ _ _ _ (congrArg Prod.fst he9) rfl (congrArg Prod.snd he9) rfl hw hS dU_quotientByZero_26
  · skip
    have h1 : ¬ ((C_F_isZero i x2) = false) := fun q => h1 ((bI_0 _).2 q)
    refine lv_aload_n (pc := 8) hx hb dU_quotientByZero_8 rfl (lv_at hl 0 rfl) ?_
    refine lv_aload_n (pc := 9) hx hb dU_quotientByZero_9 rfl (lv_at hl 1 rfl) ?_
    refine fu_V (pc := 10) (rest := []) ⟨hx, hb, hml, hown, hts⟩ (c_U_invalid l ad D cA h0 r0 hi md fl rg ) (cwU_invalid hts w_172 ⟨by decide, by decide⟩) hF hw hS rfl hl.1 rfl (Nat.le_of_ble_eq_true rfl) dU_quotientByZero_10 ⟨Nat.zero_le _, Nat.zero_le _⟩ (fun H locs hw hS => ?_)
    refine W.eq (g2 := F0 m 13 ls [.long ((C_U_invalid md fl i).1)]) rfl ?_
    have he9 := (show ((C_U_invalid md fl i).1, (C_U_invalid md fl i).2) = C_U_quotientByZero md fl i x2 z3 from by rw [C_U_quotientByZero, if_neg h1])
    exact hret _ _ _ _ _ _ _ _ (congrArg Prod.fst he9) rfl (congrArg Prod.snd he9) rfl hw hS dU_quotientByZero_13
def C_U_sum_102 (md f9 : Int32) (i : Nat) (u2 : Int64) (v6 : Bool) (u7 : Int32) (u8 : Int64) : Int64 × Int32 :=
  if u8 = 0 then
    if v6 = false then
      if md = 3 then
        (C_F_zero i true, f9)
      else
        (C_F_zero i false, f9)
    else
      (C_F_zero i (C_F_isMinus i u2), f9)
  else
    if 0 ≤ u8 then
      ((C_U_rounded md f9 i false u8 u7).1, (C_U_rounded md f9 i false u8 u7).2)
    else
      ((C_U_rounded md f9 i true (-u8) u7).1, (C_U_rounded md f9 i true (-u8) u7).2)
def C_U_sum_19 (md f9 : Int32) (i : Nat) (u2 : Int64) (u4 : Int64) (v6 : Bool) : Int64 × Int32 :=
  if (C_F_isEndless i u2) = false then
    if (C_F_isEndless i u4) = false then
      C_U_sum_102 md f9 i u2 v6 ((jMax (C_F_power i u2) (C_F_power i u4)) - 9) ((C_U_term i u2 ((jMax (C_F_power i u2) (C_F_power i u4)) - 9)) + (C_U_term i u4 ((jMax (C_F_power i u2) (C_F_power i u4)) - 9)))
    else
      (u4, f9)
  else
    if (C_F_isEndless i u4) = false then
      (u2, f9)
    else
      if v6 = false then
        ((C_U_invalid md f9 i).1, (C_U_invalid md f9 i).2)
      else
        (u2, f9)
def C_U_sum (md : Int32) (fl : Int32) (i : Nat) (x2 : Int64) (x3 : Int64) : Int64 × Int32 :=
  if (bI (C_F_isMinus i x2)) = (bI (C_F_isMinus i x3)) then
    C_U_sum_19 md fl i x2 x3 true
  else
    C_U_sum_19 md fl i x2 x3 false
abbrev rmU_sum : Room := { frames := 4, cells := 0, slots := 0, locals := 104 }
theorem cwU_sum {R : Room} {s : State} {args : Array Value} {w0 : Cond} {own : String} {idx : Nat} (hts : ∀ w ∈ (w0 :: bigW), w.before args s = true) (hl : Cond.methodLink own idx yU_sum ∈ bigW) (hR : rmU_sum.frames + 1 ≤ R.frames ∧ 8 + (10 + 11) + rmU_sum.locals ≤ R.locals) : CallW R s args own "FloatUnit" idx yU_sum cU_sum 10 (some .long) (wsM yU_sum cU_sum 10 (some .long)) rmU_sum 0 0 3 :=
  cwV 3 hts (big_V hl w_162 sel_U_sum w_1 w_163) rfl rfl rfl ⟨rfl, by decide, by decide, by decide +kernel⟩ hR
set_option maxRecDepth 100000 in
set_option maxHeartbeats 8000000 in
theorem c_U_sum (l : Launch) (ad : Nat → Nat) (D : va_G) (cA : ClassId) (h0 r0 : Nat) {i : Nat} (hi : i < 2) (md fl : Int32) (rg : Nat → Int64) (x2 : Int64) (x3 : Int64) : FuM l ad D cA h0 r0 yU_sum (wsM yU_sum cU_sum 10 (some .long)) rmU_sum [.ref (ad i), .long x2, .long x3] md fl rg (some (.long ((C_U_sum md fl i x2 x3).1))) md (C_U_sum md fl i x2 x3).2 rg := by
  refine fu_ofL (cc := cU_sum) (maxL := 10) (by decide) rfl (Nat.le_of_ble_eq_true rfl) ?_
  intro p e s m args below meth c Q hx hb hml hown hts hF H locs hS hw hret ls hl
  have hl : lv_has ls 10 [(0, .ref h0), (1, .ref (ad i)), (2, .long x2), (4, .long x3)] := hl
  have J102 : ∀ (f9 : Int32) (u2 : Int64) (v6 : Bool) (u7 : Int32) (u8 : Int64) (ls : Array Slot) (H : Heap) (locs : List Loc), lv_has ls 10 [(0, .ref h0), (1, .ref (ad i)), (2, .long u2), (6, .int (bI v6)), (7, .int u7), (8, .long u8)] → FUw D cA h0 r0 md f9 rg s H → va_S (fA h0 r0) s.heap H locs → C_U_sum_102 md f9 i u2 v6 u7 u8 = C_U_sum md fl i x2 x3 → W p l e rmU_sum s m args below meth c H locs 0 0 Q (F0 m 102 ls []) := by
    intro f9 u2 v6 u7 u8 ls H locs hl hw hS he
    refine lv_lload (pc := 102) hx hb dU_sum_102 (lv_at hl 5 rfl) ?_
    refine lv_lconst (v := 0) (pc := 104) hx hb dU_sum_104 (by decide) ?_
    refine W.lcmp (pc := 105) hx hb dU_sum_105 ?_
    refine lv_if_ne (tgt := 140) (pc := 106) hx hb dU_sum_106 (by decide) (fun h201 => ?_) (fun h201 => ?_)
    · skip
      have h201 : ¬ (u8 = 0) := fun q => h201 ((lg_cmp_eq _ _).2 q)
      refine lv_aload_n (pc := 140) hx hb dU_sum_140 rfl (lv_at hl 0 rfl) ?_
      refine lv_aload_n (pc := 141) hx hb dU_sum_141 rfl (lv_at hl 1 rfl) ?_
      refine lv_lload (pc := 142) hx hb dU_sum_142 (lv_at hl 5 rfl) ?_
      refine lv_lconst (v := 0) (pc := 144) hx hb dU_sum_144 (by decide) ?_
      refine W.lcmp (pc := 145) hx hb dU_sum_145 ?_
      refine lv_if_ge (tgt := 153) (pc := 146) hx hb dU_sum_146 (by decide) (fun h202 => ?_) (fun h202 => ?_)
      · skip
        have h202 : 0 ≤ u8 := (lg_cmp_ge _ _).1 h202
        refine lv_iconst (v := 0) (pc := 153) hx hb dU_sum_153 (by decide) ?_
        refine lv_lload (pc := 154) hx hb dU_sum_154 (lv_at hl 5 rfl) ?_
        refine lv_lconst (v := 0) (pc := 156) hx hb dU_sum_156 (by decide) ?_
        refine W.lcmp (pc := 157) hx hb dU_sum_157 ?_
        refine lv_if_ge (tgt := 167) (pc := 158) hx hb dU_sum_158 (by decide) (fun h203 => ?_) (fun h203 => ?_)
        · skip
          refine lv_lload (pc := 167) hx hb dU_sum_167 (lv_at hl 5 rfl) ?_
          refine lv_iload (pc := 169) hx hb dU_sum_169 (lv_at hl 4 rfl) ?_
          refine fu_V (pc := 171) (rest := []) ⟨hx, hb, hml, hown, hts⟩ (c_U_rounded l ad D cA h0 r0 hi md f9 rg false u8 u7) (cwU_rounded hts w_221 ⟨by decide, by decide⟩) hF hw hS rfl hl.1 rfl (Nat.le_of_ble_eq_true rfl) dU_sum_171 ⟨Nat.zero_le _, Nat.zero_le _⟩ (fun H locs hw hS => ?_)
          refine W.eq (g2 := F0 m 174 ls [.long ((C_U_rounded md f9 i false u8 u7).1)]) rfl ?_
          have he9 := (show ((C_U_rounded md f9 i false u8 u7).1, (C_U_rounded md f9 i false u8 u7).2) = C_U_sum_102 md f9 i u2 v6 u7 u8 from by rw [C_U_sum_102, if_neg h201, if_pos h202]).trans he
          exact hret _ _ _ _ _ _ _ _ (congrArg Prod.fst he9) rfl (congrArg Prod.snd he9) rfl hw hS dU_sum_174
        · exact absurd h202 (fun q => h203 ((lg_cmp_ge _ _).2 q))
      · skip
        have h202 : ¬ (0 ≤ u8) := fun q => h202 ((lg_cmp_ge _ _).2 q)
        refine lv_iconst (v := 1) (pc := 149) hx hb dU_sum_149 (by decide) ?_
        refine lv_goto (tgt := 154) (pc := 150) hx hb dU_sum_150 (by decide) ?_
        refine lv_lload (pc := 154) hx hb dU_sum_154 (lv_at hl 5 rfl) ?_
        refine lv_lconst (v := 0) (pc := 156) hx hb dU_sum_156 (by decide) ?_
        refine W.lcmp (pc := 157) hx hb dU_sum_157 ?_
        refine lv_if_ge (tgt := 167) (pc := 158) hx hb dU_sum_158 (by decide) (fun h204 => ?_) (fun h204 => ?_)
        · exact absurd ((lg_cmp_ge _ _).1 h204) h202
        · skip
          refine lv_lload (pc := 161) hx hb dU_sum_161 (lv_at hl 5 rfl) ?_
          refine lv_lneg (pc := 163) hx hb dU_sum_163 ?_
          refine lv_goto (tgt := 169) (pc := 164) hx hb dU_sum_164 (by decide) ?_
          refine lv_iload (pc := 169) hx hb dU_sum_169 (lv_at hl 4 rfl) ?_
          refine fu_V (pc := 171) (rest := []) ⟨hx, hb, hml, hown, hts⟩ (c_U_rounded l ad D cA h0 r0 hi md f9 rg true (-u8) u7) (cwU_rounded hts w_221 ⟨by decide, by decide⟩) hF hw hS rfl hl.1 rfl (Nat.le_of_ble_eq_true rfl) dU_sum_171 ⟨Nat.zero_le _, Nat.zero_le _⟩ (fun H locs hw hS => ?_)
          refine W.eq (g2 := F0 m 174 ls [.long ((C_U_rounded md f9 i true (-u8) u7).1)]) rfl ?_
          have he9 := (show ((C_U_rounded md f9 i true (-u8) u7).1, (C_U_rounded md f9 i true (-u8) u7).2) = C_U_sum_102 md f9 i u2 v6 u7 u8 from by rw [C_U_sum_102, if_neg h201, if_neg h202]).trans he
          exact hret _ _ _ _ _ _ _ _ (congrArg Prod.fst he9) rfl (congrArg Prod.snd he9) rfl hw hS dU_sum_174
    · skip
      have h201 : u8 = 0 := (lg_cmp_eq _ _).1 h201
      refine lv_aload_n (pc := 109) hx hb dU_sum_109 rfl (lv_at hl 1 rfl) ?_
      refine lv_iload (pc := 110) hx hb dU_sum_110 (lv_at hl 3 rfl) ?_
      refine lv_if_eq (tgt := 123) (pc := 112) hx hb dU_sum_112 (by decide) (fun h205 => ?_) (fun h205 => ?_)
      · skip
        have h205 : v6 = false := (bI_0 _).1 h205
        refine lv_aload_n (pc := 123) hx hb dU_sum_123 rfl (lv_at hl 0 rfl) ?_
        refine fu_md (pc := 124) hx hb hts hown hw w_19 dU_sum_124 ?_
        refine lv_iconst (v := 3) (pc := 127) hx hb dU_sum_127 (by decide) ?_
        refine lv_icmp_ne (tgt := 135) (pc := 128) hx hb dU_sum_128 (by decide) (fun h206 => ?_) (fun h206 => ?_)
        · skip
          refine lv_iconst (v := 0) (pc := 135) hx hb dU_sum_135 (by decide) ?_
          refine pu_V (pc := 136) (i := i) (rest := []) ⟨hx, hb, hml, hown, hts⟩ hi (c_F_zero l ad hi false) (cwF_zero hts w_213 ⟨by decide, by decide⟩) hF hS rfl hl.1 rfl (Nat.le_of_ble_eq_true rfl) dU_sum_136 ⟨Nat.zero_le _, Nat.zero_le _⟩ ?_
          have he9 := (show (C_F_zero i false, f9) = C_U_sum_102 md f9 i u2 v6 u7 u8 from by rw [C_U_sum_102, if_pos h201, if_pos h205, if_neg h206]).trans he
          exact hret _ _ _ _ _ _ _ _ (congrArg Prod.fst he9) rfl (congrArg Prod.snd he9) rfl hw hS dU_sum_139
        · skip
          refine lv_iconst (v := 1) (pc := 131) hx hb dU_sum_131 (by decide) ?_
          refine lv_goto (tgt := 136) (pc := 132) hx hb dU_sum_132 (by decide) ?_
          refine pu_V (pc := 136) (i := i) (rest := []) ⟨hx, hb, hml, hown, hts⟩ hi (c_F_zero l ad hi true) (cwF_zero hts w_213 ⟨by decide, by decide⟩) hF hS rfl hl.1 rfl (Nat.le_of_ble_eq_true rfl) dU_sum_136 ⟨Nat.zero_le _, Nat.zero_le _⟩ ?_
          have he9 := (show (C_F_zero i true, f9) = C_U_sum_102 md f9 i u2 v6 u7 u8 from by rw [C_U_sum_102, if_pos h201, if_pos h205, if_pos h206]).trans he
          exact hret _ _ _ _ _ _ _ _ (congrArg Prod.fst he9) rfl (congrArg Prod.snd he9) rfl hw hS dU_sum_139
      · skip
        have h205 : ¬ (v6 = false) := fun q => h205 ((bI_0 _).2 q)
        refine lv_aload_n (pc := 115) hx hb dU_sum_115 rfl (lv_at hl 1 rfl) ?_
        refine lv_lload_n (pc := 116) hx hb dU_sum_116 rfl (lv_at hl 2 rfl) ?_
        refine pu_V (pc := 117) (i := i) (rest := [.ref (ad i)]) ⟨hx, hb, hml, hown, hts⟩ hi (c_F_isMinus l ad hi u2) (cwF_isMinus hts w_164 ⟨by decide, by decide⟩) hF hS rfl hl.1 rfl (Nat.le_of_ble_eq_true rfl) dU_sum_117 ⟨Nat.zero_le _, Nat.zero_le _⟩ ?_
        refine lv_goto (tgt := 136) (pc := 120) hx hb dU_sum_120 (by decide) ?_
        refine pu_V (pc := 136) (i := i) (rest := []) ⟨hx, hb, hml, hown, hts⟩ hi (c_F_zero l ad hi (C_F_isMinus i u2)) (cwF_zero hts w_213 ⟨by decide, by decide⟩) hF hS rfl hl.1 rfl (Nat.le_of_ble_eq_true rfl) dU_sum_136 ⟨Nat.zero_le _, Nat.zero_le _⟩ ?_
        have he9 := (show (C_F_zero i (C_F_isMinus i u2), f9) = C_U_sum_102 md f9 i u2 v6 u7 u8 from by rw [C_U_sum_102, if_pos h201, if_neg h205]).trans he
        exact hret _ _ _ _ _ _ _ _ (congrArg Prod.fst he9) rfl (congrArg Prod.snd he9) rfl hw hS dU_sum_139
  have J19 : ∀ (f9 : Int32) (u2 : Int64) (u4 : Int64) (v6 : Bool) (ls : Array Slot) (H : Heap) (locs : List Loc), lv_has ls 10 [(0, .ref h0), (1, .ref (ad i)), (2, .long u2), (4, .long u4)] → FUw D cA h0 r0 md f9 rg s H → va_S (fA h0 r0) s.heap H locs → C_U_sum_19 md f9 i u2 u4 v6 = C_U_sum md fl i x2 x3 → W p l e rmU_sum s m args below meth c H locs 0 0 Q (F0 m 19 ls [.int (bI v6)]) := by
    intro f9 u2 u4 v6 ls H locs hl hw hS he
    refine lv_istore (lv' := [(6, .int (bI v6)), (0, .ref h0), (1, .ref (ad i)), (2, .long u2), (4, .long u4)]) (pc := 19) hx hb dU_sum_19 hl (by decide) rfl (fun ls hl => ?_)
    refine lv_aload_n (pc := 21) hx hb dU_sum_21 rfl (lv_at hl 2 rfl) ?_
    refine lv_lload_n (pc := 22) hx hb dU_sum_22 rfl (lv_at hl 3 rfl) ?_
    refine pu_V (pc := 23) (i := i) (rest := []) ⟨hx, hb, hml, hown, hts⟩ hi (c_F_isEndless l ad hi u2) (cwF_isEndless hts w_168 ⟨by decide, by decide⟩) hF hS rfl hl.1 rfl (Nat.le_of_ble_eq_true rfl) dU_sum_23 ⟨Nat.zero_le _, Nat.zero_le _⟩ ?_
    refine lv_if_eq (tgt := 53) (pc := 26) hx hb dU_sum_26 (by decide) (fun h101 => ?_) (fun h101 => ?_)
    · skip
      have h101 : (C_F_isEndless i u2) = false := (bI_0 _).1 h101
      refine lv_aload_n (pc := 53) hx hb dU_sum_53 rfl (lv_at hl 2 rfl) ?_
      refine lv_lload (pc := 54) hx hb dU_sum_54 (lv_at hl 4 rfl) ?_
      refine pu_V (pc := 56) (i := i) (rest := []) ⟨hx, hb, hml, hown, hts⟩ hi (c_F_isEndless l ad hi u4) (cwF_isEndless hts w_168 ⟨by decide, by decide⟩) hF hS rfl hl.1 rfl (Nat.le_of_ble_eq_true rfl) dU_sum_56 ⟨Nat.zero_le _, Nat.zero_le _⟩ ?_
      refine lv_if_eq (tgt := 65) (pc := 59) hx hb dU_sum_59 (by decide) (fun h102 => ?_) (fun h102 => ?_)
      · skip
        have h102 : (C_F_isEndless i u4) = false := (bI_0 _).1 h102
        refine lv_aload_n (pc := 65) hx hb dU_sum_65 rfl (lv_at hl 2 rfl) ?_
        refine lv_lload_n (pc := 66) hx hb dU_sum_66 rfl (lv_at hl 3 rfl) ?_
        refine pu_V (pc := 67) (i := i) (rest := []) ⟨hx, hb, hml, hown, hts⟩ hi (c_F_power l ad hi u2) (cwF_power hts w_180 ⟨by decide, by decide⟩) hF hS rfl hl.1 rfl (Nat.le_of_ble_eq_true rfl) dU_sum_67 ⟨Nat.zero_le _, Nat.zero_le _⟩ ?_
        refine lv_aload_n (pc := 70) hx hb dU_sum_70 rfl (lv_at hl 2 rfl) ?_
        refine lv_lload (pc := 71) hx hb dU_sum_71 (lv_at hl 4 rfl) ?_
        refine pu_V (pc := 73) (i := i) (rest := [.int (C_F_power i u2)]) ⟨hx, hb, hml, hown, hts⟩ hi (c_F_power l ad hi u4) (cwF_power hts w_180 ⟨by decide, by decide⟩) hF hS rfl hl.1 rfl (Nat.le_of_ble_eq_true rfl) dU_sum_73 ⟨Nat.zero_le _, Nat.zero_le _⟩ ?_
        refine va_mmax (pc := 76) hx hb (hml.trans hl.1.symm) hown (hts _ (List.mem_cons_of_mem _ w_202)) (hts _ (List.mem_cons_of_mem _ w_185)) (hts _ (List.mem_cons_of_mem _ w_9)) (hts _ (List.mem_cons_of_mem _ w_186)) (by decide) (Nat.le_of_ble_eq_true rfl) (Nat.zero_le _) (Nat.zero_le _) dU_sum_76 ?_
        refine lv_topi (fun v101 e101 => ?_)
        obtain rfl : v101 = jMax (C_F_power i u2) (C_F_power i u4) := e101
        refine lv_bipush (v := 9) (pc := 79) hx hb dU_sum_79 (by decide) ?_
        refine lv_isub (pc := 81) hx hb dU_sum_81 ?_
        refine lv_istore (lv' := [(7, .int ((jMax (C_F_power i u2) (C_F_power i u4)) - 9)), (6, .int (bI v6)), (0, .ref h0), (1, .ref (ad i)), (2, .long u2), (4, .long u4)]) (pc := 82) hx hb dU_sum_82 hl (by decide) rfl (fun ls hl => ?_)
        refine lv_aload_n (pc := 84) hx hb dU_sum_84 rfl (lv_at hl 3 rfl) ?_
        refine lv_lload_n (pc := 85) hx hb dU_sum_85 rfl (lv_at hl 4 rfl) ?_
        refine lv_iload (pc := 86) hx hb dU_sum_86 (lv_at hl 0 rfl) ?_
        refine pu_S (pc := 88) (rest := []) ⟨hx, hb, hml, hown, hts⟩ (c_U_term l ad hi u2 ((jMax (C_F_power i u2) (C_F_power i u4)) - 9)) (cwU_term hts w_203 ⟨by decide, by decide⟩) hF hS rfl hl.1 rfl (Nat.le_of_ble_eq_true rfl) dU_sum_88 ⟨Nat.zero_le _, Nat.zero_le _⟩ ?_
        refine lv_aload_n (pc := 91) hx hb dU_sum_91 rfl (lv_at hl 3 rfl) ?_
        refine lv_lload (pc := 92) hx hb dU_sum_92 (lv_at hl 5 rfl) ?_
        refine lv_iload (pc := 94) hx hb dU_sum_94 (lv_at hl 0 rfl) ?_
        refine pu_S (pc := 96) (rest := [.long (C_U_term i u2 ((jMax (C_F_power i u2) (C_F_power i u4)) - 9))]) ⟨hx, hb, hml, hown, hts⟩ (c_U_term l ad hi u4 ((jMax (C_F_power i u2) (C_F_power i u4)) - 9)) (cwU_term hts w_203 ⟨by decide, by decide⟩) hF hS rfl hl.1 rfl (Nat.le_of_ble_eq_true rfl) dU_sum_96 ⟨Nat.zero_le _, Nat.zero_le _⟩ ?_
        refine lv_ladd (pc := 99) hx hb dU_sum_99 ?_
        refine lv_lstore (lv' := [(8, .long ((C_U_term i u2 ((jMax (C_F_power i u2) (C_F_power i u4)) - 9)) + (C_U_term i u4 ((jMax (C_F_power i u2) (C_F_power i u4)) - 9)))), (7, .int ((jMax (C_F_power i u2) (C_F_power i u4)) - 9)), (6, .int (bI v6)), (0, .ref h0), (1, .ref (ad i)), (2, .long u2), (4, .long u4)]) (pc := 100) hx hb dU_sum_100 hl (by decide) rfl (fun ls hl => ?_)
        exact J102 f9 u2 v6 ((jMax (C_F_power i u2) (C_F_power i u4)) - 9) ((C_U_term i u2 ((jMax (C_F_power i u2) (C_F_power i u4)) - 9)) + (C_U_term i u4 ((jMax (C_F_power i u2) (C_F_power i u4)) - 9))) ls _ _ (lv_sub hl [3, 4, 5, 2, 1, 0] rfl) hw hS ((show C_U_sum_102 md f9 i u2 v6 ((jMax (C_F_power i u2) (C_F_power i u4)) - 9) ((C_U_term i u2 ((jMax (C_F_power i u2) (C_F_power i u4)) - 9)) + (C_U_term i u4 ((jMax (C_F_power i u2) (C_F_power i u4)) - 9))) = C_U_sum_19 md f9 i u2 u4 v6 from by rw [C_U_sum_19, if_pos h101, if_pos h102]).trans he)
      · skip
        have h102 : ¬ ((C_F_isEndless i u4) = false) := fun q => h102 ((bI_0 _).2 q)
        refine lv_lload (pc := 62) hx hb dU_sum_62 (lv_at hl 4 rfl) ?_
        have he9 := (show (u4, f9) = C_U_sum_19 md f9 i u2 u4 v6 from by rw [C_U_sum_19, if_pos h101, if_neg h102]).trans he
        exact hret _ _ _ _ _ _ _ _ (congrArg Prod.fst he9) rfl (congrArg Prod.snd he9) rfl hw hS dU_sum_64
    · skip
      have h101 : ¬ ((C_F_isEndless i u2) = false) := fun q => h101 ((bI_0 _).2 q)
      refine lv_aload_n (pc := 29) hx hb dU_sum_29 rfl (lv_at hl 2 rfl) ?_
      refine lv_lload (pc := 30) hx hb dU_sum_30 (lv_at hl 4 rfl) ?_
      refine pu_V (pc := 32) (i := i) (rest := []) ⟨hx, hb, hml, hown, hts⟩ hi (c_F_isEndless l ad hi u4) (cwF_isEndless hts w_168 ⟨by decide, by decide⟩) hF hS rfl hl.1 rfl (Nat.le_of_ble_eq_true rfl) dU_sum_32 ⟨Nat.zero_le _, Nat.zero_le _⟩ ?_
      refine lv_if_eq (tgt := 51) (pc := 35) hx hb dU_sum_35 (by decide) (fun h103 => ?_) (fun h103 => ?_)
      · skip
        have h103 : (C_F_isEndless i u4) = false := (bI_0 _).1 h103
        refine lv_lload_n (pc := 51) hx hb dU_sum_51 rfl (lv_at hl 3 rfl) ?_
        have he9 := (show (u2, f9) = C_U_sum_19 md f9 i u2 u4 v6 from by rw [C_U_sum_19, if_neg h101, if_pos h103]).trans he
        exact hret _ _ _ _ _ _ _ _ (congrArg Prod.fst he9) rfl (congrArg Prod.snd he9) rfl hw hS dU_sum_52
      · skip
        have h103 : ¬ ((C_F_isEndless i u4) = false) := fun q => h103 ((bI_0 _).2 q)
        refine lv_iload (pc := 38) hx hb dU_sum_38 (lv_at hl 0 rfl) ?_
        refine lv_if_ne (tgt := 51) (pc := 40) hx hb dU_sum_40 (by decide) (fun h104 => ?_) (fun h104 => ?_)
        · skip
          have h104 : ¬ (v6 = false) := fun q => h104 ((bI_0 _).2 q)
          refine lv_lload_n (pc := 51) hx hb dU_sum_51 rfl (lv_at hl 3 rfl) ?_
          have he9 := (show (u2, f9) = C_U_sum_19 md f9 i u2 u4 v6 from by rw [C_U_sum_19, if_neg h101, if_neg h103, if_neg h104]).trans he
          exact hret _ _ _ _ _ _ _ _ (congrArg Prod.fst he9) rfl (congrArg Prod.snd he9) rfl hw hS dU_sum_52
        · skip
          have h104 : v6 = false := (bI_0 _).1 h104
          refine lv_aload_n (pc := 43) hx hb dU_sum_43 rfl (lv_at hl 1 rfl) ?_
          refine lv_aload_n (pc := 44) hx hb dU_sum_44 rfl (lv_at hl 2 rfl) ?_
          refine fu_V (pc := 45) (rest := []) ⟨hx, hb, hml, hown, hts⟩ (c_U_invalid l ad D cA h0 r0 hi md f9 rg ) (cwU_invalid hts w_172 ⟨by decide, by decide⟩) hF hw hS rfl hl.1 rfl (Nat.le_of_ble_eq_true rfl) dU_sum_45 ⟨Nat.zero_le _, Nat.zero_le _⟩ (fun H locs hw hS => ?_)
          refine W.eq (g2 := F0 m 48 ls [.long ((C_U_invalid md f9 i).1)]) rfl ?_
          refine lv_goto (tgt := 52) (pc := 48) hx hb dU_sum_48 (by decide) ?_
          have he9 := (show ((C_U_invalid md f9 i).1, (C_U_invalid md f9 i).2) = C_U_sum_19 md f9 i u2 u4 v6 from by rw [C_U_sum_19, if_neg h101, if_neg h103, if_pos h104]).trans he
          exact hret _ _ _ _ _ _ _ _ (congrArg Prod.fst he9) rfl (congrArg Prod.snd he9) rfl hw hS dU_sum_52
  refine lv_aload_n (pc := 0) hx hb dU_sum_0 rfl (lv_at hl 1 rfl) ?_
  refine lv_lload_n (pc := 1) hx hb dU_sum_1 rfl (lv_at hl 2 rfl) ?_
  refine pu_V (pc := 2) (i := i) (rest := []) ⟨hx, hb, hml, hown, hts⟩ hi (c_F_isMinus l ad hi x2) (cwF_isMinus hts w_164 ⟨by decide, by decide⟩) hF hS rfl hl.1 rfl (Nat.le_of_ble_eq_true rfl) dU_sum_2 ⟨Nat.zero_le _, Nat.zero_le _⟩ ?_
  refine lv_aload_n (pc := 5) hx hb dU_sum_5 rfl (lv_at hl 1 rfl) ?_
  refine lv_lload (pc := 6) hx hb dU_sum_6 (lv_at hl 3 rfl) ?_
  refine pu_V (pc := 8) (i := i) (rest := [.int (bI (C_F_isMinus i x2))]) ⟨hx, hb, hml, hown, hts⟩ hi (c_F_isMinus l ad hi x3) (cwF_isMinus hts w_164 ⟨by decide, by decide⟩) hF hS rfl hl.1 rfl (Nat.le_of_ble_eq_true rfl) dU_sum_8 ⟨Nat.zero_le _, Nat.zero_le _⟩ ?_
  refine lv_icmp_ne (tgt := 18) (pc := 11) hx hb dU_sum_11 (by decide) (fun h1 => ?_) (fun h1 => ?_)
  · skip
    refine lv_iconst (v := 0) (pc := 18) hx hb dU_sum_18 (by decide) ?_
    exact J19 fl x2 x3 false ls _ _ (lv_sub hl [0, 1, 2, 3] rfl) hw hS ((show C_U_sum_19 md fl i x2 x3 false = C_U_sum md fl i x2 x3 from by rw [C_U_sum, if_neg h1]))
  · skip
    refine lv_iconst (v := 1) (pc := 14) hx hb dU_sum_14 (by decide) ?_
    refine lv_goto (tgt := 19) (pc := 15) hx hb dU_sum_15 (by decide) ?_
    exact J19 fl x2 x3 true ls _ _ (lv_sub hl [0, 1, 2, 3] rfl) hw hS ((show C_U_sum_19 md fl i x2 x3 true = C_U_sum md fl i x2 x3 from by rw [C_U_sum, if_pos h1]))
def C_U_product_43 (md f9 : Int32) (i : Nat) (u2 : Int64) (u4 : Int64) (v6 : Bool) (v7 : Bool) : Int64 × Int32 :=
  if (C_F_isEndless i u2) = false then
    if (C_F_isEndless i u4) = false then
      if v7 = false then
        ((C_U_rounded md f9 i v6 (C_U_upperProduct (jShl (C_F_significand i u2) 10) (jShl (C_F_significand i u4) 10)) ((((C_F_power i u2) + (C_F_power i u4)) - 20) + 64)).1, (C_U_rounded md f9 i v6 (C_U_upperProduct (jShl (C_F_significand i u2) 10) (jShl (C_F_significand i u4) 10)) ((((C_F_power i u2) + (C_F_power i u4)) - 20) + 64)).2)
      else
        (C_F_zero i v6, f9)
    else
      if v7 = false then
        (C_F_endless i v6, f9)
      else
        ((C_U_invalid md f9 i).1, (C_U_invalid md f9 i).2)
  else
    if v7 = false then
      (C_F_endless i v6, f9)
    else
      ((C_U_invalid md f9 i).1, (C_U_invalid md f9 i).2)
def C_U_product_19 (md f9 : Int32) (i : Nat) (u2 : Int64) (u4 : Int64) (v6 : Bool) : Int64 × Int32 :=
  if (C_F_isZero i u2) = false then
    if (C_F_isZero i u4) = false then
      C_U_product_43 md f9 i u2 u4 v6 false
    else
      C_U_product_43 md f9 i u2 u4 v6 true
  else
    C_U_product_43 md f9 i u2 u4 v6 true
def C_U_product (md : Int32) (fl : Int32) (i : Nat) (x2 : Int64) (x3 : Int64) : Int64 × Int32 :=
  if (bI (C_F_isMinus i x2)) = (bI (C_F_isMinus i x3)) then
    C_U_product_19 md fl i x2 x3 false
  else
    C_U_product_19 md fl i x2 x3 true
abbrev rmU_product : Room := { frames := 4, cells := 0, slots := 0, locals := 104 }
theorem cwU_product {R : Room} {s : State} {args : Array Value} {w0 : Cond} {own : String} {idx : Nat} (hts : ∀ w ∈ (w0 :: bigW), w.before args s = true) (hl : Cond.methodLink own idx yU_product ∈ bigW) (hR : rmU_product.frames + 1 ≤ R.frames ∧ 8 + (11 + 11) + rmU_product.locals ≤ R.locals) : CallW R s args own "FloatUnit" idx yU_product cU_product 11 (some .long) (wsM yU_product cU_product 11 (some .long)) rmU_product 0 0 3 :=
  cwV 3 hts (big_V hl w_250 sel_U_product w_1 w_251) rfl rfl rfl ⟨rfl, by decide, by decide, by decide +kernel⟩ hR
set_option maxRecDepth 100000 in
set_option maxHeartbeats 8000000 in
theorem c_U_product (l : Launch) (ad : Nat → Nat) (D : va_G) (cA : ClassId) (h0 r0 : Nat) {i : Nat} (hi : i < 2) (md fl : Int32) (rg : Nat → Int64) (x2 : Int64) (x3 : Int64) : FuM l ad D cA h0 r0 yU_product (wsM yU_product cU_product 11 (some .long)) rmU_product [.ref (ad i), .long x2, .long x3] md fl rg (some (.long ((C_U_product md fl i x2 x3).1))) md (C_U_product md fl i x2 x3).2 rg := by
  refine fu_ofL (cc := cU_product) (maxL := 11) (by decide) rfl (Nat.le_of_ble_eq_true rfl) ?_
  intro p e s m args below meth c Q hx hb hml hown hts hF H locs hS hw hret ls hl
  have hl : lv_has ls 11 [(0, .ref h0), (1, .ref (ad i)), (2, .long x2), (4, .long x3)] := hl
  have J43 : ∀ (f9 : Int32) (u2 : Int64) (u4 : Int64) (v6 : Bool) (v7 : Bool) (ls : Array Slot) (H : Heap) (locs : List Loc), lv_has ls 11 [(0, .ref h0), (1, .ref (ad i)), (2, .long u2), (4, .long u4), (6, .int (bI v6))] → FUw D cA h0 r0 md f9 rg s H → va_S (fA h0 r0) s.heap H locs → C_U_product_43 md f9 i u2 u4 v6 v7 = C_U_product md fl i x2 x3 → W p l e rmU_product s m args below meth c H locs 0 0 Q (F0 m 43 ls [.int (bI v7)]) := by
    intro f9 u2 u4 v6 v7 ls H locs hl hw hS he
    refine lv_istore (lv' := [(7, .int (bI v7)), (0, .ref h0), (1, .ref (ad i)), (2, .long u2), (4, .long u4), (6, .int (bI v6))]) (pc := 43) hx hb dU_product_43 hl (by decide) rfl (fun ls hl => ?_)
    refine lv_aload_n (pc := 45) hx hb dU_product_45 rfl (lv_at hl 2 rfl) ?_
    refine lv_lload_n (pc := 46) hx hb dU_product_46 rfl (lv_at hl 3 rfl) ?_
    refine pu_V (pc := 47) (i := i) (rest := []) ⟨hx, hb, hml, hown, hts⟩ hi (c_F_isEndless l ad hi u2) (cwF_isEndless hts w_168 ⟨by decide, by decide⟩) hF hS rfl hl.1 rfl (Nat.le_of_ble_eq_true rfl) dU_product_47 ⟨Nat.zero_le _, Nat.zero_le _⟩ ?_
    refine lv_if_ne (tgt := 62) (pc := 50) hx hb dU_product_50 (by decide) (fun h201 => ?_) (fun h201 => ?_)
    · skip
      have h201 : ¬ ((C_F_isEndless i u2) = false) := fun q => h201 ((bI_0 _).2 q)
      refine lv_iload (pc := 62) hx hb dU_product_62 (lv_at hl 0 rfl) ?_
      refine lv_if_eq (tgt := 75) (pc := 64) hx hb dU_product_64 (by decide) (fun h202 => ?_) (fun h202 => ?_)
      · skip
        have h202 : v7 = false := (bI_0 _).1 h202
        refine lv_aload_n (pc := 75) hx hb dU_product_75 rfl (lv_at hl 2 rfl) ?_
        refine lv_iload (pc := 76) hx hb dU_product_76 (lv_at hl 5 rfl) ?_
        refine pu_V (pc := 78) (i := i) (rest := []) ⟨hx, hb, hml, hown, hts⟩ hi (c_F_endless l ad hi v6) (cwF_endless hts w_234 ⟨by decide, by decide⟩) hF hS rfl hl.1 rfl (Nat.le_of_ble_eq_true rfl) dU_product_78 ⟨Nat.zero_le _, Nat.zero_le _⟩ ?_
        have he9 := (show (C_F_endless i v6, f9) = C_U_product_43 md f9 i u2 u4 v6 v7 from by rw [C_U_product_43, if_neg h201, if_pos h202]).trans he
        exact hret _ _ _ _ _ _ _ _ (congrArg Prod.fst he9) rfl (congrArg Prod.snd he9) rfl hw hS dU_product_81
      · skip
        have h202 : ¬ (v7 = false) := fun q => h202 ((bI_0 _).2 q)
        refine lv_aload_n (pc := 67) hx hb dU_product_67 rfl (lv_at hl 1 rfl) ?_
        refine lv_aload_n (pc := 68) hx hb dU_product_68 rfl (lv_at hl 2 rfl) ?_
        refine fu_V (pc := 69) (rest := []) ⟨hx, hb, hml, hown, hts⟩ (c_U_invalid l ad D cA h0 r0 hi md f9 rg ) (cwU_invalid hts w_172 ⟨by decide, by decide⟩) hF hw hS rfl hl.1 rfl (Nat.le_of_ble_eq_true rfl) dU_product_69 ⟨Nat.zero_le _, Nat.zero_le _⟩ (fun H locs hw hS => ?_)
        refine W.eq (g2 := F0 m 72 ls [.long ((C_U_invalid md f9 i).1)]) rfl ?_
        refine lv_goto (tgt := 81) (pc := 72) hx hb dU_product_72 (by decide) ?_
        have he9 := (show ((C_U_invalid md f9 i).1, (C_U_invalid md f9 i).2) = C_U_product_43 md f9 i u2 u4 v6 v7 from by rw [C_U_product_43, if_neg h201, if_neg h202]).trans he
        exact hret _ _ _ _ _ _ _ _ (congrArg Prod.fst he9) rfl (congrArg Prod.snd he9) rfl hw hS dU_product_81
    · skip
      have h201 : (C_F_isEndless i u2) = false := (bI_0 _).1 h201
      refine lv_aload_n (pc := 53) hx hb dU_product_53 rfl (lv_at hl 2 rfl) ?_
      refine lv_lload (pc := 54) hx hb dU_product_54 (lv_at hl 4 rfl) ?_
      refine pu_V (pc := 56) (i := i) (rest := []) ⟨hx, hb, hml, hown, hts⟩ hi (c_F_isEndless l ad hi u4) (cwF_isEndless hts w_168 ⟨by decide, by decide⟩) hF hS rfl hl.1 rfl (Nat.le_of_ble_eq_true rfl) dU_product_56 ⟨Nat.zero_le _, Nat.zero_le _⟩ ?_
      refine lv_if_eq (tgt := 82) (pc := 59) hx hb dU_product_59 (by decide) (fun h203 => ?_) (fun h203 => ?_)
      · skip
        have h203 : (C_F_isEndless i u4) = false := (bI_0 _).1 h203
        refine lv_iload (pc := 82) hx hb dU_product_82 (lv_at hl 0 rfl) ?_
        refine lv_if_eq (tgt := 94) (pc := 84) hx hb dU_product_84 (by decide) (fun h204 => ?_) (fun h204 => ?_)
        · skip
          have h204 : v7 = false := (bI_0 _).1 h204
          refine lv_aload_n (pc := 94) hx hb dU_product_94 rfl (lv_at hl 2 rfl) ?_
          refine lv_lload_n (pc := 95) hx hb dU_product_95 rfl (lv_at hl 3 rfl) ?_
          refine pu_V (pc := 96) (i := i) (rest := []) ⟨hx, hb, hml, hown, hts⟩ hi (c_F_significand l ad hi u2) (cwF_significand hts w_206 ⟨by decide, by decide⟩) hF hS rfl hl.1 rfl (Nat.le_of_ble_eq_true rfl) dU_product_96 ⟨Nat.zero_le _, Nat.zero_le _⟩ ?_
          refine lv_bipush (v := 10) (pc := 99) hx hb dU_product_99 (by decide) ?_
          refine lv_lshl (v := jShl (C_F_significand i u2) 10) (pc := 101) hx hb dU_product_101 rfl ?_
          refine lv_aload_n (pc := 102) hx hb dU_product_102 rfl (lv_at hl 2 rfl) ?_
          refine lv_lload (pc := 103) hx hb dU_product_103 (lv_at hl 4 rfl) ?_
          refine pu_V (pc := 105) (i := i) (rest := [.long (jShl (C_F_significand i u2) 10)]) ⟨hx, hb, hml, hown, hts⟩ hi (c_F_significand l ad hi u4) (cwF_significand hts w_206 ⟨by decide, by decide⟩) hF hS rfl hl.1 rfl (Nat.le_of_ble_eq_true rfl) dU_product_105 ⟨Nat.zero_le _, Nat.zero_le _⟩ ?_
          refine lv_bipush (v := 10) (pc := 108) hx hb dU_product_108 (by decide) ?_
          refine lv_lshl (v := jShl (C_F_significand i u4) 10) (pc := 110) hx hb dU_product_110 rfl ?_
          refine pu_S (pc := 111) (rest := []) ⟨hx, hb, hml, hown, hts⟩ (c_U_upperProduct l ad (jShl (C_F_significand i u2) 10) (jShl (C_F_significand i u4) 10)) (cwU_upperProduct hts w_256 ⟨by decide, by decide⟩) hF hS rfl hl.1 rfl (Nat.le_of_ble_eq_true rfl) dU_product_111 ⟨Nat.zero_le _, Nat.zero_le _⟩ ?_
          refine lv_lstore (lv' := [(8, .long (C_U_upperProduct (jShl (C_F_significand i u2) 10) (jShl (C_F_significand i u4) 10))), (7, .int (bI v7)), (0, .ref h0), (1, .ref (ad i)), (2, .long u2), (4, .long u4), (6, .int (bI v6))]) (pc := 114) hx hb dU_product_114 hl (by decide) rfl (fun ls hl => ?_)
          refine lv_aload_n (pc := 116) hx hb dU_product_116 rfl (lv_at hl 3 rfl) ?_
          refine lv_lload_n (pc := 117) hx hb dU_product_117 rfl (lv_at hl 4 rfl) ?_
          refine pu_V (pc := 118) (i := i) (rest := []) ⟨hx, hb, hml, hown, hts⟩ hi (c_F_power l ad hi u2) (cwF_power hts w_180 ⟨by decide, by decide⟩) hF hS rfl hl.1 rfl (Nat.le_of_ble_eq_true rfl) dU_product_118 ⟨Nat.zero_le _, Nat.zero_le _⟩ ?_
          refine lv_aload_n (pc := 121) hx hb dU_product_121 rfl (lv_at hl 3 rfl) ?_
          refine lv_lload (pc := 122) hx hb dU_product_122 (lv_at hl 5 rfl) ?_
          refine pu_V (pc := 124) (i := i) (rest := [.int (C_F_power i u2)]) ⟨hx, hb, hml, hown, hts⟩ hi (c_F_power l ad hi u4) (cwF_power hts w_180 ⟨by decide, by decide⟩) hF hS rfl hl.1 rfl (Nat.le_of_ble_eq_true rfl) dU_product_124 ⟨Nat.zero_le _, Nat.zero_le _⟩ ?_
          refine lv_iadd (pc := 127) hx hb dU_product_127 ?_
          refine lv_bipush (v := 20) (pc := 128) hx hb dU_product_128 (by decide) ?_
          refine lv_isub (pc := 130) hx hb dU_product_130 ?_
          refine lv_bipush (v := 64) (pc := 131) hx hb dU_product_131 (by decide) ?_
          refine lv_iadd (pc := 133) hx hb dU_product_133 ?_
          refine lv_istore (lv' := [(10, .int ((((C_F_power i u2) + (C_F_power i u4)) - 20) + 64)), (8, .long (C_U_upperProduct (jShl (C_F_significand i u2) 10) (jShl (C_F_significand i u4) 10))), (7, .int (bI v7)), (0, .ref h0), (1, .ref (ad i)), (2, .long u2), (4, .long u4), (6, .int (bI v6))]) (pc := 134) hx hb dU_product_134 hl (by decide) rfl (fun ls hl => ?_)
          refine lv_aload_n (pc := 136) hx hb dU_product_136 rfl (lv_at hl 3 rfl) ?_
          refine lv_aload_n (pc := 137) hx hb dU_product_137 rfl (lv_at hl 4 rfl) ?_
          refine lv_iload (pc := 138) hx hb dU_product_138 (lv_at hl 7 rfl) ?_
          refine lv_lload (pc := 140) hx hb dU_product_140 (lv_at hl 1 rfl) ?_
          refine lv_iload (pc := 142) hx hb dU_product_142 (lv_at hl 0 rfl) ?_
          refine fu_V (pc := 144) (rest := []) ⟨hx, hb, hml, hown, hts⟩ (c_U_rounded l ad D cA h0 r0 hi md f9 rg v6 (C_U_upperProduct (jShl (C_F_significand i u2) 10) (jShl (C_F_significand i u4) 10)) ((((C_F_power i u2) + (C_F_power i u4)) - 20) + 64)) (cwU_rounded hts w_221 ⟨by decide, by decide⟩) hF hw hS rfl hl.1 rfl (Nat.le_of_ble_eq_true rfl) dU_product_144 ⟨Nat.zero_le _, Nat.zero_le _⟩ (fun H locs hw hS => ?_)
          refine W.eq (g2 := F0 m 147 ls [.long ((C_U_rounded md f9 i v6 (C_U_upperProduct (jShl (C_F_significand i u2) 10) (jShl (C_F_significand i u4) 10)) ((((C_F_power i u2) + (C_F_power i u4)) - 20) + 64)).1)]) rfl ?_
          have he9 := (show ((C_U_rounded md f9 i v6 (C_U_upperProduct (jShl (C_F_significand i u2) 10) (jShl (C_F_significand i u4) 10)) ((((C_F_power i u2) + (C_F_power i u4)) - 20) + 64)).1, (C_U_rounded md f9 i v6 (C_U_upperProduct (jShl (C_F_significand i u2) 10) (jShl (C_F_significand i u4) 10)) ((((C_F_power i u2) + (C_F_power i u4)) - 20) + 64)).2) = C_U_product_43 md f9 i u2 u4 v6 v7 from by rw [C_U_product_43, if_pos h201, if_pos h203, if_pos h204]).trans he
          exact hret _ _ _ _ _ _ _ _ (congrArg Prod.fst he9) rfl (congrArg Prod.snd he9) rfl hw hS dU_product_147
        · skip
          have h204 : ¬ (v7 = false) := fun q => h204 ((bI_0 _).2 q)
          refine lv_aload_n (pc := 87) hx hb dU_product_87 rfl (lv_at hl 2 rfl) ?_
          refine lv_iload (pc := 88) hx hb dU_product_88 (lv_at hl 5 rfl) ?_
          refine pu_V (pc := 90) (i := i) (rest := []) ⟨hx, hb, hml, hown, hts⟩ hi (c_F_zero l ad hi v6) (cwF_zero hts w_213 ⟨by decide, by decide⟩) hF hS rfl hl.1 rfl (Nat.le_of_ble_eq_true rfl) dU_product_90 ⟨Nat.zero_le _, Nat.zero_le _⟩ ?_
          have he9 := (show (C_F_zero i v6, f9) = C_U_product_43 md f9 i u2 u4 v6 v7 from by rw [C_U_product_43, if_pos h201, if_pos h203, if_neg h204]).trans he
          exact hret _ _ _ _ _ _ _ _ (congrArg Prod.fst he9) rfl (congrArg Prod.snd he9) rfl hw hS dU_product_93
      · skip
        have h203 : ¬ ((C_F_isEndless i u4) = false) := fun q => h203 ((bI_0 _).2 q)
        refine lv_iload (pc := 62) hx hb dU_product_62 (lv_at hl 0 rfl) ?_
        refine lv_if_eq (tgt := 75) (pc := 64) hx hb dU_product_64 (by decide) (fun h205 => ?_) (fun h205 => ?_)
        · skip
          have h205 : v7 = false := (bI_0 _).1 h205
          refine lv_aload_n (pc := 75) hx hb dU_product_75 rfl (lv_at hl 2 rfl) ?_
          refine lv_iload (pc := 76) hx hb dU_product_76 (lv_at hl 5 rfl) ?_
          refine pu_V (pc := 78) (i := i) (rest := []) ⟨hx, hb, hml, hown, hts⟩ hi (c_F_endless l ad hi v6) (cwF_endless hts w_234 ⟨by decide, by decide⟩) hF hS rfl hl.1 rfl (Nat.le_of_ble_eq_true rfl) dU_product_78 ⟨Nat.zero_le _, Nat.zero_le _⟩ ?_
          have he9 := (show (C_F_endless i v6, f9) = C_U_product_43 md f9 i u2 u4 v6 v7 from by rw [C_U_product_43, if_pos h201, if_neg h203, if_pos h205]).trans he
          exact hret _ _ _ _ _ _ _ _ (congrArg Prod.fst he9) rfl (congrArg Prod.snd he9) rfl hw hS dU_product_81
        · skip
          have h205 : ¬ (v7 = false) := fun q => h205 ((bI_0 _).2 q)
          refine lv_aload_n (pc := 67) hx hb dU_product_67 rfl (lv_at hl 1 rfl) ?_
          refine lv_aload_n (pc := 68) hx hb dU_product_68 rfl (lv_at hl 2 rfl) ?_
          refine fu_V (pc := 69) (rest := []) ⟨hx, hb, hml, hown, hts⟩ (c_U_invalid l ad D cA h0 r0 hi md f9 rg ) (cwU_invalid hts w_172 ⟨by decide, by decide⟩) hF hw hS rfl hl.1 rfl (Nat.le_of_ble_eq_true rfl) dU_product_69 ⟨Nat.zero_le _, Nat.zero_le _⟩ (fun H locs hw hS => ?_)
          refine W.eq (g2 := F0 m 72 ls [.long ((C_U_invalid md f9 i).1)]) rfl ?_
          refine lv_goto (tgt := 81) (pc := 72) hx hb dU_product_72 (by decide) ?_
          have he9 := (show ((C_U_invalid md f9 i).1, (C_U_invalid md f9 i).2) = C_U_product_43 md f9 i u2 u4 v6 v7 from by rw [C_U_product_43, if_pos h201, if_neg h203, if_neg h205]).trans he
          exact hret _ _ _ _ _ _ _ _ (congrArg Prod.fst he9) rfl (congrArg Prod.snd he9) rfl hw hS dU_product_81
  have J19 : ∀ (f9 : Int32) (u2 : Int64) (u4 : Int64) (v6 : Bool) (ls : Array Slot) (H : Heap) (locs : List Loc), lv_has ls 11 [(0, .ref h0), (1, .ref (ad i)), (2, .long u2), (4, .long u4)] → FUw D cA h0 r0 md f9 rg s H → va_S (fA h0 r0) s.heap H locs → C_U_product_19 md f9 i u2 u4 v6 = C_U_product md fl i x2 x3 → W p l e rmU_product s m args below meth c H locs 0 0 Q (F0 m 19 ls [.int (bI v6)]) := by
    intro f9 u2 u4 v6 ls H locs hl hw hS he
    refine lv_istore (lv' := [(6, .int (bI v6)), (0, .ref h0), (1, .ref (ad i)), (2, .long u2), (4, .long u4)]) (pc := 19) hx hb dU_product_19 hl (by decide) rfl (fun ls hl => ?_)
    refine lv_aload_n (pc := 21) hx hb dU_product_21 rfl (lv_at hl 2 rfl) ?_
    refine lv_lload_n (pc := 22) hx hb dU_product_22 rfl (lv_at hl 3 rfl) ?_
    refine pu_V (pc := 23) (i := i) (rest := []) ⟨hx, hb, hml, hown, hts⟩ hi (c_F_isZero l ad hi u2) (cwF_isZero hts w_252 ⟨by decide, by decide⟩) hF hS rfl hl.1 rfl (Nat.le_of_ble_eq_true rfl) dU_product_23 ⟨Nat.zero_le _, Nat.zero_le _⟩ ?_
    refine lv_if_ne (tgt := 38) (pc := 26) hx hb dU_product_26 (by decide) (fun h101 => ?_) (fun h101 => ?_)
    · skip
      have h101 : ¬ ((C_F_isZero i u2) = false) := fun q => h101 ((bI_0 _).2 q)
      refine lv_iconst (v := 1) (pc := 38) hx hb dU_product_38 (by decide) ?_
      refine lv_goto (tgt := 43) (pc := 39) hx hb dU_product_39 (by decide) ?_
      exact J43 f9 u2 u4 v6 true ls _ _ (lv_sub hl [1, 2, 3, 4, 0] rfl) hw hS ((show C_U_product_43 md f9 i u2 u4 v6 true = C_U_product_19 md f9 i u2 u4 v6 from by rw [C_U_product_19, if_neg h101]).trans he)
    · skip
      have h101 : (C_F_isZero i u2) = false := (bI_0 _).1 h101
      refine lv_aload_n (pc := 29) hx hb dU_product_29 rfl (lv_at hl 2 rfl) ?_
      refine lv_lload (pc := 30) hx hb dU_product_30 (lv_at hl 4 rfl) ?_
      refine pu_V (pc := 32) (i := i) (rest := []) ⟨hx, hb, hml, hown, hts⟩ hi (c_F_isZero l ad hi u4) (cwF_isZero hts w_252 ⟨by decide, by decide⟩) hF hS rfl hl.1 rfl (Nat.le_of_ble_eq_true rfl) dU_product_32 ⟨Nat.zero_le _, Nat.zero_le _⟩ ?_
      refine lv_if_eq (tgt := 42) (pc := 35) hx hb dU_product_35 (by decide) (fun h102 => ?_) (fun h102 => ?_)
      · skip
        have h102 : (C_F_isZero i u4) = false := (bI_0 _).1 h102
        refine lv_iconst (v := 0) (pc := 42) hx hb dU_product_42 (by decide) ?_
        exact J43 f9 u2 u4 v6 false ls _ _ (lv_sub hl [1, 2, 3, 4, 0] rfl) hw hS ((show C_U_product_43 md f9 i u2 u4 v6 false = C_U_product_19 md f9 i u2 u4 v6 from by rw [C_U_product_19, if_pos h101, if_pos h102]).trans he)
      · skip
        have h102 : ¬ ((C_F_isZero i u4) = false) := fun q => h102 ((bI_0 _).2 q)
        refine lv_iconst (v := 1) (pc := 38) hx hb dU_product_38 (by decide) ?_
        refine lv_goto (tgt := 43) (pc := 39) hx hb dU_product_39 (by decide) ?_
        exact J43 f9 u2 u4 v6 true ls _ _ (lv_sub hl [1, 2, 3, 4, 0] rfl) hw hS ((show C_U_product_43 md f9 i u2 u4 v6 true = C_U_product_19 md f9 i u2 u4 v6 from by rw [C_U_product_19, if_pos h101, if_neg h102]).trans he)
  refine lv_aload_n (pc := 0) hx hb dU_product_0 rfl (lv_at hl 1 rfl) ?_
  refine lv_lload_n (pc := 1) hx hb dU_product_1 rfl (lv_at hl 2 rfl) ?_
  refine pu_V (pc := 2) (i := i) (rest := []) ⟨hx, hb, hml, hown, hts⟩ hi (c_F_isMinus l ad hi x2) (cwF_isMinus hts w_164 ⟨by decide, by decide⟩) hF hS rfl hl.1 rfl (Nat.le_of_ble_eq_true rfl) dU_product_2 ⟨Nat.zero_le _, Nat.zero_le _⟩ ?_
  refine lv_aload_n (pc := 5) hx hb dU_product_5 rfl (lv_at hl 1 rfl) ?_
  refine lv_lload (pc := 6) hx hb dU_product_6 (lv_at hl 3 rfl) ?_
  refine pu_V (pc := 8) (i := i) (rest := [.int (bI (C_F_isMinus i x2))]) ⟨hx, hb, hml, hown, hts⟩ hi (c_F_isMinus l ad hi x3) (cwF_isMinus hts w_164 ⟨by decide, by decide⟩) hF hS rfl hl.1 rfl (Nat.le_of_ble_eq_true rfl) dU_product_8 ⟨Nat.zero_le _, Nat.zero_le _⟩ ?_
  refine lv_icmp_eq (tgt := 18) (pc := 11) hx hb dU_product_11 (by decide) (fun h1 => ?_) (fun h1 => ?_)
  · skip
    refine lv_iconst (v := 0) (pc := 18) hx hb dU_product_18 (by decide) ?_
    exact J19 fl x2 x3 false ls _ _ (lv_sub hl [0, 1, 2, 3] rfl) hw hS ((show C_U_product_19 md fl i x2 x3 false = C_U_product md fl i x2 x3 from by rw [C_U_product, if_pos h1]))
  · skip
    refine lv_iconst (v := 1) (pc := 14) hx hb dU_product_14 (by decide) ?_
    refine lv_goto (tgt := 19) (pc := 15) hx hb dU_product_15 (by decide) ?_
    exact J19 fl x2 x3 true ls _ _ (lv_sub hl [0, 1, 2, 3] rfl) hw hS ((show C_U_product_19 md fl i x2 x3 true = C_U_product md fl i x2 x3 from by rw [C_U_product, if_neg h1]))
def C_U_quotient_146_6 (md f9 : Int32) (i : Nat) (v6 : Bool) (u7 : Int64) (u9 : Int64) (u11 : Int64) (u13 : Int32) : Int64 × Int32 :=
  if u9 = 0 then
    ((C_U_rounded md f9 i v6 u11 u13).1, (C_U_rounded md f9 i v6 u11 u13).2)
  else
    ((C_U_rounded md f9 i v6 (u11 ||| 1) u13).1, (C_U_rounded md f9 i v6 (u11 ||| 1) u13).2)
def C_U_quotient_146_5 (md f9 : Int32) (i : Nat) (v6 : Bool) (u7 : Int64) (u9 : Int64) (u11 : Int64) (u13 : Int32) : Int64 × Int32 :=
  C_U_quotient_146_6 md f9 i v6 u7 ((jShl u9 10) - (jShl u9 10) / u7 * u7) ((jShl u11 10) + ((jShl u9 10) / u7)) (u13 + (-10))
def C_U_quotient_146_4 (md f9 : Int32) (i : Nat) (v6 : Bool) (u7 : Int64) (u9 : Int64) (u11 : Int64) (u13 : Int32) : Int64 × Int32 :=
  C_U_quotient_146_5 md f9 i v6 u7 ((jShl u9 10) - (jShl u9 10) / u7 * u7) ((jShl u11 10) + ((jShl u9 10) / u7)) (u13 + (-10))
def C_U_quotient_146_3 (md f9 : Int32) (i : Nat) (v6 : Bool) (u7 : Int64) (u9 : Int64) (u11 : Int64) (u13 : Int32) : Int64 × Int32 :=
  C_U_quotient_146_4 md f9 i v6 u7 ((jShl u9 10) - (jShl u9 10) / u7 * u7) ((jShl u11 10) + ((jShl u9 10) / u7)) (u13 + (-10))
def C_U_quotient_146_2 (md f9 : Int32) (i : Nat) (v6 : Bool) (u7 : Int64) (u9 : Int64) (u11 : Int64) (u13 : Int32) : Int64 × Int32 :=
  C_U_quotient_146_3 md f9 i v6 u7 ((jShl u9 10) - (jShl u9 10) / u7 * u7) ((jShl u11 10) + ((jShl u9 10) / u7)) (u13 + (-10))
def C_U_quotient_146_1 (md f9 : Int32) (i : Nat) (v6 : Bool) (u7 : Int64) (u9 : Int64) (u11 : Int64) (u13 : Int32) : Int64 × Int32 :=
  C_U_quotient_146_2 md f9 i v6 u7 ((jShl u9 10) - (jShl u9 10) / u7 * u7) ((jShl u11 10) + ((jShl u9 10) / u7)) (u13 + (-10))
def C_U_quotient_146_0 (md f9 : Int32) (i : Nat) (v6 : Bool) (u7 : Int64) (u9 : Int64) (u11 : Int64) (u13 : Int32) : Int64 × Int32 :=
  C_U_quotient_146_1 md f9 i v6 u7 ((jShl u9 10) - (jShl u9 10) / u7 * u7) ((jShl u11 10) + ((jShl u9 10) / u7)) (u13 + (-10))
def C_U_quotient_19 (md f9 : Int32) (i : Nat) (u2 : Int64) (u4 : Int64) (v6 : Bool) : Int64 × Int32 :=
  if (C_F_isEndless i u2) = false then
    if (C_F_isEndless i u4) = false then
      if (C_F_significand i u4) = 0 then
        ((C_U_quotientByZero md f9 i u2 v6).1, (C_U_quotientByZero md f9 i u2 v6).2)
      else
        if (C_F_isZero i u2) = false then
          C_U_quotient_146_0 md f9 i v6 (C_F_significand i u4) ((C_F_significand i u2) - (C_F_significand i u2) / (C_F_significand i u4) * (C_F_significand i u4)) ((C_F_significand i u2) / (C_F_significand i u4)) ((C_F_power i u2) - (C_F_power i u4))
        else
          (C_F_zero i v6, f9)
    else
      (C_F_zero i v6, f9)
  else
    if (C_F_isEndless i u4) = false then
      (C_F_endless i v6, f9)
    else
      ((C_U_invalid md f9 i).1, (C_U_invalid md f9 i).2)
def C_U_quotient (md : Int32) (fl : Int32) (i : Nat) (x2 : Int64) (x3 : Int64) : Int64 × Int32 :=
  if (bI (C_F_isMinus i x2)) = (bI (C_F_isMinus i x3)) then
    C_U_quotient_19 md fl i x2 x3 false
  else
    C_U_quotient_19 md fl i x2 x3 true
abbrev rmU_quotient : Room := { frames := 4, cells := 0, slots := 0, locals := 104 }
theorem cwU_quotient {R : Room} {s : State} {args : Array Value} {w0 : Cond} {own : String} {idx : Nat} (hts : ∀ w ∈ (w0 :: bigW), w.before args s = true) (hl : Cond.methodLink own idx yU_quotient ∈ bigW) (hR : rmU_quotient.frames + 1 ≤ R.frames ∧ 8 + (15 + 11) + rmU_quotient.locals ≤ R.locals) : CallW R s args own "FloatUnit" idx yU_quotient cU_quotient 15 (some .long) (wsM yU_quotient cU_quotient 15 (some .long)) rmU_quotient 0 0 3 :=
  cwV 3 hts (big_V hl w_262 sel_U_quotient w_1 w_263) rfl rfl rfl ⟨rfl, by decide, by decide, by decide +kernel⟩ hR
set_option maxRecDepth 100000 in
set_option maxHeartbeats 8000000 in
theorem c_U_quotient (l : Launch) (ad : Nat → Nat) (D : va_G) (cA : ClassId) (h0 r0 : Nat) {i : Nat} (hi : i < 2) (md fl : Int32) (rg : Nat → Int64) (x2 : Int64) (x3 : Int64) : FuM l ad D cA h0 r0 yU_quotient (wsM yU_quotient cU_quotient 15 (some .long)) rmU_quotient [.ref (ad i), .long x2, .long x3] md fl rg (some (.long ((C_U_quotient md fl i x2 x3).1))) md (C_U_quotient md fl i x2 x3).2 rg := by
  refine fu_ofL (cc := cU_quotient) (maxL := 15) (by decide) rfl (Nat.le_of_ble_eq_true rfl) ?_
  intro p e s m args below meth c Q hx hb hml hown hts hF H locs hS hw hret ls hl
  have hl : lv_has ls 15 [(0, .ref h0), (1, .ref (ad i)), (2, .long x2), (4, .long x3)] := hl
  have J146_6 : ∀ (f9 : Int32) (v6 : Bool) (u7 : Int64) (u9 : Int64) (u11 : Int64) (u13 : Int32) (hz : ¬ u7 = 0) (ls : Array Slot) (H : Heap) (locs : List Loc), lv_has ls 15 [(0, .ref h0), (1, .ref (ad i)), (6, .int (bI v6)), (7, .long u7), (9, .long u9), (11, .long u11), (13, .int u13), (14, .int 6)] → FUw D cA h0 r0 md f9 rg s H → va_S (fA h0 r0) s.heap H locs → C_U_quotient_146_6 md f9 i v6 u7 u9 u11 u13 = C_U_quotient md fl i x2 x3 → W p l e rmU_quotient s m args below meth c H locs 0 0 Q (F0 m 146 ls []) := by
    intro f9 v6 u7 u9 u11 u13 hz ls H locs hl hw hS he
    refine lv_iload (pc := 146) hx hb dU_quotient_146 (lv_at hl 7 rfl) ?_
    refine lv_bipush (v := 6) (pc := 148) hx hb dU_quotient_148 (by decide) ?_
    refine lv_icmp_ge (tgt := 189) (pc := 150) hx hb dU_quotient_150 (by decide) (fun h801 => ?_) (fun h801 => ?_)
    · skip
      refine lv_aload_n (pc := 189) hx hb dU_quotient_189 rfl (lv_at hl 0 rfl) ?_
      refine lv_aload_n (pc := 190) hx hb dU_quotient_190 rfl (lv_at hl 1 rfl) ?_
      refine lv_iload (pc := 191) hx hb dU_quotient_191 (lv_at hl 2 rfl) ?_
      refine lv_lload (pc := 193) hx hb dU_quotient_193 (lv_at hl 4 rfl) ?_
      refine lv_lconst (v := 0) (pc := 195) hx hb dU_quotient_195 (by decide) ?_
      refine W.lcmp (pc := 196) hx hb dU_quotient_196 ?_
      refine lv_if_ne (tgt := 205) (pc := 197) hx hb dU_quotient_197 (by decide) (fun h802 => ?_) (fun h802 => ?_)
      · skip
        have h802 : ¬ (u9 = 0) := fun q => h802 ((lg_cmp_eq _ _).2 q)
        refine lv_lload (pc := 205) hx hb dU_quotient_205 (lv_at hl 5 rfl) ?_
        refine lv_lconst (v := 1) (pc := 207) hx hb dU_quotient_207 (by decide) ?_
        refine lv_lor (pc := 208) hx hb dU_quotient_208 ?_
        refine lv_iload (pc := 209) hx hb dU_quotient_209 (lv_at hl 6 rfl) ?_
        refine fu_V (pc := 211) (rest := []) ⟨hx, hb, hml, hown, hts⟩ (c_U_rounded l ad D cA h0 r0 hi md f9 rg v6 (u11 ||| 1) u13) (cwU_rounded hts w_221 ⟨by decide, by decide⟩) hF hw hS rfl hl.1 rfl (Nat.le_of_ble_eq_true rfl) dU_quotient_211 ⟨Nat.zero_le _, Nat.zero_le _⟩ (fun H locs hw hS => ?_)
        refine W.eq (g2 := F0 m 214 ls [.long ((C_U_rounded md f9 i v6 (u11 ||| 1) u13).1)]) rfl ?_
        have he9 := (show ((C_U_rounded md f9 i v6 (u11 ||| 1) u13).1, (C_U_rounded md f9 i v6 (u11 ||| 1) u13).2) = C_U_quotient_146_6 md f9 i v6 u7 u9 u11 u13 from by rw [C_U_quotient_146_6, if_neg h802]).trans he
        exact hret _ _ _ _ _ _ _ _ (congrArg Prod.fst he9) rfl (congrArg Prod.snd he9) rfl hw hS dU_quotient_214
      · skip
        have h802 : u9 = 0 := (lg_cmp_eq _ _).1 h802
        refine lv_lload (pc := 200) hx hb dU_quotient_200 (lv_at hl 5 rfl) ?_
        refine lv_goto (tgt := 209) (pc := 202) hx hb dU_quotient_202 (by decide) ?_
        refine lv_iload (pc := 209) hx hb dU_quotient_209 (lv_at hl 6 rfl) ?_
        refine fu_V (pc := 211) (rest := []) ⟨hx, hb, hml, hown, hts⟩ (c_U_rounded l ad D cA h0 r0 hi md f9 rg v6 u11 u13) (cwU_rounded hts w_221 ⟨by decide, by decide⟩) hF hw hS rfl hl.1 rfl (Nat.le_of_ble_eq_true rfl) dU_quotient_211 ⟨Nat.zero_le _, Nat.zero_le _⟩ (fun H locs hw hS => ?_)
        refine W.eq (g2 := F0 m 214 ls [.long ((C_U_rounded md f9 i v6 u11 u13).1)]) rfl ?_
        have he9 := (show ((C_U_rounded md f9 i v6 u11 u13).1, (C_U_rounded md f9 i v6 u11 u13).2) = C_U_quotient_146_6 md f9 i v6 u7 u9 u11 u13 from by rw [C_U_quotient_146_6, if_pos h802]).trans he
        exact hret _ _ _ _ _ _ _ _ (congrArg Prod.fst he9) rfl (congrArg Prod.snd he9) rfl hw hS dU_quotient_214
    · exact absurd h801 (by decide)
  have J146_5 : ∀ (f9 : Int32) (v6 : Bool) (u7 : Int64) (u9 : Int64) (u11 : Int64) (u13 : Int32) (hz : ¬ u7 = 0) (ls : Array Slot) (H : Heap) (locs : List Loc), lv_has ls 15 [(0, .ref h0), (1, .ref (ad i)), (6, .int (bI v6)), (7, .long u7), (9, .long u9), (11, .long u11), (13, .int u13), (14, .int 5)] → FUw D cA h0 r0 md f9 rg s H → va_S (fA h0 r0) s.heap H locs → C_U_quotient_146_5 md f9 i v6 u7 u9 u11 u13 = C_U_quotient md fl i x2 x3 → W p l e rmU_quotient s m args below meth c H locs 0 0 Q (F0 m 146 ls []) := by
    intro f9 v6 u7 u9 u11 u13 hz ls H locs hl hw hS he
    refine lv_iload (pc := 146) hx hb dU_quotient_146 (lv_at hl 7 rfl) ?_
    refine lv_bipush (v := 6) (pc := 148) hx hb dU_quotient_148 (by decide) ?_
    refine lv_icmp_ge (tgt := 189) (pc := 150) hx hb dU_quotient_150 (by decide) (fun h701 => ?_) (fun h701 => ?_)
    · exact absurd h701 (by decide)
    · skip
      refine lv_lload (pc := 153) hx hb dU_quotient_153 (lv_at hl 4 rfl) ?_
      refine lv_bipush (v := 10) (pc := 155) hx hb dU_quotient_155 (by decide) ?_
      refine lv_lshl (v := jShl u9 10) (pc := 157) hx hb dU_quotient_157 rfl ?_
      refine lv_lstore (lv' := [(9, .long (jShl u9 10)), (0, .ref h0), (1, .ref (ad i)), (6, .int (bI v6)), (7, .long u7), (11, .long u11), (13, .int u13), (14, .int 5)]) (pc := 158) hx hb dU_quotient_158 hl (by decide) rfl (fun ls hl => ?_)
      refine lv_lload (pc := 160) hx hb dU_quotient_160 (lv_at hl 5 rfl) ?_
      refine lv_bipush (v := 10) (pc := 162) hx hb dU_quotient_162 (by decide) ?_
      refine lv_lshl (v := jShl u11 10) (pc := 164) hx hb dU_quotient_164 rfl ?_
      refine lv_lload (pc := 165) hx hb dU_quotient_165 (lv_at hl 0 rfl) ?_
      refine lv_lload (pc := 167) hx hb dU_quotient_167 (lv_at hl 4 rfl) ?_
      refine lv_ldiv (pc := 169) hx hb dU_quotient_169 hz ?_
      refine lv_ladd (pc := 170) hx hb dU_quotient_170 ?_
      refine lv_lstore (lv' := [(11, .long ((jShl u11 10) + ((jShl u9 10) / u7))), (9, .long (jShl u9 10)), (0, .ref h0), (1, .ref (ad i)), (6, .int (bI v6)), (7, .long u7), (13, .int u13), (14, .int 5)]) (pc := 171) hx hb dU_quotient_171 hl (by decide) rfl (fun ls hl => ?_)
      refine lv_lload (pc := 173) hx hb dU_quotient_173 (lv_at hl 1 rfl) ?_
      refine lv_lload (pc := 175) hx hb dU_quotient_175 (lv_at hl 5 rfl) ?_
      refine lv_lrem (pc := 177) hx hb dU_quotient_177 hz ?_
      refine lv_lstore (lv' := [(9, .long ((jShl u9 10) - (jShl u9 10) / u7 * u7)), (11, .long ((jShl u11 10) + ((jShl u9 10) / u7))), (0, .ref h0), (1, .ref (ad i)), (6, .int (bI v6)), (7, .long u7), (13, .int u13), (14, .int 5)]) (pc := 178) hx hb dU_quotient_178 hl (by decide) rfl (fun ls hl => ?_)
      refine lv_iinc (k := 6) (v := u13 + (-10)) (lv' := [(13, .int (u13 + (-10))), (9, .long ((jShl u9 10) - (jShl u9 10) / u7 * u7)), (11, .long ((jShl u11 10) + ((jShl u9 10) / u7))), (0, .ref h0), (1, .ref (ad i)), (6, .int (bI v6)), (7, .long u7), (14, .int 5)]) (pc := 180) hx hb dU_quotient_180 hl rfl (by rfl) (by decide) rfl (fun ls hl => ?_)
      refine lv_iinc (k := 7) (v := 6) (lv' := [(14, .int 6), (13, .int (u13 + (-10))), (9, .long ((jShl u9 10) - (jShl u9 10) / u7 * u7)), (11, .long ((jShl u11 10) + ((jShl u9 10) / u7))), (0, .ref h0), (1, .ref (ad i)), (6, .int (bI v6)), (7, .long u7)]) (pc := 183) hx hb dU_quotient_183 hl rfl (by decide) (by decide) rfl (fun ls hl => ?_)
      refine lv_goto (tgt := 146) (pc := 186) hx hb dU_quotient_186 (by decide) ?_
      exact J146_6 f9 v6 u7 ((jShl u9 10) - (jShl u9 10) / u7 * u7) ((jShl u11 10) + ((jShl u9 10) / u7)) (u13 + (-10)) hz ls _ _ (lv_sub hl [4, 5, 6, 7, 2, 3, 1, 0] rfl) hw hS ((show C_U_quotient_146_6 md f9 i v6 u7 ((jShl u9 10) - (jShl u9 10) / u7 * u7) ((jShl u11 10) + ((jShl u9 10) / u7)) (u13 + (-10)) = C_U_quotient_146_5 md f9 i v6 u7 u9 u11 u13 from by rw [C_U_quotient_146_5]).trans he)
  have J146_4 : ∀ (f9 : Int32) (v6 : Bool) (u7 : Int64) (u9 : Int64) (u11 : Int64) (u13 : Int32) (hz : ¬ u7 = 0) (ls : Array Slot) (H : Heap) (locs : List Loc), lv_has ls 15 [(0, .ref h0), (1, .ref (ad i)), (6, .int (bI v6)), (7, .long u7), (9, .long u9), (11, .long u11), (13, .int u13), (14, .int 4)] → FUw D cA h0 r0 md f9 rg s H → va_S (fA h0 r0) s.heap H locs → C_U_quotient_146_4 md f9 i v6 u7 u9 u11 u13 = C_U_quotient md fl i x2 x3 → W p l e rmU_quotient s m args below meth c H locs 0 0 Q (F0 m 146 ls []) := by
    intro f9 v6 u7 u9 u11 u13 hz ls H locs hl hw hS he
    refine lv_iload (pc := 146) hx hb dU_quotient_146 (lv_at hl 7 rfl) ?_
    refine lv_bipush (v := 6) (pc := 148) hx hb dU_quotient_148 (by decide) ?_
    refine lv_icmp_ge (tgt := 189) (pc := 150) hx hb dU_quotient_150 (by decide) (fun h601 => ?_) (fun h601 => ?_)
    · exact absurd h601 (by decide)
    · skip
      refine lv_lload (pc := 153) hx hb dU_quotient_153 (lv_at hl 4 rfl) ?_
      refine lv_bipush (v := 10) (pc := 155) hx hb dU_quotient_155 (by decide) ?_
      refine lv_lshl (v := jShl u9 10) (pc := 157) hx hb dU_quotient_157 rfl ?_
      refine lv_lstore (lv' := [(9, .long (jShl u9 10)), (0, .ref h0), (1, .ref (ad i)), (6, .int (bI v6)), (7, .long u7), (11, .long u11), (13, .int u13), (14, .int 4)]) (pc := 158) hx hb dU_quotient_158 hl (by decide) rfl (fun ls hl => ?_)
      refine lv_lload (pc := 160) hx hb dU_quotient_160 (lv_at hl 5 rfl) ?_
      refine lv_bipush (v := 10) (pc := 162) hx hb dU_quotient_162 (by decide) ?_
      refine lv_lshl (v := jShl u11 10) (pc := 164) hx hb dU_quotient_164 rfl ?_
      refine lv_lload (pc := 165) hx hb dU_quotient_165 (lv_at hl 0 rfl) ?_
      refine lv_lload (pc := 167) hx hb dU_quotient_167 (lv_at hl 4 rfl) ?_
      refine lv_ldiv (pc := 169) hx hb dU_quotient_169 hz ?_
      refine lv_ladd (pc := 170) hx hb dU_quotient_170 ?_
      refine lv_lstore (lv' := [(11, .long ((jShl u11 10) + ((jShl u9 10) / u7))), (9, .long (jShl u9 10)), (0, .ref h0), (1, .ref (ad i)), (6, .int (bI v6)), (7, .long u7), (13, .int u13), (14, .int 4)]) (pc := 171) hx hb dU_quotient_171 hl (by decide) rfl (fun ls hl => ?_)
      refine lv_lload (pc := 173) hx hb dU_quotient_173 (lv_at hl 1 rfl) ?_
      refine lv_lload (pc := 175) hx hb dU_quotient_175 (lv_at hl 5 rfl) ?_
      refine lv_lrem (pc := 177) hx hb dU_quotient_177 hz ?_
      refine lv_lstore (lv' := [(9, .long ((jShl u9 10) - (jShl u9 10) / u7 * u7)), (11, .long ((jShl u11 10) + ((jShl u9 10) / u7))), (0, .ref h0), (1, .ref (ad i)), (6, .int (bI v6)), (7, .long u7), (13, .int u13), (14, .int 4)]) (pc := 178) hx hb dU_quotient_178 hl (by decide) rfl (fun ls hl => ?_)
      refine lv_iinc (k := 6) (v := u13 + (-10)) (lv' := [(13, .int (u13 + (-10))), (9, .long ((jShl u9 10) - (jShl u9 10) / u7 * u7)), (11, .long ((jShl u11 10) + ((jShl u9 10) / u7))), (0, .ref h0), (1, .ref (ad i)), (6, .int (bI v6)), (7, .long u7), (14, .int 4)]) (pc := 180) hx hb dU_quotient_180 hl rfl (by rfl) (by decide) rfl (fun ls hl => ?_)
      refine lv_iinc (k := 7) (v := 5) (lv' := [(14, .int 5), (13, .int (u13 + (-10))), (9, .long ((jShl u9 10) - (jShl u9 10) / u7 * u7)), (11, .long ((jShl u11 10) + ((jShl u9 10) / u7))), (0, .ref h0), (1, .ref (ad i)), (6, .int (bI v6)), (7, .long u7)]) (pc := 183) hx hb dU_quotient_183 hl rfl (by decide) (by decide) rfl (fun ls hl => ?_)
      refine lv_goto (tgt := 146) (pc := 186) hx hb dU_quotient_186 (by decide) ?_
      exact J146_5 f9 v6 u7 ((jShl u9 10) - (jShl u9 10) / u7 * u7) ((jShl u11 10) + ((jShl u9 10) / u7)) (u13 + (-10)) hz ls _ _ (lv_sub hl [4, 5, 6, 7, 2, 3, 1, 0] rfl) hw hS ((show C_U_quotient_146_5 md f9 i v6 u7 ((jShl u9 10) - (jShl u9 10) / u7 * u7) ((jShl u11 10) + ((jShl u9 10) / u7)) (u13 + (-10)) = C_U_quotient_146_4 md f9 i v6 u7 u9 u11 u13 from by rw [C_U_quotient_146_4]).trans he)
  have J146_3 : ∀ (f9 : Int32) (v6 : Bool) (u7 : Int64) (u9 : Int64) (u11 : Int64) (u13 : Int32) (hz : ¬ u7 = 0) (ls : Array Slot) (H : Heap) (locs : List Loc), lv_has ls 15 [(0, .ref h0), (1, .ref (ad i)), (6, .int (bI v6)), (7, .long u7), (9, .long u9), (11, .long u11), (13, .int u13), (14, .int 3)] → FUw D cA h0 r0 md f9 rg s H → va_S (fA h0 r0) s.heap H locs → C_U_quotient_146_3 md f9 i v6 u7 u9 u11 u13 = C_U_quotient md fl i x2 x3 → W p l e rmU_quotient s m args below meth c H locs 0 0 Q (F0 m 146 ls []) := by
    intro f9 v6 u7 u9 u11 u13 hz ls H locs hl hw hS he
    refine lv_iload (pc := 146) hx hb dU_quotient_146 (lv_at hl 7 rfl) ?_
    refine lv_bipush (v := 6) (pc := 148) hx hb dU_quotient_148 (by decide) ?_
    refine lv_icmp_ge (tgt := 189) (pc := 150) hx hb dU_quotient_150 (by decide) (fun h501 => ?_) (fun h501 => ?_)
    · exact absurd h501 (by decide)
    · skip
      refine lv_lload (pc := 153) hx hb dU_quotient_153 (lv_at hl 4 rfl) ?_
      refine lv_bipush (v := 10) (pc := 155) hx hb dU_quotient_155 (by decide) ?_
      refine lv_lshl (v := jShl u9 10) (pc := 157) hx hb dU_quotient_157 rfl ?_
      refine lv_lstore (lv' := [(9, .long (jShl u9 10)), (0, .ref h0), (1, .ref (ad i)), (6, .int (bI v6)), (7, .long u7), (11, .long u11), (13, .int u13), (14, .int 3)]) (pc := 158) hx hb dU_quotient_158 hl (by decide) rfl (fun ls hl => ?_)
      refine lv_lload (pc := 160) hx hb dU_quotient_160 (lv_at hl 5 rfl) ?_
      refine lv_bipush (v := 10) (pc := 162) hx hb dU_quotient_162 (by decide) ?_
      refine lv_lshl (v := jShl u11 10) (pc := 164) hx hb dU_quotient_164 rfl ?_
      refine lv_lload (pc := 165) hx hb dU_quotient_165 (lv_at hl 0 rfl) ?_
      refine lv_lload (pc := 167) hx hb dU_quotient_167 (lv_at hl 4 rfl) ?_
      refine lv_ldiv (pc := 169) hx hb dU_quotient_169 hz ?_
      refine lv_ladd (pc := 170) hx hb dU_quotient_170 ?_
      refine lv_lstore (lv' := [(11, .long ((jShl u11 10) + ((jShl u9 10) / u7))), (9, .long (jShl u9 10)), (0, .ref h0), (1, .ref (ad i)), (6, .int (bI v6)), (7, .long u7), (13, .int u13), (14, .int 3)]) (pc := 171) hx hb dU_quotient_171 hl (by decide) rfl (fun ls hl => ?_)
      refine lv_lload (pc := 173) hx hb dU_quotient_173 (lv_at hl 1 rfl) ?_
      refine lv_lload (pc := 175) hx hb dU_quotient_175 (lv_at hl 5 rfl) ?_
      refine lv_lrem (pc := 177) hx hb dU_quotient_177 hz ?_
      refine lv_lstore (lv' := [(9, .long ((jShl u9 10) - (jShl u9 10) / u7 * u7)), (11, .long ((jShl u11 10) + ((jShl u9 10) / u7))), (0, .ref h0), (1, .ref (ad i)), (6, .int (bI v6)), (7, .long u7), (13, .int u13), (14, .int 3)]) (pc := 178) hx hb dU_quotient_178 hl (by decide) rfl (fun ls hl => ?_)
      refine lv_iinc (k := 6) (v := u13 + (-10)) (lv' := [(13, .int (u13 + (-10))), (9, .long ((jShl u9 10) - (jShl u9 10) / u7 * u7)), (11, .long ((jShl u11 10) + ((jShl u9 10) / u7))), (0, .ref h0), (1, .ref (ad i)), (6, .int (bI v6)), (7, .long u7), (14, .int 3)]) (pc := 180) hx hb dU_quotient_180 hl rfl (by rfl) (by decide) rfl (fun ls hl => ?_)
      refine lv_iinc (k := 7) (v := 4) (lv' := [(14, .int 4), (13, .int (u13 + (-10))), (9, .long ((jShl u9 10) - (jShl u9 10) / u7 * u7)), (11, .long ((jShl u11 10) + ((jShl u9 10) / u7))), (0, .ref h0), (1, .ref (ad i)), (6, .int (bI v6)), (7, .long u7)]) (pc := 183) hx hb dU_quotient_183 hl rfl (by decide) (by decide) rfl (fun ls hl => ?_)
      refine lv_goto (tgt := 146) (pc := 186) hx hb dU_quotient_186 (by decide) ?_
      exact J146_4 f9 v6 u7 ((jShl u9 10) - (jShl u9 10) / u7 * u7) ((jShl u11 10) + ((jShl u9 10) / u7)) (u13 + (-10)) hz ls _ _ (lv_sub hl [4, 5, 6, 7, 2, 3, 1, 0] rfl) hw hS ((show C_U_quotient_146_4 md f9 i v6 u7 ((jShl u9 10) - (jShl u9 10) / u7 * u7) ((jShl u11 10) + ((jShl u9 10) / u7)) (u13 + (-10)) = C_U_quotient_146_3 md f9 i v6 u7 u9 u11 u13 from by rw [C_U_quotient_146_3]).trans he)
  have J146_2 : ∀ (f9 : Int32) (v6 : Bool) (u7 : Int64) (u9 : Int64) (u11 : Int64) (u13 : Int32) (hz : ¬ u7 = 0) (ls : Array Slot) (H : Heap) (locs : List Loc), lv_has ls 15 [(0, .ref h0), (1, .ref (ad i)), (6, .int (bI v6)), (7, .long u7), (9, .long u9), (11, .long u11), (13, .int u13), (14, .int 2)] → FUw D cA h0 r0 md f9 rg s H → va_S (fA h0 r0) s.heap H locs → C_U_quotient_146_2 md f9 i v6 u7 u9 u11 u13 = C_U_quotient md fl i x2 x3 → W p l e rmU_quotient s m args below meth c H locs 0 0 Q (F0 m 146 ls []) := by
    intro f9 v6 u7 u9 u11 u13 hz ls H locs hl hw hS he
    refine lv_iload (pc := 146) hx hb dU_quotient_146 (lv_at hl 7 rfl) ?_
    refine lv_bipush (v := 6) (pc := 148) hx hb dU_quotient_148 (by decide) ?_
    refine lv_icmp_ge (tgt := 189) (pc := 150) hx hb dU_quotient_150 (by decide) (fun h401 => ?_) (fun h401 => ?_)
    · exact absurd h401 (by decide)
    · skip
      refine lv_lload (pc := 153) hx hb dU_quotient_153 (lv_at hl 4 rfl) ?_
      refine lv_bipush (v := 10) (pc := 155) hx hb dU_quotient_155 (by decide) ?_
      refine lv_lshl (v := jShl u9 10) (pc := 157) hx hb dU_quotient_157 rfl ?_
      refine lv_lstore (lv' := [(9, .long (jShl u9 10)), (0, .ref h0), (1, .ref (ad i)), (6, .int (bI v6)), (7, .long u7), (11, .long u11), (13, .int u13), (14, .int 2)]) (pc := 158) hx hb dU_quotient_158 hl (by decide) rfl (fun ls hl => ?_)
      refine lv_lload (pc := 160) hx hb dU_quotient_160 (lv_at hl 5 rfl) ?_
      refine lv_bipush (v := 10) (pc := 162) hx hb dU_quotient_162 (by decide) ?_
      refine lv_lshl (v := jShl u11 10) (pc := 164) hx hb dU_quotient_164 rfl ?_
      refine lv_lload (pc := 165) hx hb dU_quotient_165 (lv_at hl 0 rfl) ?_
      refine lv_lload (pc := 167) hx hb dU_quotient_167 (lv_at hl 4 rfl) ?_
      refine lv_ldiv (pc := 169) hx hb dU_quotient_169 hz ?_
      refine lv_ladd (pc := 170) hx hb dU_quotient_170 ?_
      refine lv_lstore (lv' := [(11, .long ((jShl u11 10) + ((jShl u9 10) / u7))), (9, .long (jShl u9 10)), (0, .ref h0), (1, .ref (ad i)), (6, .int (bI v6)), (7, .long u7), (13, .int u13), (14, .int 2)]) (pc := 171) hx hb dU_quotient_171 hl (by decide) rfl (fun ls hl => ?_)
      refine lv_lload (pc := 173) hx hb dU_quotient_173 (lv_at hl 1 rfl) ?_
      refine lv_lload (pc := 175) hx hb dU_quotient_175 (lv_at hl 5 rfl) ?_
      refine lv_lrem (pc := 177) hx hb dU_quotient_177 hz ?_
      refine lv_lstore (lv' := [(9, .long ((jShl u9 10) - (jShl u9 10) / u7 * u7)), (11, .long ((jShl u11 10) + ((jShl u9 10) / u7))), (0, .ref h0), (1, .ref (ad i)), (6, .int (bI v6)), (7, .long u7), (13, .int u13), (14, .int 2)]) (pc := 178) hx hb dU_quotient_178 hl (by decide) rfl (fun ls hl => ?_)
      refine lv_iinc (k := 6) (v := u13 + (-10)) (lv' := [(13, .int (u13 + (-10))), (9, .long ((jShl u9 10) - (jShl u9 10) / u7 * u7)), (11, .long ((jShl u11 10) + ((jShl u9 10) / u7))), (0, .ref h0), (1, .ref (ad i)), (6, .int (bI v6)), (7, .long u7), (14, .int 2)]) (pc := 180) hx hb dU_quotient_180 hl rfl (by rfl) (by decide) rfl (fun ls hl => ?_)
      refine lv_iinc (k := 7) (v := 3) (lv' := [(14, .int 3), (13, .int (u13 + (-10))), (9, .long ((jShl u9 10) - (jShl u9 10) / u7 * u7)), (11, .long ((jShl u11 10) + ((jShl u9 10) / u7))), (0, .ref h0), (1, .ref (ad i)), (6, .int (bI v6)), (7, .long u7)]) (pc := 183) hx hb dU_quotient_183 hl rfl (by decide) (by decide) rfl (fun ls hl => ?_)
      refine lv_goto (tgt := 146) (pc := 186) hx hb dU_quotient_186 (by decide) ?_
      exact J146_3 f9 v6 u7 ((jShl u9 10) - (jShl u9 10) / u7 * u7) ((jShl u11 10) + ((jShl u9 10) / u7)) (u13 + (-10)) hz ls _ _ (lv_sub hl [4, 5, 6, 7, 2, 3, 1, 0] rfl) hw hS ((show C_U_quotient_146_3 md f9 i v6 u7 ((jShl u9 10) - (jShl u9 10) / u7 * u7) ((jShl u11 10) + ((jShl u9 10) / u7)) (u13 + (-10)) = C_U_quotient_146_2 md f9 i v6 u7 u9 u11 u13 from by rw [C_U_quotient_146_2]).trans he)
  have J146_1 : ∀ (f9 : Int32) (v6 : Bool) (u7 : Int64) (u9 : Int64) (u11 : Int64) (u13 : Int32) (hz : ¬ u7 = 0) (ls : Array Slot) (H : Heap) (locs : List Loc), lv_has ls 15 [(0, .ref h0), (1, .ref (ad i)), (6, .int (bI v6)), (7, .long u7), (9, .long u9), (11, .long u11), (13, .int u13), (14, .int 1)] → FUw D cA h0 r0 md f9 rg s H → va_S (fA h0 r0) s.heap H locs → C_U_quotient_146_1 md f9 i v6 u7 u9 u11 u13 = C_U_quotient md fl i x2 x3 → W p l e rmU_quotient s m args below meth c H locs 0 0 Q (F0 m 146 ls []) := by
    intro f9 v6 u7 u9 u11 u13 hz ls H locs hl hw hS he
    refine lv_iload (pc := 146) hx hb dU_quotient_146 (lv_at hl 7 rfl) ?_
    refine lv_bipush (v := 6) (pc := 148) hx hb dU_quotient_148 (by decide) ?_
    refine lv_icmp_ge (tgt := 189) (pc := 150) hx hb dU_quotient_150 (by decide) (fun h301 => ?_) (fun h301 => ?_)
    · exact absurd h301 (by decide)
    · skip
      refine lv_lload (pc := 153) hx hb dU_quotient_153 (lv_at hl 4 rfl) ?_
      refine lv_bipush (v := 10) (pc := 155) hx hb dU_quotient_155 (by decide) ?_
      refine lv_lshl (v := jShl u9 10) (pc := 157) hx hb dU_quotient_157 rfl ?_
      refine lv_lstore (lv' := [(9, .long (jShl u9 10)), (0, .ref h0), (1, .ref (ad i)), (6, .int (bI v6)), (7, .long u7), (11, .long u11), (13, .int u13), (14, .int 1)]) (pc := 158) hx hb dU_quotient_158 hl (by decide) rfl (fun ls hl => ?_)
      refine lv_lload (pc := 160) hx hb dU_quotient_160 (lv_at hl 5 rfl) ?_
      refine lv_bipush (v := 10) (pc := 162) hx hb dU_quotient_162 (by decide) ?_
      refine lv_lshl (v := jShl u11 10) (pc := 164) hx hb dU_quotient_164 rfl ?_
      refine lv_lload (pc := 165) hx hb dU_quotient_165 (lv_at hl 0 rfl) ?_
      refine lv_lload (pc := 167) hx hb dU_quotient_167 (lv_at hl 4 rfl) ?_
      refine lv_ldiv (pc := 169) hx hb dU_quotient_169 hz ?_
      refine lv_ladd (pc := 170) hx hb dU_quotient_170 ?_
      refine lv_lstore (lv' := [(11, .long ((jShl u11 10) + ((jShl u9 10) / u7))), (9, .long (jShl u9 10)), (0, .ref h0), (1, .ref (ad i)), (6, .int (bI v6)), (7, .long u7), (13, .int u13), (14, .int 1)]) (pc := 171) hx hb dU_quotient_171 hl (by decide) rfl (fun ls hl => ?_)
      refine lv_lload (pc := 173) hx hb dU_quotient_173 (lv_at hl 1 rfl) ?_
      refine lv_lload (pc := 175) hx hb dU_quotient_175 (lv_at hl 5 rfl) ?_
      refine lv_lrem (pc := 177) hx hb dU_quotient_177 hz ?_
      refine lv_lstore (lv' := [(9, .long ((jShl u9 10) - (jShl u9 10) / u7 * u7)), (11, .long ((jShl u11 10) + ((jShl u9 10) / u7))), (0, .ref h0), (1, .ref (ad i)), (6, .int (bI v6)), (7, .long u7), (13, .int u13), (14, .int 1)]) (pc := 178) hx hb dU_quotient_178 hl (by decide) rfl (fun ls hl => ?_)
      refine lv_iinc (k := 6) (v := u13 + (-10)) (lv' := [(13, .int (u13 + (-10))), (9, .long ((jShl u9 10) - (jShl u9 10) / u7 * u7)), (11, .long ((jShl u11 10) + ((jShl u9 10) / u7))), (0, .ref h0), (1, .ref (ad i)), (6, .int (bI v6)), (7, .long u7), (14, .int 1)]) (pc := 180) hx hb dU_quotient_180 hl rfl (by rfl) (by decide) rfl (fun ls hl => ?_)
      refine lv_iinc (k := 7) (v := 2) (lv' := [(14, .int 2), (13, .int (u13 + (-10))), (9, .long ((jShl u9 10) - (jShl u9 10) / u7 * u7)), (11, .long ((jShl u11 10) + ((jShl u9 10) / u7))), (0, .ref h0), (1, .ref (ad i)), (6, .int (bI v6)), (7, .long u7)]) (pc := 183) hx hb dU_quotient_183 hl rfl (by decide) (by decide) rfl (fun ls hl => ?_)
      refine lv_goto (tgt := 146) (pc := 186) hx hb dU_quotient_186 (by decide) ?_
      exact J146_2 f9 v6 u7 ((jShl u9 10) - (jShl u9 10) / u7 * u7) ((jShl u11 10) + ((jShl u9 10) / u7)) (u13 + (-10)) hz ls _ _ (lv_sub hl [4, 5, 6, 7, 2, 3, 1, 0] rfl) hw hS ((show C_U_quotient_146_2 md f9 i v6 u7 ((jShl u9 10) - (jShl u9 10) / u7 * u7) ((jShl u11 10) + ((jShl u9 10) / u7)) (u13 + (-10)) = C_U_quotient_146_1 md f9 i v6 u7 u9 u11 u13 from by rw [C_U_quotient_146_1]).trans he)
  have J146_0 : ∀ (f9 : Int32) (v6 : Bool) (u7 : Int64) (u9 : Int64) (u11 : Int64) (u13 : Int32) (hz : ¬ u7 = 0) (ls : Array Slot) (H : Heap) (locs : List Loc), lv_has ls 15 [(0, .ref h0), (1, .ref (ad i)), (6, .int (bI v6)), (7, .long u7), (9, .long u9), (11, .long u11), (13, .int u13), (14, .int 0)] → FUw D cA h0 r0 md f9 rg s H → va_S (fA h0 r0) s.heap H locs → C_U_quotient_146_0 md f9 i v6 u7 u9 u11 u13 = C_U_quotient md fl i x2 x3 → W p l e rmU_quotient s m args below meth c H locs 0 0 Q (F0 m 146 ls []) := by
    intro f9 v6 u7 u9 u11 u13 hz ls H locs hl hw hS he
    refine lv_iload (pc := 146) hx hb dU_quotient_146 (lv_at hl 7 rfl) ?_
    refine lv_bipush (v := 6) (pc := 148) hx hb dU_quotient_148 (by decide) ?_
    refine lv_icmp_ge (tgt := 189) (pc := 150) hx hb dU_quotient_150 (by decide) (fun h201 => ?_) (fun h201 => ?_)
    · exact absurd h201 (by decide)
    · skip
      refine lv_lload (pc := 153) hx hb dU_quotient_153 (lv_at hl 4 rfl) ?_
      refine lv_bipush (v := 10) (pc := 155) hx hb dU_quotient_155 (by decide) ?_
      refine lv_lshl (v := jShl u9 10) (pc := 157) hx hb dU_quotient_157 rfl ?_
      refine lv_lstore (lv' := [(9, .long (jShl u9 10)), (0, .ref h0), (1, .ref (ad i)), (6, .int (bI v6)), (7, .long u7), (11, .long u11), (13, .int u13), (14, .int 0)]) (pc := 158) hx hb dU_quotient_158 hl (by decide) rfl (fun ls hl => ?_)
      refine lv_lload (pc := 160) hx hb dU_quotient_160 (lv_at hl 5 rfl) ?_
      refine lv_bipush (v := 10) (pc := 162) hx hb dU_quotient_162 (by decide) ?_
      refine lv_lshl (v := jShl u11 10) (pc := 164) hx hb dU_quotient_164 rfl ?_
      refine lv_lload (pc := 165) hx hb dU_quotient_165 (lv_at hl 0 rfl) ?_
      refine lv_lload (pc := 167) hx hb dU_quotient_167 (lv_at hl 4 rfl) ?_
      refine lv_ldiv (pc := 169) hx hb dU_quotient_169 hz ?_
      refine lv_ladd (pc := 170) hx hb dU_quotient_170 ?_
      refine lv_lstore (lv' := [(11, .long ((jShl u11 10) + ((jShl u9 10) / u7))), (9, .long (jShl u9 10)), (0, .ref h0), (1, .ref (ad i)), (6, .int (bI v6)), (7, .long u7), (13, .int u13), (14, .int 0)]) (pc := 171) hx hb dU_quotient_171 hl (by decide) rfl (fun ls hl => ?_)
      refine lv_lload (pc := 173) hx hb dU_quotient_173 (lv_at hl 1 rfl) ?_
      refine lv_lload (pc := 175) hx hb dU_quotient_175 (lv_at hl 5 rfl) ?_
      refine lv_lrem (pc := 177) hx hb dU_quotient_177 hz ?_
      refine lv_lstore (lv' := [(9, .long ((jShl u9 10) - (jShl u9 10) / u7 * u7)), (11, .long ((jShl u11 10) + ((jShl u9 10) / u7))), (0, .ref h0), (1, .ref (ad i)), (6, .int (bI v6)), (7, .long u7), (13, .int u13), (14, .int 0)]) (pc := 178) hx hb dU_quotient_178 hl (by decide) rfl (fun ls hl => ?_)
      refine lv_iinc (k := 6) (v := u13 + (-10)) (lv' := [(13, .int (u13 + (-10))), (9, .long ((jShl u9 10) - (jShl u9 10) / u7 * u7)), (11, .long ((jShl u11 10) + ((jShl u9 10) / u7))), (0, .ref h0), (1, .ref (ad i)), (6, .int (bI v6)), (7, .long u7), (14, .int 0)]) (pc := 180) hx hb dU_quotient_180 hl rfl (by rfl) (by decide) rfl (fun ls hl => ?_)
      refine lv_iinc (k := 7) (v := 1) (lv' := [(14, .int 1), (13, .int (u13 + (-10))), (9, .long ((jShl u9 10) - (jShl u9 10) / u7 * u7)), (11, .long ((jShl u11 10) + ((jShl u9 10) / u7))), (0, .ref h0), (1, .ref (ad i)), (6, .int (bI v6)), (7, .long u7)]) (pc := 183) hx hb dU_quotient_183 hl rfl (by decide) (by decide) rfl (fun ls hl => ?_)
      refine lv_goto (tgt := 146) (pc := 186) hx hb dU_quotient_186 (by decide) ?_
      exact J146_1 f9 v6 u7 ((jShl u9 10) - (jShl u9 10) / u7 * u7) ((jShl u11 10) + ((jShl u9 10) / u7)) (u13 + (-10)) hz ls _ _ (lv_sub hl [4, 5, 6, 7, 2, 3, 1, 0] rfl) hw hS ((show C_U_quotient_146_1 md f9 i v6 u7 ((jShl u9 10) - (jShl u9 10) / u7 * u7) ((jShl u11 10) + ((jShl u9 10) / u7)) (u13 + (-10)) = C_U_quotient_146_0 md f9 i v6 u7 u9 u11 u13 from by rw [C_U_quotient_146_0]).trans he)
  have J19 : ∀ (f9 : Int32) (u2 : Int64) (u4 : Int64) (v6 : Bool) (ls : Array Slot) (H : Heap) (locs : List Loc), lv_has ls 15 [(0, .ref h0), (1, .ref (ad i)), (2, .long u2), (4, .long u4)] → FUw D cA h0 r0 md f9 rg s H → va_S (fA h0 r0) s.heap H locs → C_U_quotient_19 md f9 i u2 u4 v6 = C_U_quotient md fl i x2 x3 → W p l e rmU_quotient s m args below meth c H locs 0 0 Q (F0 m 19 ls [.int (bI v6)]) := by
    intro f9 u2 u4 v6 ls H locs hl hw hS he
    refine lv_istore (lv' := [(6, .int (bI v6)), (0, .ref h0), (1, .ref (ad i)), (2, .long u2), (4, .long u4)]) (pc := 19) hx hb dU_quotient_19 hl (by decide) rfl (fun ls hl => ?_)
    refine lv_aload_n (pc := 21) hx hb dU_quotient_21 rfl (lv_at hl 2 rfl) ?_
    refine lv_lload_n (pc := 22) hx hb dU_quotient_22 rfl (lv_at hl 3 rfl) ?_
    refine pu_V (pc := 23) (i := i) (rest := []) ⟨hx, hb, hml, hown, hts⟩ hi (c_F_isEndless l ad hi u2) (cwF_isEndless hts w_168 ⟨by decide, by decide⟩) hF hS rfl hl.1 rfl (Nat.le_of_ble_eq_true rfl) dU_quotient_23 ⟨Nat.zero_le _, Nat.zero_le _⟩ ?_
    refine lv_if_eq (tgt := 53) (pc := 26) hx hb dU_quotient_26 (by decide) (fun h101 => ?_) (fun h101 => ?_)
    · skip
      have h101 : (C_F_isEndless i u2) = false := (bI_0 _).1 h101
      refine lv_aload_n (pc := 53) hx hb dU_quotient_53 rfl (lv_at hl 2 rfl) ?_
      refine lv_lload (pc := 54) hx hb dU_quotient_54 (lv_at hl 4 rfl) ?_
      refine pu_V (pc := 56) (i := i) (rest := []) ⟨hx, hb, hml, hown, hts⟩ hi (c_F_isEndless l ad hi u4) (cwF_isEndless hts w_168 ⟨by decide, by decide⟩) hF hS rfl hl.1 rfl (Nat.le_of_ble_eq_true rfl) dU_quotient_56 ⟨Nat.zero_le _, Nat.zero_le _⟩ ?_
      refine lv_if_eq (tgt := 69) (pc := 59) hx hb dU_quotient_59 (by decide) (fun h102 => ?_) (fun h102 => ?_)
      · skip
        have h102 : (C_F_isEndless i u4) = false := (bI_0 _).1 h102
        refine lv_aload_n (pc := 69) hx hb dU_quotient_69 rfl (lv_at hl 2 rfl) ?_
        refine lv_lload (pc := 70) hx hb dU_quotient_70 (lv_at hl 4 rfl) ?_
        refine pu_V (pc := 72) (i := i) (rest := []) ⟨hx, hb, hml, hown, hts⟩ hi (c_F_significand l ad hi u4) (cwF_significand hts w_206 ⟨by decide, by decide⟩) hF hS rfl hl.1 rfl (Nat.le_of_ble_eq_true rfl) dU_quotient_72 ⟨Nat.zero_le _, Nat.zero_le _⟩ ?_
        refine lv_lstore (lv' := [(7, .long (C_F_significand i u4)), (6, .int (bI v6)), (0, .ref h0), (1, .ref (ad i)), (2, .long u2), (4, .long u4)]) (pc := 75) hx hb dU_quotient_75 hl (by decide) rfl (fun ls hl => ?_)
        refine lv_lload (pc := 77) hx hb dU_quotient_77 (lv_at hl 0 rfl) ?_
        refine lv_lconst (v := 0) (pc := 79) hx hb dU_quotient_79 (by decide) ?_
        refine W.lcmp (pc := 80) hx hb dU_quotient_80 ?_
        refine lv_if_ne (tgt := 93) (pc := 81) hx hb dU_quotient_81 (by decide) (fun h103 => ?_) (fun h103 => ?_)
        · skip
          have h103 : ¬ ((C_F_significand i u4) = 0) := fun q => h103 ((lg_cmp_eq _ _).2 q)
          refine lv_aload_n (pc := 93) hx hb dU_quotient_93 rfl (lv_at hl 3 rfl) ?_
          refine lv_lload_n (pc := 94) hx hb dU_quotient_94 rfl (lv_at hl 4 rfl) ?_
          refine pu_V (pc := 95) (i := i) (rest := []) ⟨hx, hb, hml, hown, hts⟩ hi (c_F_isZero l ad hi u2) (cwF_isZero hts w_252 ⟨by decide, by decide⟩) hF hS rfl hl.1 rfl (Nat.le_of_ble_eq_true rfl) dU_quotient_95 ⟨Nat.zero_le _, Nat.zero_le _⟩ ?_
          refine lv_if_eq (tgt := 108) (pc := 98) hx hb dU_quotient_98 (by decide) (fun h104 => ?_) (fun h104 => ?_)
          · skip
            have h104 : (C_F_isZero i u2) = false := (bI_0 _).1 h104
            refine lv_aload_n (pc := 108) hx hb dU_quotient_108 rfl (lv_at hl 3 rfl) ?_
            refine lv_lload_n (pc := 109) hx hb dU_quotient_109 rfl (lv_at hl 4 rfl) ?_
            refine pu_V (pc := 110) (i := i) (rest := []) ⟨hx, hb, hml, hown, hts⟩ hi (c_F_significand l ad hi u2) (cwF_significand hts w_206 ⟨by decide, by decide⟩) hF hS rfl hl.1 rfl (Nat.le_of_ble_eq_true rfl) dU_quotient_110 ⟨Nat.zero_le _, Nat.zero_le _⟩ ?_
            refine lv_lstore (lv' := [(9, .long (C_F_significand i u2)), (7, .long (C_F_significand i u4)), (6, .int (bI v6)), (0, .ref h0), (1, .ref (ad i)), (2, .long u2), (4, .long u4)]) (pc := 113) hx hb dU_quotient_113 hl (by decide) rfl (fun ls hl => ?_)
            refine lv_lload (pc := 115) hx hb dU_quotient_115 (lv_at hl 0 rfl) ?_
            refine lv_lload (pc := 117) hx hb dU_quotient_117 (lv_at hl 1 rfl) ?_
            refine lv_ldiv (pc := 119) hx hb dU_quotient_119 h103 ?_
            refine lv_lstore (lv' := [(11, .long ((C_F_significand i u2) / (C_F_significand i u4))), (9, .long (C_F_significand i u2)), (7, .long (C_F_significand i u4)), (6, .int (bI v6)), (0, .ref h0), (1, .ref (ad i)), (2, .long u2), (4, .long u4)]) (pc := 120) hx hb dU_quotient_120 hl (by decide) rfl (fun ls hl => ?_)
            refine lv_lload (pc := 122) hx hb dU_quotient_122 (lv_at hl 1 rfl) ?_
            refine lv_lload (pc := 124) hx hb dU_quotient_124 (lv_at hl 2 rfl) ?_
            refine lv_lrem (pc := 126) hx hb dU_quotient_126 h103 ?_
            refine lv_lstore (lv' := [(9, .long ((C_F_significand i u2) - (C_F_significand i u2) / (C_F_significand i u4) * (C_F_significand i u4))), (11, .long ((C_F_significand i u2) / (C_F_significand i u4))), (7, .long (C_F_significand i u4)), (6, .int (bI v6)), (0, .ref h0), (1, .ref (ad i)), (2, .long u2), (4, .long u4)]) (pc := 127) hx hb dU_quotient_127 hl (by decide) rfl (fun ls hl => ?_)
            refine lv_aload_n (pc := 129) hx hb dU_quotient_129 rfl (lv_at hl 5 rfl) ?_
            refine lv_lload_n (pc := 130) hx hb dU_quotient_130 rfl (lv_at hl 6 rfl) ?_
            refine pu_V (pc := 131) (i := i) (rest := []) ⟨hx, hb, hml, hown, hts⟩ hi (c_F_power l ad hi u2) (cwF_power hts w_180 ⟨by decide, by decide⟩) hF hS rfl hl.1 rfl (Nat.le_of_ble_eq_true rfl) dU_quotient_131 ⟨Nat.zero_le _, Nat.zero_le _⟩ ?_
            refine lv_aload_n (pc := 134) hx hb dU_quotient_134 rfl (lv_at hl 5 rfl) ?_
            refine lv_lload (pc := 135) hx hb dU_quotient_135 (lv_at hl 7 rfl) ?_
            refine pu_V (pc := 137) (i := i) (rest := [.int (C_F_power i u2)]) ⟨hx, hb, hml, hown, hts⟩ hi (c_F_power l ad hi u4) (cwF_power hts w_180 ⟨by decide, by decide⟩) hF hS rfl hl.1 rfl (Nat.le_of_ble_eq_true rfl) dU_quotient_137 ⟨Nat.zero_le _, Nat.zero_le _⟩ ?_
            refine lv_isub (pc := 140) hx hb dU_quotient_140 ?_
            refine lv_istore (lv' := [(13, .int ((C_F_power i u2) - (C_F_power i u4))), (9, .long ((C_F_significand i u2) - (C_F_significand i u2) / (C_F_significand i u4) * (C_F_significand i u4))), (11, .long ((C_F_significand i u2) / (C_F_significand i u4))), (7, .long (C_F_significand i u4)), (6, .int (bI v6)), (0, .ref h0), (1, .ref (ad i)), (2, .long u2), (4, .long u4)]) (pc := 141) hx hb dU_quotient_141 hl (by decide) rfl (fun ls hl => ?_)
            refine lv_iconst (v := 0) (pc := 143) hx hb dU_quotient_143 (by decide) ?_
            refine lv_istore (lv' := [(14, .int 0), (13, .int ((C_F_power i u2) - (C_F_power i u4))), (9, .long ((C_F_significand i u2) - (C_F_significand i u2) / (C_F_significand i u4) * (C_F_significand i u4))), (11, .long ((C_F_significand i u2) / (C_F_significand i u4))), (7, .long (C_F_significand i u4)), (6, .int (bI v6)), (0, .ref h0), (1, .ref (ad i)), (2, .long u2), (4, .long u4)]) (pc := 144) hx hb dU_quotient_144 hl (by decide) rfl (fun ls hl => ?_)
            exact J146_0 f9 v6 (C_F_significand i u4) ((C_F_significand i u2) - (C_F_significand i u2) / (C_F_significand i u4) * (C_F_significand i u4)) ((C_F_significand i u2) / (C_F_significand i u4)) ((C_F_power i u2) - (C_F_power i u4)) h103 ls _ _ (lv_sub hl [6, 7, 5, 4, 2, 3, 1, 0] rfl) hw hS ((show C_U_quotient_146_0 md f9 i v6 (C_F_significand i u4) ((C_F_significand i u2) - (C_F_significand i u2) / (C_F_significand i u4) * (C_F_significand i u4)) ((C_F_significand i u2) / (C_F_significand i u4)) ((C_F_power i u2) - (C_F_power i u4)) = C_U_quotient_19 md f9 i u2 u4 v6 from by rw [C_U_quotient_19, if_pos h101, if_pos h102, if_neg h103, if_pos h104]).trans he)
          · skip
            have h104 : ¬ ((C_F_isZero i u2) = false) := fun q => h104 ((bI_0 _).2 q)
            refine lv_aload_n (pc := 101) hx hb dU_quotient_101 rfl (lv_at hl 3 rfl) ?_
            refine lv_iload (pc := 102) hx hb dU_quotient_102 (lv_at hl 1 rfl) ?_
            refine pu_V (pc := 104) (i := i) (rest := []) ⟨hx, hb, hml, hown, hts⟩ hi (c_F_zero l ad hi v6) (cwF_zero hts w_213 ⟨by decide, by decide⟩) hF hS rfl hl.1 rfl (Nat.le_of_ble_eq_true rfl) dU_quotient_104 ⟨Nat.zero_le _, Nat.zero_le _⟩ ?_
            have he9 := (show (C_F_zero i v6, f9) = C_U_quotient_19 md f9 i u2 u4 v6 from by rw [C_U_quotient_19, if_pos h101, if_pos h102, if_neg h103, if_neg h104]).trans he
            exact hret _ _ _ _ _ _ _ _ (congrArg Prod.fst he9) rfl (congrArg Prod.snd he9) rfl hw hS dU_quotient_107
        · skip
          have h103 : (C_F_significand i u4) = 0 := (lg_cmp_eq _ _).1 h103
          refine lv_aload_n (pc := 84) hx hb dU_quotient_84 rfl (lv_at hl 2 rfl) ?_
          refine lv_aload_n (pc := 85) hx hb dU_quotient_85 rfl (lv_at hl 3 rfl) ?_
          refine lv_lload_n (pc := 86) hx hb dU_quotient_86 rfl (lv_at hl 4 rfl) ?_
          refine lv_iload (pc := 87) hx hb dU_quotient_87 (lv_at hl 1 rfl) ?_
          refine fu_V (pc := 89) (rest := []) ⟨hx, hb, hml, hown, hts⟩ (c_U_quotientByZero l ad D cA h0 r0 hi md f9 rg u2 v6) (cwU_quotientByZero hts w_264 ⟨by decide, by decide⟩) hF hw hS rfl hl.1 rfl (Nat.le_of_ble_eq_true rfl) dU_quotient_89 ⟨Nat.zero_le _, Nat.zero_le _⟩ (fun H locs hw hS => ?_)
          refine W.eq (g2 := F0 m 92 ls [.long ((C_U_quotientByZero md f9 i u2 v6).1)]) rfl ?_
          have he9 := (show ((C_U_quotientByZero md f9 i u2 v6).1, (C_U_quotientByZero md f9 i u2 v6).2) = C_U_quotient_19 md f9 i u2 u4 v6 from by rw [C_U_quotient_19, if_pos h101, if_pos h102, if_pos h103]).trans he
          exact hret _ _ _ _ _ _ _ _ (congrArg Prod.fst he9) rfl (congrArg Prod.snd he9) rfl hw hS dU_quotient_92
      · skip
        have h102 : ¬ ((C_F_isEndless i u4) = false) := fun q => h102 ((bI_0 _).2 q)
        refine lv_aload_n (pc := 62) hx hb dU_quotient_62 rfl (lv_at hl 2 rfl) ?_
        refine lv_iload (pc := 63) hx hb dU_quotient_63 (lv_at hl 0 rfl) ?_
        refine pu_V (pc := 65) (i := i) (rest := []) ⟨hx, hb, hml, hown, hts⟩ hi (c_F_zero l ad hi v6) (cwF_zero hts w_213 ⟨by decide, by decide⟩) hF hS rfl hl.1 rfl (Nat.le_of_ble_eq_true rfl) dU_quotient_65 ⟨Nat.zero_le _, Nat.zero_le _⟩ ?_
        have he9 := (show (C_F_zero i v6, f9) = C_U_quotient_19 md f9 i u2 u4 v6 from by rw [C_U_quotient_19, if_pos h101, if_neg h102]).trans he
        exact hret _ _ _ _ _ _ _ _ (congrArg Prod.fst he9) rfl (congrArg Prod.snd he9) rfl hw hS dU_quotient_68
    · skip
      have h101 : ¬ ((C_F_isEndless i u2) = false) := fun q => h101 ((bI_0 _).2 q)
      refine lv_aload_n (pc := 29) hx hb dU_quotient_29 rfl (lv_at hl 2 rfl) ?_
      refine lv_lload (pc := 30) hx hb dU_quotient_30 (lv_at hl 4 rfl) ?_
      refine pu_V (pc := 32) (i := i) (rest := []) ⟨hx, hb, hml, hown, hts⟩ hi (c_F_isEndless l ad hi u4) (cwF_isEndless hts w_168 ⟨by decide, by decide⟩) hF hS rfl hl.1 rfl (Nat.le_of_ble_eq_true rfl) dU_quotient_32 ⟨Nat.zero_le _, Nat.zero_le _⟩ ?_
      refine lv_if_eq (tgt := 46) (pc := 35) hx hb dU_quotient_35 (by decide) (fun h105 => ?_) (fun h105 => ?_)
      · skip
        have h105 : (C_F_isEndless i u4) = false := (bI_0 _).1 h105
        refine lv_aload_n (pc := 46) hx hb dU_quotient_46 rfl (lv_at hl 2 rfl) ?_
        refine lv_iload (pc := 47) hx hb dU_quotient_47 (lv_at hl 0 rfl) ?_
        refine pu_V (pc := 49) (i := i) (rest := []) ⟨hx, hb, hml, hown, hts⟩ hi (c_F_endless l ad hi v6) (cwF_endless hts w_234 ⟨by decide, by decide⟩) hF hS rfl hl.1 rfl (Nat.le_of_ble_eq_true rfl) dU_quotient_49 ⟨Nat.zero_le _, Nat.zero_le _⟩ ?_
        have he9 := (show (C_F_endless i v6, f9) = C_U_quotient_19 md f9 i u2 u4 v6 from by rw [C_U_quotient_19, if_neg h101, if_pos h105]).trans he
        exact hret _ _ _ _ _ _ _ _ (congrArg Prod.fst he9) rfl (congrArg Prod.snd he9) rfl hw hS dU_quotient_52
      · skip
        have h105 : ¬ ((C_F_isEndless i u4) = false) := fun q => h105 ((bI_0 _).2 q)
        refine lv_aload_n (pc := 38) hx hb dU_quotient_38 rfl (lv_at hl 1 rfl) ?_
        refine lv_aload_n (pc := 39) hx hb dU_quotient_39 rfl (lv_at hl 2 rfl) ?_
        refine fu_V (pc := 40) (rest := []) ⟨hx, hb, hml, hown, hts⟩ (c_U_invalid l ad D cA h0 r0 hi md f9 rg ) (cwU_invalid hts w_172 ⟨by decide, by decide⟩) hF hw hS rfl hl.1 rfl (Nat.le_of_ble_eq_true rfl) dU_quotient_40 ⟨Nat.zero_le _, Nat.zero_le _⟩ (fun H locs hw hS => ?_)
        refine W.eq (g2 := F0 m 43 ls [.long ((C_U_invalid md f9 i).1)]) rfl ?_
        refine lv_goto (tgt := 52) (pc := 43) hx hb dU_quotient_43 (by decide) ?_
        have he9 := (show ((C_U_invalid md f9 i).1, (C_U_invalid md f9 i).2) = C_U_quotient_19 md f9 i u2 u4 v6 from by rw [C_U_quotient_19, if_neg h101, if_neg h105]).trans he
        exact hret _ _ _ _ _ _ _ _ (congrArg Prod.fst he9) rfl (congrArg Prod.snd he9) rfl hw hS dU_quotient_52
  refine lv_aload_n (pc := 0) hx hb dU_quotient_0 rfl (lv_at hl 1 rfl) ?_
  refine lv_lload_n (pc := 1) hx hb dU_quotient_1 rfl (lv_at hl 2 rfl) ?_
  refine pu_V (pc := 2) (i := i) (rest := []) ⟨hx, hb, hml, hown, hts⟩ hi (c_F_isMinus l ad hi x2) (cwF_isMinus hts w_164 ⟨by decide, by decide⟩) hF hS rfl hl.1 rfl (Nat.le_of_ble_eq_true rfl) dU_quotient_2 ⟨Nat.zero_le _, Nat.zero_le _⟩ ?_
  refine lv_aload_n (pc := 5) hx hb dU_quotient_5 rfl (lv_at hl 1 rfl) ?_
  refine lv_lload (pc := 6) hx hb dU_quotient_6 (lv_at hl 3 rfl) ?_
  refine pu_V (pc := 8) (i := i) (rest := [.int (bI (C_F_isMinus i x2))]) ⟨hx, hb, hml, hown, hts⟩ hi (c_F_isMinus l ad hi x3) (cwF_isMinus hts w_164 ⟨by decide, by decide⟩) hF hS rfl hl.1 rfl (Nat.le_of_ble_eq_true rfl) dU_quotient_8 ⟨Nat.zero_le _, Nat.zero_le _⟩ ?_
  refine lv_icmp_eq (tgt := 18) (pc := 11) hx hb dU_quotient_11 (by decide) (fun h1 => ?_) (fun h1 => ?_)
  · skip
    refine lv_iconst (v := 0) (pc := 18) hx hb dU_quotient_18 (by decide) ?_
    exact J19 fl x2 x3 false ls _ _ (lv_sub hl [0, 1, 2, 3] rfl) hw hS ((show C_U_quotient_19 md fl i x2 x3 false = C_U_quotient md fl i x2 x3 from by rw [C_U_quotient, if_pos h1]))
  · skip
    refine lv_iconst (v := 1) (pc := 14) hx hb dU_quotient_14 (by decide) ?_
    refine lv_goto (tgt := 19) (pc := 15) hx hb dU_quotient_15 (by decide) ?_
    exact J19 fl x2 x3 true ls _ _ (lv_sub hl [0, 1, 2, 3] rfl) hw hS ((show C_U_quotient_19 md fl i x2 x3 true = C_U_quotient md fl i x2 x3 from by rw [C_U_quotient, if_neg h1]))
def C_U_turned (md : Int32) (fl : Int32) (i : Nat) (j : Nat) (x3 : Int64) : Int64 × Int32 :=
  if (C_F_isNone i x3) = false then
    if (C_F_isEndless i x3) = false then
      if (C_F_isZero i x3) = false then
        ((C_U_rounded md fl j (C_F_isMinus i x3) (C_F_significand i x3) (C_F_power i x3)).1, (C_U_rounded md fl j (C_F_isMinus i x3) (C_F_significand i x3) (C_F_power i x3)).2)
      else
        (C_F_zero j (C_F_isMinus i x3), fl)
    else
      (C_F_endless j (C_F_isMinus i x3), fl)
  else
    (C_F_none j, fl)
abbrev rmU_turned : Room := { frames := 4, cells := 0, slots := 0, locals := 104 }
theorem cwU_turned {R : Room} {s : State} {args : Array Value} {w0 : Cond} {own : String} {idx : Nat} (hts : ∀ w ∈ (w0 :: bigW), w.before args s = true) (hl : Cond.methodLink own idx yU_turned ∈ bigW) (hR : rmU_turned.frames + 1 ≤ R.frames ∧ 8 + (6 + 11) + rmU_turned.locals ≤ R.locals) : CallW R s args own "FloatUnit" idx yU_turned cU_turned 6 (some .long) (wsM yU_turned cU_turned 6 (some .long)) rmU_turned 0 0 3 :=
  cwV 3 hts (big_V hl w_327 sel_U_turned w_1 w_328) rfl rfl rfl ⟨rfl, by decide, by decide, by decide +kernel⟩ hR
set_option maxRecDepth 100000 in
set_option maxHeartbeats 8000000 in
theorem c_U_turned (l : Launch) (ad : Nat → Nat) (D : va_G) (cA : ClassId) (h0 r0 : Nat) {i : Nat} (hi : i < 2) {j : Nat} (hj : j < 2) (md fl : Int32) (rg : Nat → Int64) (x3 : Int64) : FuM l ad D cA h0 r0 yU_turned (wsM yU_turned cU_turned 6 (some .long)) rmU_turned [.ref (ad i), .ref (ad j), .long x3] md fl rg (some (.long ((C_U_turned md fl i j x3).1))) md (C_U_turned md fl i j x3).2 rg := by
  refine fu_ofL (cc := cU_turned) (maxL := 6) (by decide) rfl (Nat.le_of_ble_eq_true rfl) ?_
  intro p e s m args below meth c Q hx hb hml hown hts hF H locs hS hw hret ls hl
  have hl : lv_has ls 6 [(0, .ref h0), (1, .ref (ad i)), (2, .ref (ad j)), (3, .long x3)] := hl
  refine lv_aload_n (pc := 0) hx hb dU_turned_0 rfl (lv_at hl 1 rfl) ?_
  refine lv_lload_n (pc := 1) hx hb dU_turned_1 rfl (lv_at hl 3 rfl) ?_
  refine pu_V (pc := 2) (i := i) (rest := []) ⟨hx, hb, hml, hown, hts⟩ hi (c_F_isMinus l ad hi x3) (cwF_isMinus hts w_164 ⟨by decide, by decide⟩) hF hS rfl hl.1 rfl (Nat.le_of_ble_eq_true rfl) dU_turned_2 ⟨Nat.zero_le _, Nat.zero_le _⟩ ?_
  refine lv_istore (lv' := [(5, .int (bI (C_F_isMinus i x3))), (0, .ref h0), (1, .ref (ad i)), (2, .ref (ad j)), (3, .long x3)]) (pc := 5) hx hb dU_turned_5 hl (by decide) rfl (fun ls hl => ?_)
  refine lv_aload_n (pc := 7) hx hb dU_turned_7 rfl (lv_at hl 2 rfl) ?_
  refine lv_lload_n (pc := 8) hx hb dU_turned_8 rfl (lv_at hl 4 rfl) ?_
  refine pu_V (pc := 9) (i := i) (rest := []) ⟨hx, hb, hml, hown, hts⟩ hi (c_F_isNone l ad hi x3) (cwF_isNone hts w_148 ⟨by decide, by decide⟩) hF hS rfl hl.1 rfl (Nat.le_of_ble_eq_true rfl) dU_turned_9 ⟨Nat.zero_le _, Nat.zero_le _⟩ ?_
  refine lv_if_eq (tgt := 20) (pc := 12) hx hb dU_turned_12 (by decide) (fun h1 => ?_) (fun h1 => ?_)
  · skip
    have h1 : (C_F_isNone i x3) = false := (bI_0 _).1 h1
    refine lv_aload_n (pc := 20) hx hb dU_turned_20 rfl (lv_at hl 2 rfl) ?_
    refine lv_lload_n (pc := 21) hx hb dU_turned_21 rfl (lv_at hl 4 rfl) ?_
    refine pu_V (pc := 22) (i := i) (rest := []) ⟨hx, hb, hml, hown, hts⟩ hi (c_F_isEndless l ad hi x3) (cwF_isEndless hts w_168 ⟨by decide, by decide⟩) hF hS rfl hl.1 rfl (Nat.le_of_ble_eq_true rfl) dU_turned_22 ⟨Nat.zero_le _, Nat.zero_le _⟩ ?_
    refine lv_if_eq (tgt := 35) (pc := 25) hx hb dU_turned_25 (by decide) (fun h2 => ?_) (fun h2 => ?_)
    · skip
      have h2 : (C_F_isEndless i x3) = false := (bI_0 _).1 h2
      refine lv_aload_n (pc := 35) hx hb dU_turned_35 rfl (lv_at hl 2 rfl) ?_
      refine lv_lload_n (pc := 36) hx hb dU_turned_36 rfl (lv_at hl 4 rfl) ?_
      refine pu_V (pc := 37) (i := i) (rest := []) ⟨hx, hb, hml, hown, hts⟩ hi (c_F_isZero l ad hi x3) (cwF_isZero hts w_252 ⟨by decide, by decide⟩) hF hS rfl hl.1 rfl (Nat.le_of_ble_eq_true rfl) dU_turned_37 ⟨Nat.zero_le _, Nat.zero_le _⟩ ?_
      refine lv_if_eq (tgt := 50) (pc := 40) hx hb dU_turned_40 (by decide) (fun h3 => ?_) (fun h3 => ?_)
      · skip
        have h3 : (C_F_isZero i x3) = false := (bI_0 _).1 h3
        refine lv_aload_n (pc := 50) hx hb dU_turned_50 rfl (lv_at hl 1 rfl) ?_
        refine lv_aload_n (pc := 51) hx hb dU_turned_51 rfl (lv_at hl 3 rfl) ?_
        refine lv_iload (pc := 52) hx hb dU_turned_52 (lv_at hl 0 rfl) ?_
        refine lv_aload_n (pc := 54) hx hb dU_turned_54 rfl (lv_at hl 2 rfl) ?_
        refine lv_lload_n (pc := 55) hx hb dU_turned_55 rfl (lv_at hl 4 rfl) ?_
        refine pu_V (pc := 56) (i := i) (rest := [.int (bI (C_F_isMinus i x3)), .ref (ad j), .ref h0]) ⟨hx, hb, hml, hown, hts⟩ hi (c_F_significand l ad hi x3) (cwF_significand hts w_206 ⟨by decide, by decide⟩) hF hS rfl hl.1 rfl (Nat.le_of_ble_eq_true rfl) dU_turned_56 ⟨Nat.zero_le _, Nat.zero_le _⟩ ?_
        refine lv_aload_n (pc := 59) hx hb dU_turned_59 rfl (lv_at hl 2 rfl) ?_
        refine lv_lload_n (pc := 60) hx hb dU_turned_60 rfl (lv_at hl 4 rfl) ?_
        refine pu_V (pc := 61) (i := i) (rest := [.long (C_F_significand i x3), .int (bI (C_F_isMinus i x3)), .ref (ad j), .ref h0]) ⟨hx, hb, hml, hown, hts⟩ hi (c_F_power l ad hi x3) (cwF_power hts w_180 ⟨by decide, by decide⟩) hF hS rfl hl.1 rfl (Nat.le_of_ble_eq_true rfl) dU_turned_61 ⟨Nat.zero_le _, Nat.zero_le _⟩ ?_
        refine fu_V (pc := 64) (rest := []) ⟨hx, hb, hml, hown, hts⟩ (c_U_rounded l ad D cA h0 r0 hj md fl rg (C_F_isMinus i x3) (C_F_significand i x3) (C_F_power i x3)) (cwU_rounded hts w_221 ⟨by decide, by decide⟩) hF hw hS rfl hl.1 rfl (Nat.le_of_ble_eq_true rfl) dU_turned_64 ⟨Nat.zero_le _, Nat.zero_le _⟩ (fun H locs hw hS => ?_)
        refine W.eq (g2 := F0 m 67 ls [.long ((C_U_rounded md fl j (C_F_isMinus i x3) (C_F_significand i x3) (C_F_power i x3)).1)]) rfl ?_
        have he9 := (show ((C_U_rounded md fl j (C_F_isMinus i x3) (C_F_significand i x3) (C_F_power i x3)).1, (C_U_rounded md fl j (C_F_isMinus i x3) (C_F_significand i x3) (C_F_power i x3)).2) = C_U_turned md fl i j x3 from by rw [C_U_turned, if_pos h1, if_pos h2, if_pos h3])
        exact hret _ _ _ _ _ _ _ _ (congrArg Prod.fst he9) rfl (congrArg Prod.snd he9) rfl hw hS dU_turned_67
      · skip
        have h3 : ¬ ((C_F_isZero i x3) = false) := fun q => h3 ((bI_0 _).2 q)
        refine lv_aload_n (pc := 43) hx hb dU_turned_43 rfl (lv_at hl 3 rfl) ?_
        refine lv_iload (pc := 44) hx hb dU_turned_44 (lv_at hl 0 rfl) ?_
        refine pu_V (pc := 46) (i := j) (rest := []) ⟨hx, hb, hml, hown, hts⟩ hj (c_F_zero l ad hj (C_F_isMinus i x3)) (cwF_zero hts w_213 ⟨by decide, by decide⟩) hF hS rfl hl.1 rfl (Nat.le_of_ble_eq_true rfl) dU_turned_46 ⟨Nat.zero_le _, Nat.zero_le _⟩ ?_
        have he9 := (show (C_F_zero j (C_F_isMinus i x3), fl) = C_U_turned md fl i j x3 from by rw [C_U_turned, if_pos h1, if_pos h2, if_neg h3])
        exact hret _ _ _ _ _ _ _ _ (congrArg Prod.fst he9) rfl (congrArg Prod.snd he9) rfl hw hS dU_turned_49
    · skip
      have h2 : ¬ ((C_F_isEndless i x3) = false) := fun q => h2 ((bI_0 _).2 q)
      refine lv_aload_n (pc := 28) hx hb dU_turned_28 rfl (lv_at hl 3 rfl) ?_
      refine lv_iload (pc := 29) hx hb dU_turned_29 (lv_at hl 0 rfl) ?_
      refine pu_V (pc := 31) (i := j) (rest := []) ⟨hx, hb, hml, hown, hts⟩ hj (c_F_endless l ad hj (C_F_isMinus i x3)) (cwF_endless hts w_234 ⟨by decide, by decide⟩) hF hS rfl hl.1 rfl (Nat.le_of_ble_eq_true rfl) dU_turned_31 ⟨Nat.zero_le _, Nat.zero_le _⟩ ?_
      have he9 := (show (C_F_endless j (C_F_isMinus i x3), fl) = C_U_turned md fl i j x3 from by rw [C_U_turned, if_pos h1, if_neg h2])
      exact hret _ _ _ _ _ _ _ _ (congrArg Prod.fst he9) rfl (congrArg Prod.snd he9) rfl hw hS dU_turned_34
  · skip
    have h1 : ¬ ((C_F_isNone i x3) = false) := fun q => h1 ((bI_0 _).2 q)
    refine lv_aload_n (pc := 15) hx hb dU_turned_15 rfl (lv_at hl 3 rfl) ?_
    refine pu_V (pc := 16) (i := j) (rest := []) ⟨hx, hb, hml, hown, hts⟩ hj (c_F_none l ad hj) (cwF_none hts w_156 ⟨by decide, by decide⟩) hF hS rfl hl.1 rfl (Nat.le_of_ble_eq_true rfl) dU_turned_16 ⟨Nat.zero_le _, Nat.zero_le _⟩ ?_
    have he9 := (show (C_F_none j, fl) = C_U_turned md fl i j x3 from by rw [C_U_turned, if_neg h1])
    exact hret _ _ _ _ _ _ _ _ (congrArg Prod.fst he9) rfl (congrArg Prod.snd he9) rfl hw hS dU_turned_19
def C_U_cut_23 (md f9 : Int32) (u4 : Int64) (u6 : Int64) (u8 : Int32) (u9 : Int64) : Int64 × Int32 :=
  if 12 ≤ u8 then
    (u4, C_U_raise md f9 16)
  else
    if (C_U_isBeyond u9 u4) = false then
      if 0 ≤ u8 then
        (u9, f9)
      else
        if (C_U_moved u9 (-u8)) = u6 then
          (u9, f9)
        else
          (u9, C_U_raise md f9 1)
    else
      (u4, C_U_raise md f9 16)
def C_U_cut (md : Int32) (fl : Int32) (i : Nat) (x2 : Int64) (x3 : Int64) : Int64 × Int32 :=
  C_U_cut_23 md fl x3 (C_F_significand i x2) (C_F_power i x2) (C_U_moved (C_F_significand i x2) (C_F_power i x2))
abbrev rmU_cut : Room := { frames := 3, cells := 0, slots := 0, locals := 70 }
theorem cwU_cut {R : Room} {s : State} {args : Array Value} {w0 : Cond} {own : String} {idx : Nat} (hts : ∀ w ∈ (w0 :: bigW), w.before args s = true) (hl : Cond.methodLink own idx yU_cut ∈ bigW) (hR : rmU_cut.frames + 1 ≤ R.frames ∧ 8 + (11 + 11) + rmU_cut.locals ≤ R.locals) : CallW R s args own "FloatUnit" idx yU_cut cU_cut 11 (some .long) (wsM yU_cut cU_cut 11 (some .long)) rmU_cut 0 0 3 :=
  cwV 3 hts (big_V hl w_309 sel_U_cut w_1 w_310) rfl rfl rfl ⟨rfl, by decide, by decide, by decide +kernel⟩ hR
set_option maxRecDepth 100000 in
set_option maxHeartbeats 8000000 in
theorem c_U_cut (l : Launch) (ad : Nat → Nat) (D : va_G) (cA : ClassId) (h0 r0 : Nat) {i : Nat} (hi : i < 2) (md fl : Int32) (rg : Nat → Int64) (x2 : Int64) (x3 : Int64) : FuM l ad D cA h0 r0 yU_cut (wsM yU_cut cU_cut 11 (some .long)) rmU_cut [.ref (ad i), .long x2, .long x3] md fl rg (some (.long ((C_U_cut md fl i x2 x3).1))) md (C_U_cut md fl i x2 x3).2 rg := by
  refine fu_ofL (cc := cU_cut) (maxL := 11) (by decide) rfl (Nat.le_of_ble_eq_true rfl) ?_
  intro p e s m args below meth c Q hx hb hml hown hts hF H locs hS hw hret ls hl
  have hl : lv_has ls 11 [(0, .ref h0), (1, .ref (ad i)), (2, .long x2), (4, .long x3)] := hl
  have J23 : ∀ (f9 : Int32) (u4 : Int64) (u6 : Int64) (u8 : Int32) (u9 : Int64) (ls : Array Slot) (H : Heap) (locs : List Loc), lv_has ls 11 [(0, .ref h0), (4, .long u4), (6, .long u6), (8, .int u8), (9, .long u9)] → FUw D cA h0 r0 md f9 rg s H → va_S (fA h0 r0) s.heap H locs → C_U_cut_23 md f9 u4 u6 u8 u9 = C_U_cut md fl i x2 x3 → W p l e rmU_cut s m args below meth c H locs 0 0 Q (F0 m 23 ls []) := by
    intro f9 u4 u6 u8 u9 ls H locs hl hw hS he
    refine lv_iload (pc := 23) hx hb dU_cut_23 (lv_at hl 3 rfl) ?_
    refine lv_bipush (v := 12) (pc := 25) hx hb dU_cut_25 (by decide) ?_
    refine lv_icmp_ge (tgt := 40) (pc := 27) hx hb dU_cut_27 (by decide) (fun h101 => ?_) (fun h101 => ?_)
    · skip
      refine lv_aload_n (pc := 40) hx hb dU_cut_40 rfl (lv_at hl 0 rfl) ?_
      refine lv_bipush (v := 16) (pc := 41) hx hb dU_cut_41 (by decide) ?_
      refine fu_V (pc := 43) (rest := []) ⟨hx, hb, hml, hown, hts⟩ (c_U_raise l ad D cA h0 r0  md f9 rg 16) (cwU_raise hts w_176 ⟨by decide, by decide⟩) hF hw hS rfl hl.1 rfl (Nat.le_of_ble_eq_true rfl) dU_cut_43 ⟨Nat.zero_le _, Nat.zero_le _⟩ (fun H locs hw hS => ?_)
      refine W.eq (g2 := F0 m 46 ls []) rfl ?_
      refine lv_lload (pc := 46) hx hb dU_cut_46 (lv_at hl 1 rfl) ?_
      have he9 := (show (u4, C_U_raise md f9 16) = C_U_cut_23 md f9 u4 u6 u8 u9 from by rw [C_U_cut_23, if_pos h101]).trans he
      exact hret _ _ _ _ _ _ _ _ (congrArg Prod.fst he9) rfl (congrArg Prod.snd he9) rfl hw hS dU_cut_48
    · skip
      refine lv_lload (pc := 30) hx hb dU_cut_30 (lv_at hl 4 rfl) ?_
      refine lv_lload (pc := 32) hx hb dU_cut_32 (lv_at hl 1 rfl) ?_
      refine pu_S (pc := 34) (rest := []) ⟨hx, hb, hml, hown, hts⟩ (c_U_isBeyond l ad u9 u4) (cwU_isBeyond hts w_314 ⟨by decide, by decide⟩) hF hS rfl hl.1 rfl (Nat.le_of_ble_eq_true rfl) dU_cut_34 ⟨Nat.zero_le _, Nat.zero_le _⟩ ?_
      refine lv_if_eq (tgt := 49) (pc := 37) hx hb dU_cut_37 (by decide) (fun h102 => ?_) (fun h102 => ?_)
      · skip
        have h102 : (C_U_isBeyond u9 u4) = false := (bI_0 _).1 h102
        refine lv_iload (pc := 49) hx hb dU_cut_49 (lv_at hl 3 rfl) ?_
        refine lv_if_ge (tgt := 73) (pc := 51) hx hb dU_cut_51 (by decide) (fun h103 => ?_) (fun h103 => ?_)
        · skip
          refine lv_lload (pc := 73) hx hb dU_cut_73 (lv_at hl 4 rfl) ?_
          have he9 := (show (u9, f9) = C_U_cut_23 md f9 u4 u6 u8 u9 from by rw [C_U_cut_23, if_neg h101, if_pos h102, if_pos h103]).trans he
          exact hret _ _ _ _ _ _ _ _ (congrArg Prod.fst he9) rfl (congrArg Prod.snd he9) rfl hw hS dU_cut_75
        · skip
          refine lv_lload (pc := 54) hx hb dU_cut_54 (lv_at hl 4 rfl) ?_
          refine lv_iload (pc := 56) hx hb dU_cut_56 (lv_at hl 3 rfl) ?_
          refine lv_ineg (pc := 58) hx hb dU_cut_58 ?_
          refine pu_S (pc := 59) (rest := []) ⟨hx, hb, hml, hown, hts⟩ (c_U_moved l ad u9 (-u8)) (cwU_moved hts w_311 ⟨by decide, by decide⟩) hF hS rfl hl.1 rfl (Nat.le_of_ble_eq_true rfl) dU_cut_59 ⟨Nat.zero_le _, Nat.zero_le _⟩ ?_
          refine lv_lload (pc := 62) hx hb dU_cut_62 (lv_at hl 2 rfl) ?_
          refine W.lcmp (pc := 64) hx hb dU_cut_64 ?_
          refine lv_if_eq (tgt := 73) (pc := 65) hx hb dU_cut_65 (by decide) (fun h104 => ?_) (fun h104 => ?_)
          · skip
            have h104 : (C_U_moved u9 (-u8)) = u6 := (lg_cmp_eq _ _).1 h104
            refine lv_lload (pc := 73) hx hb dU_cut_73 (lv_at hl 4 rfl) ?_
            have he9 := (show (u9, f9) = C_U_cut_23 md f9 u4 u6 u8 u9 from by rw [C_U_cut_23, if_neg h101, if_pos h102, if_neg h103, if_pos h104]).trans he
            exact hret _ _ _ _ _ _ _ _ (congrArg Prod.fst he9) rfl (congrArg Prod.snd he9) rfl hw hS dU_cut_75
          · skip
            have h104 : ¬ ((C_U_moved u9 (-u8)) = u6) := fun q => h104 ((lg_cmp_eq _ _).2 q)
            refine lv_aload_n (pc := 68) hx hb dU_cut_68 rfl (lv_at hl 0 rfl) ?_
            refine lv_iconst (v := 1) (pc := 69) hx hb dU_cut_69 (by decide) ?_
            refine fu_V (pc := 70) (rest := []) ⟨hx, hb, hml, hown, hts⟩ (c_U_raise l ad D cA h0 r0  md f9 rg 1) (cwU_raise hts w_176 ⟨by decide, by decide⟩) hF hw hS rfl hl.1 rfl (Nat.le_of_ble_eq_true rfl) dU_cut_70 ⟨Nat.zero_le _, Nat.zero_le _⟩ (fun H locs hw hS => ?_)
            refine W.eq (g2 := F0 m 73 ls []) rfl ?_
            refine lv_lload (pc := 73) hx hb dU_cut_73 (lv_at hl 4 rfl) ?_
            have he9 := (show (u9, C_U_raise md f9 1) = C_U_cut_23 md f9 u4 u6 u8 u9 from by rw [C_U_cut_23, if_neg h101, if_pos h102, if_neg h103, if_neg h104]).trans he
            exact hret _ _ _ _ _ _ _ _ (congrArg Prod.fst he9) rfl (congrArg Prod.snd he9) rfl hw hS dU_cut_75
      · skip
        have h102 : ¬ ((C_U_isBeyond u9 u4) = false) := fun q => h102 ((bI_0 _).2 q)
        refine lv_aload_n (pc := 40) hx hb dU_cut_40 rfl (lv_at hl 0 rfl) ?_
        refine lv_bipush (v := 16) (pc := 41) hx hb dU_cut_41 (by decide) ?_
        refine fu_V (pc := 43) (rest := []) ⟨hx, hb, hml, hown, hts⟩ (c_U_raise l ad D cA h0 r0  md f9 rg 16) (cwU_raise hts w_176 ⟨by decide, by decide⟩) hF hw hS rfl hl.1 rfl (Nat.le_of_ble_eq_true rfl) dU_cut_43 ⟨Nat.zero_le _, Nat.zero_le _⟩ (fun H locs hw hS => ?_)
        refine W.eq (g2 := F0 m 46 ls []) rfl ?_
        refine lv_lload (pc := 46) hx hb dU_cut_46 (lv_at hl 1 rfl) ?_
        have he9 := (show (u4, C_U_raise md f9 16) = C_U_cut_23 md f9 u4 u6 u8 u9 from by rw [C_U_cut_23, if_neg h101, if_neg h102]).trans he
        exact hret _ _ _ _ _ _ _ _ (congrArg Prod.fst he9) rfl (congrArg Prod.snd he9) rfl hw hS dU_cut_48
  refine lv_aload_n (pc := 0) hx hb dU_cut_0 rfl (lv_at hl 1 rfl) ?_
  refine lv_lload_n (pc := 1) hx hb dU_cut_1 rfl (lv_at hl 2 rfl) ?_
  refine pu_V (pc := 2) (i := i) (rest := []) ⟨hx, hb, hml, hown, hts⟩ hi (c_F_significand l ad hi x2) (cwF_significand hts w_206 ⟨by decide, by decide⟩) hF hS rfl hl.1 rfl (Nat.le_of_ble_eq_true rfl) dU_cut_2 ⟨Nat.zero_le _, Nat.zero_le _⟩ ?_
  refine lv_lstore (lv' := [(6, .long (C_F_significand i x2)), (0, .ref h0), (1, .ref (ad i)), (2, .long x2), (4, .long x3)]) (pc := 5) hx hb dU_cut_5 hl (by decide) rfl (fun ls hl => ?_)
  refine lv_aload_n (pc := 7) hx hb dU_cut_7 rfl (lv_at hl 2 rfl) ?_
  refine lv_lload_n (pc := 8) hx hb dU_cut_8 rfl (lv_at hl 3 rfl) ?_
  refine pu_V (pc := 9) (i := i) (rest := []) ⟨hx, hb, hml, hown, hts⟩ hi (c_F_power l ad hi x2) (cwF_power hts w_180 ⟨by decide, by decide⟩) hF hS rfl hl.1 rfl (Nat.le_of_ble_eq_true rfl) dU_cut_9 ⟨Nat.zero_le _, Nat.zero_le _⟩ ?_
  refine lv_istore (lv' := [(8, .int (C_F_power i x2)), (6, .long (C_F_significand i x2)), (0, .ref h0), (1, .ref (ad i)), (2, .long x2), (4, .long x3)]) (pc := 12) hx hb dU_cut_12 hl (by decide) rfl (fun ls hl => ?_)
  refine lv_lload (pc := 14) hx hb dU_cut_14 (lv_at hl 1 rfl) ?_
  refine lv_iload (pc := 16) hx hb dU_cut_16 (lv_at hl 0 rfl) ?_
  refine pu_S (pc := 18) (rest := []) ⟨hx, hb, hml, hown, hts⟩ (c_U_moved l ad (C_F_significand i x2) (C_F_power i x2)) (cwU_moved hts w_311 ⟨by decide, by decide⟩) hF hS rfl hl.1 rfl (Nat.le_of_ble_eq_true rfl) dU_cut_18 ⟨Nat.zero_le _, Nat.zero_le _⟩ ?_
  refine lv_lstore (lv' := [(9, .long (C_U_moved (C_F_significand i x2) (C_F_power i x2))), (8, .int (C_F_power i x2)), (6, .long (C_F_significand i x2)), (0, .ref h0), (1, .ref (ad i)), (2, .long x2), (4, .long x3)]) (pc := 21) hx hb dU_cut_21 hl (by decide) rfl (fun ls hl => ?_)
  exact J23 fl x3 (C_F_significand i x2) (C_F_power i x2) (C_U_moved (C_F_significand i x2) (C_F_power i x2)) ls _ _ (lv_sub hl [3, 6, 2, 1, 0] rfl) hw hS ((show C_U_cut_23 md fl x3 (C_F_significand i x2) (C_F_power i x2) (C_U_moved (C_F_significand i x2) (C_F_power i x2)) = C_U_cut md fl i x2 x3 from by rw [C_U_cut]))
end
section
/-! The rest: its loop by hand; the choice of the operation. -/
def restLoop : Nat → Int64 → Int64 → Int32 → Int64
  | 0, _, u, _ => u
  | n + 1, d, u, k => if k ≤ 0 then u else restLoop n d ((jShl u (jMin k 10)) - (jShl u (jMin k 10)) / d * d) (k + (-10))
theorem rest_neg {k : Int32} (h : k.toInt < ((0 : Nat) : Int)) : k ≤ 0 := by
  rw [Int32.le_iff_toInt_le, Int32.toInt_zero]
  omega
theorem rest_dec {k : Int32} {n : Nat} (h : k.toInt < ((n + 1 : Nat) : Int)) (h1 : ¬ k ≤ 0) : (k + (-10)).toInt < (n : Int) := by
  obtain ⟨z, hz, rfl⟩ := iI_of k
  have e : iI z + (-10) = iI (z - 10) := by
    rw [show (-10 : Int32) = iI (-10) from rfl, iI_add, Int.sub_eq_add_neg]
  rw [Int32.le_iff_toInt_le, Int32.toInt_zero, iI_toInt hz] at h1
  rw [iI_toInt hz] at h
  obtain ⟨a, b⟩ := hz
  rw [e, iI_toInt ⟨by omega, by omega⟩]
  omega
theorem rest_fuel (k : Int32) : k.toInt < ((k.toNatClampNeg + 1 : Nat) : Int) := by
  have h : k.toNatClampNeg = k.toInt.toNat := rfl
  omega
def C_U_rest_99 (md f9 : Int32) (i : Nat) (u2 : Int64) (u4 : Int64) (u9 : Int64) : Int64 × Int32 :=
  if u9 = 0 then
    (C_F_zero i (C_F_isMinus i u2), f9)
  else
    ((C_U_rounded md f9 i (C_F_isMinus i u2) u9 (C_F_power i u4)).1, (C_U_rounded md f9 i (C_F_isMinus i u2) u9 (C_F_power i u4)).2)
def C_U_rest_73 (md f9 : Int32) (i : Nat) (u2 u4 u6 u9 : Int64) (u11 : Int32) : Int64 × Int32 := C_U_rest_99 md f9 i u2 u4 (restLoop (u11.toNatClampNeg + 1) u6 u9 u11)
def C_U_rest (md : Int32) (fl : Int32) (i : Nat) (x2 : Int64) (x3 : Int64) : Int64 × Int32 :=
  if (C_F_isEndless i x2) = false then
    if (C_F_significand i x3) = 0 then
      ((C_U_invalid md fl i).1, (C_U_invalid md fl i).2)
    else
      if (C_F_isEndless i x3) = false then
        if 0 ≤ ((C_F_power i x2) - (C_F_power i x3)) then
          C_U_rest_73 md fl i x2 x3 (C_F_significand i x3) ((C_F_significand i x2) - (C_F_significand i x2) / (C_F_significand i x3) * (C_F_significand i x3)) ((C_F_power i x2) - (C_F_power i x3))
        else
          (x2, fl)
      else
        (x2, fl)
  else
    ((C_U_invalid md fl i).1, (C_U_invalid md fl i).2)
abbrev rmU_rest : Room := { frames := 4, cells := 0, slots := 0, locals := 104 }
theorem cwU_rest {R : Room} {s : State} {args : Array Value} {w0 : Cond} {own : String} {idx : Nat} (hts : ∀ w ∈ (w0 :: bigW), w.before args s = true) (hl : Cond.methodLink own idx yU_rest ∈ bigW) (hR : rmU_rest.frames + 1 ≤ R.frames ∧ 8 + (12 + 11) + rmU_rest.locals ≤ R.locals) : CallW R s args own "FloatUnit" idx yU_rest cU_rest 12 (some .long) (wsM yU_rest cU_rest 12 (some .long)) rmU_rest 0 0 3 :=
  cwV 3 hts (big_V hl w_270 sel_U_rest w_1 w_271) rfl rfl rfl ⟨rfl, by decide, by decide, by decide +kernel⟩ hR
set_option maxRecDepth 100000 in
set_option maxHeartbeats 8000000 in
theorem c_U_rest (l : Launch) (ad : Nat → Nat) (D : va_G) (cA : ClassId) (h0 r0 : Nat) {i : Nat} (hi : i < 2) (md fl : Int32) (rg : Nat → Int64) (x2 : Int64) (x3 : Int64) : FuM l ad D cA h0 r0 yU_rest (wsM yU_rest cU_rest 12 (some .long)) rmU_rest [.ref (ad i), .long x2, .long x3] md fl rg (some (.long ((C_U_rest md fl i x2 x3).1))) md (C_U_rest md fl i x2 x3).2 rg := by
  refine fu_ofL (cc := cU_rest) (maxL := 12) (by decide) rfl (Nat.le_of_ble_eq_true rfl) ?_
  intro p e s m args below meth c Q hx hb hml hown hts hF H locs hS hw hret ls hl
  have hl : lv_has ls 12 [(0, .ref h0), (1, .ref (ad i)), (2, .long x2), (4, .long x3)] := hl
  have J99 : ∀ (f9 : Int32) (u2 : Int64) (u4 : Int64) (u9 : Int64) (ls : Array Slot) (H : Heap) (locs : List Loc), lv_has ls 12 [(0, .ref h0), (1, .ref (ad i)), (2, .long u2), (4, .long u4), (9, .long u9)] → FUw D cA h0 r0 md f9 rg s H → va_S (fA h0 r0) s.heap H locs → C_U_rest_99 md f9 i u2 u4 u9 = C_U_rest md fl i x2 x3 → W p l e rmU_rest s m args below meth c H locs 0 0 Q (F0 m 99 ls []) := by
    intro f9 u2 u4 u9 ls H locs hl hw hS he
    refine lv_aload_n (pc := 99) hx hb dU_rest_99 rfl (lv_at hl 1 rfl) ?_
    refine lv_lload_n (pc := 100) hx hb dU_rest_100 rfl (lv_at hl 2 rfl) ?_
    refine pu_V (pc := 101) (i := i) (rest := []) ⟨hx, hb, hml, hown, hts⟩ hi (c_F_isMinus l ad hi u2) (cwF_isMinus hts w_164 ⟨by decide, by decide⟩) hF hS rfl hl.1 rfl (Nat.le_of_ble_eq_true rfl) dU_rest_101 ⟨Nat.zero_le _, Nat.zero_le _⟩ ?_
    refine lv_istore (lv' := [(11, .int (bI (C_F_isMinus i u2))), (0, .ref h0), (1, .ref (ad i)), (2, .long u2), (4, .long u4), (9, .long u9)]) (pc := 104) hx hb dU_rest_104 hl (by decide) rfl (fun ls hl => ?_)
    refine lv_lload (pc := 106) hx hb dU_rest_106 (lv_at hl 5 rfl) ?_
    refine lv_lconst (v := 0) (pc := 108) hx hb dU_rest_108 (by decide) ?_
    refine W.lcmp (pc := 109) hx hb dU_rest_109 ?_
    refine lv_if_ne (tgt := 122) (pc := 110) hx hb dU_rest_110 (by decide) (fun h101 => ?_) (fun h101 => ?_)
    · skip
      have h101 : ¬ (u9 = 0) := fun q => h101 ((lg_cmp_eq _ _).2 q)
      refine lv_aload_n (pc := 122) hx hb dU_rest_122 rfl (lv_at hl 1 rfl) ?_
      refine lv_aload_n (pc := 123) hx hb dU_rest_123 rfl (lv_at hl 2 rfl) ?_
      refine lv_iload (pc := 124) hx hb dU_rest_124 (lv_at hl 0 rfl) ?_
      refine lv_lload (pc := 126) hx hb dU_rest_126 (lv_at hl 5 rfl) ?_
      refine lv_aload_n (pc := 128) hx hb dU_rest_128 rfl (lv_at hl 2 rfl) ?_
      refine lv_lload (pc := 129) hx hb dU_rest_129 (lv_at hl 4 rfl) ?_
      refine pu_V (pc := 131) (i := i) (rest := [.long u9, .int (bI (C_F_isMinus i u2)), .ref (ad i), .ref h0]) ⟨hx, hb, hml, hown, hts⟩ hi (c_F_power l ad hi u4) (cwF_power hts w_180 ⟨by decide, by decide⟩) hF hS rfl hl.1 rfl (Nat.le_of_ble_eq_true rfl) dU_rest_131 ⟨Nat.zero_le _, Nat.zero_le _⟩ ?_
      refine fu_V (pc := 134) (rest := []) ⟨hx, hb, hml, hown, hts⟩ (c_U_rounded l ad D cA h0 r0 hi md f9 rg (C_F_isMinus i u2) u9 (C_F_power i u4)) (cwU_rounded hts w_221 ⟨by decide, by decide⟩) hF hw hS rfl hl.1 rfl (Nat.le_of_ble_eq_true rfl) dU_rest_134 ⟨Nat.zero_le _, Nat.zero_le _⟩ (fun H locs hw hS => ?_)
      refine W.eq (g2 := F0 m 137 ls [.long ((C_U_rounded md f9 i (C_F_isMinus i u2) u9 (C_F_power i u4)).1)]) rfl ?_
      have he9 := (show ((C_U_rounded md f9 i (C_F_isMinus i u2) u9 (C_F_power i u4)).1, (C_U_rounded md f9 i (C_F_isMinus i u2) u9 (C_F_power i u4)).2) = C_U_rest_99 md f9 i u2 u4 u9 from by rw [C_U_rest_99, if_neg h101]).trans he
      exact hret _ _ _ _ _ _ _ _ (congrArg Prod.fst he9) rfl (congrArg Prod.snd he9) rfl hw hS dU_rest_137
    · skip
      have h101 : u9 = 0 := (lg_cmp_eq _ _).1 h101
      refine lv_aload_n (pc := 113) hx hb dU_rest_113 rfl (lv_at hl 2 rfl) ?_
      refine lv_iload (pc := 114) hx hb dU_rest_114 (lv_at hl 0 rfl) ?_
      refine pu_V (pc := 116) (i := i) (rest := []) ⟨hx, hb, hml, hown, hts⟩ hi (c_F_zero l ad hi (C_F_isMinus i u2)) (cwF_zero hts w_213 ⟨by decide, by decide⟩) hF hS rfl hl.1 rfl (Nat.le_of_ble_eq_true rfl) dU_rest_116 ⟨Nat.zero_le _, Nat.zero_le _⟩ ?_
      refine lv_goto (tgt := 137) (pc := 119) hx hb dU_rest_119 (by decide) ?_
      have he9 := (show (C_F_zero i (C_F_isMinus i u2), f9) = C_U_rest_99 md f9 i u2 u4 u9 from by rw [C_U_rest_99, if_pos h101]).trans he
      exact hret _ _ _ _ _ _ _ _ (congrArg Prod.fst he9) rfl (congrArg Prod.snd he9) rfl hw hS dU_rest_137
  have L73 : ∀ (n : Nat) (f9 : Int32) (u2 u4 u6 u9 : Int64) (u11 : Int32) (hz : ¬ u6 = 0) (ls : Array Slot) (H : Heap) (locs : List Loc), u11.toInt < (n : Int) → lv_has ls 12 [(0, .ref h0), (1, .ref (ad i)), (2, .long u2), (4, .long u4), (6, .long u6), (9, .long u9), (11, .int u11)] → FUw D cA h0 r0 md f9 rg s H → va_S (fA h0 r0) s.heap H locs → C_U_rest_99 md f9 i u2 u4 (restLoop n u6 u9 u11) = C_U_rest md fl i x2 x3 → W p l e rmU_rest s m args below meth c H locs 0 0 Q (F0 m 73 ls []) := by
    intro n
    induction n with
    | zero =>
      intro f9 u2 u4 u6 u9 u11 hz ls H locs hk hl hw hS he
      refine lv_iload (pc := 73) hx hb dU_rest_73 (lv_at hl 6 rfl) ?_
      refine lv_if_le (tgt := 99) (pc := 75) hx hb dU_rest_75 (by decide) (fun h1 => ?_) (fun h1 => ?_)
      · exact J99 f9 u2 u4 u9 ls H locs (lv_sub hl [0, 1, 2, 3, 5] rfl) hw hS he
      · exact absurd (rest_neg hk) h1
    | succ n ih =>
      intro f9 u2 u4 u6 u9 u11 hz ls H locs hk hl hw hS he
      refine lv_iload (pc := 73) hx hb dU_rest_73 (lv_at hl 6 rfl) ?_
      refine lv_if_le (tgt := 99) (pc := 75) hx hb dU_rest_75 (by decide) (fun h201 => ?_) (fun h201 => ?_)
      · skip
        exact J99 f9 u2 u4 u9 ls H locs (lv_sub hl [0, 1, 2, 3, 5] rfl) hw hS ((show C_U_rest_99 md f9 i u2 u4 u9 = C_U_rest_99 md f9 i u2 u4 (restLoop (n + 1) u6 u9 u11) from by rw [restLoop, if_pos h201]).trans he)
      · skip
        refine lv_lload (pc := 78) hx hb dU_rest_78 (lv_at hl 5 rfl) ?_
        refine lv_iload (pc := 80) hx hb dU_rest_80 (lv_at hl 6 rfl) ?_
        refine lv_bipush (v := 10) (pc := 82) hx hb dU_rest_82 (by decide) ?_
        refine va_mmin (pc := 84) hx hb (hml.trans hl.1.symm) hown (hts _ (List.mem_cons_of_mem _ w_272)) (hts _ (List.mem_cons_of_mem _ w_273)) (hts _ (List.mem_cons_of_mem _ w_9)) (hts _ (List.mem_cons_of_mem _ w_274)) (by decide) (Nat.le_of_ble_eq_true rfl) (Nat.zero_le _) (Nat.zero_le _) dU_rest_84 ?_
        refine lv_topi (fun v201 e201 => ?_)
        obtain rfl : v201 = jMin u11 10 := e201
        refine lv_lshl (v := jShl u9 (jMin u11 10)) (pc := 87) hx hb dU_rest_87 rfl ?_
        refine lv_lload (pc := 88) hx hb dU_rest_88 (lv_at hl 4 rfl) ?_
        refine lv_lrem (pc := 90) hx hb dU_rest_90 hz ?_
        refine lv_lstore (lv' := [(9, .long ((jShl u9 (jMin u11 10)) - (jShl u9 (jMin u11 10)) / u6 * u6)), (0, .ref h0), (1, .ref (ad i)), (2, .long u2), (4, .long u4), (6, .long u6), (11, .int u11)]) (pc := 91) hx hb dU_rest_91 hl (by decide) rfl (fun ls hl => ?_)
        refine lv_iinc (k := 6) (v := u11 + (-10)) (lv' := [(11, .int (u11 + (-10))), (9, .long ((jShl u9 (jMin u11 10)) - (jShl u9 (jMin u11 10)) / u6 * u6)), (0, .ref h0), (1, .ref (ad i)), (2, .long u2), (4, .long u4), (6, .long u6)]) (pc := 93) hx hb dU_rest_93 hl rfl (by rfl) (by decide) rfl (fun ls hl => ?_)
        refine lv_goto (tgt := 73) (pc := 96) hx hb dU_rest_96 (by decide) ?_
        exact ih f9 u2 u4 u6 ((jShl u9 (jMin u11 10)) - (jShl u9 (jMin u11 10)) / u6 * u6) (u11 + (-10)) hz ls H locs (rest_dec hk h201) (lv_sub hl [2, 3, 4, 5, 6, 1, 0] rfl) hw hS ((show C_U_rest_99 md f9 i u2 u4 (restLoop n u6 ((jShl u9 (jMin u11 10)) - (jShl u9 (jMin u11 10)) / u6 * u6) (u11 + (-10))) = C_U_rest_99 md f9 i u2 u4 (restLoop (n + 1) u6 u9 u11) from by rw [restLoop, if_neg h201]).trans he)
  have J73 : ∀ (f9 : Int32) (u2 u4 u6 u9 : Int64) (u11 : Int32) (hz : ¬ u6 = 0) (ls : Array Slot) (H : Heap) (locs : List Loc), lv_has ls 12 [(0, .ref h0), (1, .ref (ad i)), (2, .long u2), (4, .long u4), (6, .long u6), (9, .long u9), (11, .int u11)] → FUw D cA h0 r0 md f9 rg s H → va_S (fA h0 r0) s.heap H locs → C_U_rest_73 md f9 i u2 u4 u6 u9 u11 = C_U_rest md fl i x2 x3 → W p l e rmU_rest s m args below meth c H locs 0 0 Q (F0 m 73 ls []) := by
    intro f9 u2 u4 u6 u9 u11 hz ls H locs hl hw hS he
    exact L73 (u11.toNatClampNeg + 1) f9 u2 u4 u6 u9 u11 hz ls H locs (rest_fuel u11) hl hw hS he
  refine lv_aload_n (pc := 0) hx hb dU_rest_0 rfl (lv_at hl 1 rfl) ?_
  refine lv_lload (pc := 1) hx hb dU_rest_1 (lv_at hl 3 rfl) ?_
  refine pu_V (pc := 3) (i := i) (rest := []) ⟨hx, hb, hml, hown, hts⟩ hi (c_F_significand l ad hi x3) (cwF_significand hts w_206 ⟨by decide, by decide⟩) hF hS rfl hl.1 rfl (Nat.le_of_ble_eq_true rfl) dU_rest_3 ⟨Nat.zero_le _, Nat.zero_le _⟩ ?_
  refine lv_lstore (lv' := [(6, .long (C_F_significand i x3)), (0, .ref h0), (1, .ref (ad i)), (2, .long x2), (4, .long x3)]) (pc := 6) hx hb dU_rest_6 hl (by decide) rfl (fun ls hl => ?_)
  refine lv_aload_n (pc := 8) hx hb dU_rest_8 rfl (lv_at hl 2 rfl) ?_
  refine lv_lload_n (pc := 9) hx hb dU_rest_9 rfl (lv_at hl 3 rfl) ?_
  refine pu_V (pc := 10) (i := i) (rest := []) ⟨hx, hb, hml, hown, hts⟩ hi (c_F_isEndless l ad hi x2) (cwF_isEndless hts w_168 ⟨by decide, by decide⟩) hF hS rfl hl.1 rfl (Nat.le_of_ble_eq_true rfl) dU_rest_10 ⟨Nat.zero_le _, Nat.zero_le _⟩ ?_
  refine lv_if_ne (tgt := 23) (pc := 13) hx hb dU_rest_13 (by decide) (fun h1 => ?_) (fun h1 => ?_)
  · skip
    have h1 : ¬ ((C_F_isEndless i x2) = false) := fun q => h1 ((bI_0 _).2 q)
    refine lv_aload_n (pc := 23) hx hb dU_rest_23 rfl (lv_at hl 1 rfl) ?_
    refine lv_aload_n (pc := 24) hx hb dU_rest_24 rfl (lv_at hl 2 rfl) ?_
    refine fu_V (pc := 25) (rest := []) ⟨hx, hb, hml, hown, hts⟩ (c_U_invalid l ad D cA h0 r0 hi md fl rg ) (cwU_invalid hts w_172 ⟨by decide, by decide⟩) hF hw hS rfl hl.1 rfl (Nat.le_of_ble_eq_true rfl) dU_rest_25 ⟨Nat.zero_le _, Nat.zero_le _⟩ (fun H locs hw hS => ?_)
    refine W.eq (g2 := F0 m 28 ls [.long ((C_U_invalid md fl i).1)]) rfl ?_
    have he9 := (show ((C_U_invalid md fl i).1, (C_U_invalid md fl i).2) = C_U_rest md fl i x2 x3 from by rw [C_U_rest, if_neg h1])
    exact hret _ _ _ _ _ _ _ _ (congrArg Prod.fst he9) rfl (congrArg Prod.snd he9) rfl hw hS dU_rest_28
  · skip
    have h1 : (C_F_isEndless i x2) = false := (bI_0 _).1 h1
    refine lv_lload (pc := 16) hx hb dU_rest_16 (lv_at hl 0 rfl) ?_
    refine lv_lconst (v := 0) (pc := 18) hx hb dU_rest_18 (by decide) ?_
    refine W.lcmp (pc := 19) hx hb dU_rest_19 ?_
    refine lv_if_ne (tgt := 29) (pc := 20) hx hb dU_rest_20 (by decide) (fun h2 => ?_) (fun h2 => ?_)
    · skip
      have h2 : ¬ ((C_F_significand i x3) = 0) := fun q => h2 ((lg_cmp_eq _ _).2 q)
      refine lv_aload_n (pc := 29) hx hb dU_rest_29 rfl (lv_at hl 2 rfl) ?_
      refine lv_lload_n (pc := 30) hx hb dU_rest_30 rfl (lv_at hl 3 rfl) ?_
      refine pu_V (pc := 31) (i := i) (rest := []) ⟨hx, hb, hml, hown, hts⟩ hi (c_F_power l ad hi x2) (cwF_power hts w_180 ⟨by decide, by decide⟩) hF hS rfl hl.1 rfl (Nat.le_of_ble_eq_true rfl) dU_rest_31 ⟨Nat.zero_le _, Nat.zero_le _⟩ ?_
      refine lv_aload_n (pc := 34) hx hb dU_rest_34 rfl (lv_at hl 2 rfl) ?_
      refine lv_lload (pc := 35) hx hb dU_rest_35 (lv_at hl 4 rfl) ?_
      refine pu_V (pc := 37) (i := i) (rest := [.int (C_F_power i x2)]) ⟨hx, hb, hml, hown, hts⟩ hi (c_F_power l ad hi x3) (cwF_power hts w_180 ⟨by decide, by decide⟩) hF hS rfl hl.1 rfl (Nat.le_of_ble_eq_true rfl) dU_rest_37 ⟨Nat.zero_le _, Nat.zero_le _⟩ ?_
      refine lv_isub (pc := 40) hx hb dU_rest_40 ?_
      refine lv_istore (lv' := [(8, .int ((C_F_power i x2) - (C_F_power i x3))), (6, .long (C_F_significand i x3)), (0, .ref h0), (1, .ref (ad i)), (2, .long x2), (4, .long x3)]) (pc := 41) hx hb dU_rest_41 hl (by decide) rfl (fun ls hl => ?_)
      refine lv_aload_n (pc := 43) hx hb dU_rest_43 rfl (lv_at hl 3 rfl) ?_
      refine lv_lload (pc := 44) hx hb dU_rest_44 (lv_at hl 5 rfl) ?_
      refine pu_V (pc := 46) (i := i) (rest := []) ⟨hx, hb, hml, hown, hts⟩ hi (c_F_isEndless l ad hi x3) (cwF_isEndless hts w_168 ⟨by decide, by decide⟩) hF hS rfl hl.1 rfl (Nat.le_of_ble_eq_true rfl) dU_rest_46 ⟨Nat.zero_le _, Nat.zero_le _⟩ ?_
      refine lv_if_ne (tgt := 57) (pc := 49) hx hb dU_rest_49 (by decide) (fun h3 => ?_) (fun h3 => ?_)
      · skip
        have h3 : ¬ ((C_F_isEndless i x3) = false) := fun q => h3 ((bI_0 _).2 q)
        refine lv_lload_n (pc := 57) hx hb dU_rest_57 rfl (lv_at hl 4 rfl) ?_
        have he9 := (show (x2, fl) = C_U_rest md fl i x2 x3 from by rw [C_U_rest, if_pos h1, if_neg h2, if_neg h3])
        exact hret _ _ _ _ _ _ _ _ (congrArg Prod.fst he9) rfl (congrArg Prod.snd he9) rfl hw hS dU_rest_58
      · skip
        have h3 : (C_F_isEndless i x3) = false := (bI_0 _).1 h3
        refine lv_iload (pc := 52) hx hb dU_rest_52 (lv_at hl 0 rfl) ?_
        refine lv_if_ge (tgt := 59) (pc := 54) hx hb dU_rest_54 (by decide) (fun h4 => ?_) (fun h4 => ?_)
        · skip
          refine lv_aload_n (pc := 59) hx hb dU_rest_59 rfl (lv_at hl 3 rfl) ?_
          refine lv_lload_n (pc := 60) hx hb dU_rest_60 rfl (lv_at hl 4 rfl) ?_
          refine pu_V (pc := 61) (i := i) (rest := []) ⟨hx, hb, hml, hown, hts⟩ hi (c_F_significand l ad hi x2) (cwF_significand hts w_206 ⟨by decide, by decide⟩) hF hS rfl hl.1 rfl (Nat.le_of_ble_eq_true rfl) dU_rest_61 ⟨Nat.zero_le _, Nat.zero_le _⟩ ?_
          refine lv_lload (pc := 64) hx hb dU_rest_64 (lv_at hl 1 rfl) ?_
          refine lv_lrem (pc := 66) hx hb dU_rest_66 h2 ?_
          refine lv_lstore (lv' := [(9, .long ((C_F_significand i x2) - (C_F_significand i x2) / (C_F_significand i x3) * (C_F_significand i x3))), (8, .int ((C_F_power i x2) - (C_F_power i x3))), (6, .long (C_F_significand i x3)), (0, .ref h0), (1, .ref (ad i)), (2, .long x2), (4, .long x3)]) (pc := 67) hx hb dU_rest_67 hl (by decide) rfl (fun ls hl => ?_)
          refine lv_iload (pc := 69) hx hb dU_rest_69 (lv_at hl 1 rfl) ?_
          refine lv_istore (lv' := [(11, .int ((C_F_power i x2) - (C_F_power i x3))), (9, .long ((C_F_significand i x2) - (C_F_significand i x2) / (C_F_significand i x3) * (C_F_significand i x3))), (8, .int ((C_F_power i x2) - (C_F_power i x3))), (6, .long (C_F_significand i x3)), (0, .ref h0), (1, .ref (ad i)), (2, .long x2), (4, .long x3)]) (pc := 71) hx hb dU_rest_71 hl (by decide) rfl (fun ls hl => ?_)
          exact J73 fl x2 x3 (C_F_significand i x3) ((C_F_significand i x2) - (C_F_significand i x2) / (C_F_significand i x3) * (C_F_significand i x3)) ((C_F_power i x2) - (C_F_power i x3)) h2 ls _ _ (lv_sub hl [4, 5, 6, 7, 3, 1, 0] rfl) hw hS ((show C_U_rest_73 md fl i x2 x3 (C_F_significand i x3) ((C_F_significand i x2) - (C_F_significand i x2) / (C_F_significand i x3) * (C_F_significand i x3)) ((C_F_power i x2) - (C_F_power i x3)) = C_U_rest md fl i x2 x3 from by rw [C_U_rest, if_pos h1, if_neg h2, if_pos h3, if_pos h4]))
        · skip
          refine lv_lload_n (pc := 57) hx hb dU_rest_57 rfl (lv_at hl 4 rfl) ?_
          have he9 := (show (x2, fl) = C_U_rest md fl i x2 x3 from by rw [C_U_rest, if_pos h1, if_neg h2, if_pos h3, if_neg h4])
          exact hret _ _ _ _ _ _ _ _ (congrArg Prod.fst he9) rfl (congrArg Prod.snd he9) rfl hw hS dU_rest_58
    · skip
      have h2 : (C_F_significand i x3) = 0 := (lg_cmp_eq _ _).1 h2
      refine lv_aload_n (pc := 23) hx hb dU_rest_23 rfl (lv_at hl 1 rfl) ?_
      refine lv_aload_n (pc := 24) hx hb dU_rest_24 rfl (lv_at hl 2 rfl) ?_
      refine fu_V (pc := 25) (rest := []) ⟨hx, hb, hml, hown, hts⟩ (c_U_invalid l ad D cA h0 r0 hi md fl rg ) (cwU_invalid hts w_172 ⟨by decide, by decide⟩) hF hw hS rfl hl.1 rfl (Nat.le_of_ble_eq_true rfl) dU_rest_25 ⟨Nat.zero_le _, Nat.zero_le _⟩ (fun H locs hw hS => ?_)
      refine W.eq (g2 := F0 m 28 ls [.long ((C_U_invalid md fl i).1)]) rfl ?_
      have he9 := (show ((C_U_invalid md fl i).1, (C_U_invalid md fl i).2) = C_U_rest md fl i x2 x3 from by rw [C_U_rest, if_pos h1, if_pos h2])
      exact hret _ _ _ _ _ _ _ _ (congrArg Prod.fst he9) rfl (congrArg Prod.snd he9) rfl hw hS dU_rest_28
def C_U_result (md : Int32) (fl : Int32) (k1 : Int32) (i : Nat) (x3 : Int64) (x4 : Int64) : Int64 × Int32 :=
  if (C_F_isNone i x3) = false then
    if (C_F_isNone i x4) = false then
      if k1 = 0 then
        ((C_U_sum md fl i x3 x4).1, (C_U_sum md fl i x3 x4).2)
      else
        if k1 = 1 then
          ((C_U_sum md fl i x3 (C_F_opposite i x4)).1, (C_U_sum md fl i x3 (C_F_opposite i x4)).2)
        else
          if k1 = 2 then
            ((C_U_product md fl i x3 x4).1, (C_U_product md fl i x3 x4).2)
          else
            if k1 = 3 then
              ((C_U_quotient md fl i x3 x4).1, (C_U_quotient md fl i x3 x4).2)
            else
              ((C_U_rest md fl i x3 x4).1, (C_U_rest md fl i x3 x4).2)
    else
      (C_F_none i, fl)
  else
    (C_F_none i, fl)
abbrev rmU_result : Room := { frames := 5, cells := 0, slots := 0, locals := 138 }
theorem cwU_result {R : Room} {s : State} {args : Array Value} {w0 : Cond} {own : String} {idx : Nat} (hts : ∀ w ∈ (w0 :: bigW), w.before args s = true) (hl : Cond.methodLink own idx yU_result ∈ bigW) (hR : rmU_result.frames + 1 ≤ R.frames ∧ 8 + (7 + 11) + rmU_result.locals ≤ R.locals) : CallW R s args own "FloatUnit" idx yU_result cU_result 7 (some .long) (wsM yU_result cU_result 7 (some .long)) rmU_result 0 0 4 :=
  cwV 4 hts (big_V hl w_146 sel_U_result w_1 w_147) rfl rfl rfl ⟨rfl, by decide, by decide, by decide +kernel⟩ hR
set_option maxRecDepth 100000 in
set_option maxHeartbeats 8000000 in
theorem c_U_result (l : Launch) (ad : Nat → Nat) (D : va_G) (cA : ClassId) (h0 r0 : Nat) {i : Nat} (hi : i < 2) (md fl : Int32) (rg : Nat → Int64) (k1 : Int32) (x3 : Int64) (x4 : Int64) : FuM l ad D cA h0 r0 yU_result (wsM yU_result cU_result 7 (some .long)) rmU_result [.int k1, .ref (ad i), .long x3, .long x4] md fl rg (some (.long ((C_U_result md fl k1 i x3 x4).1))) md (C_U_result md fl k1 i x3 x4).2 rg := by
  refine fu_ofL (cc := cU_result) (maxL := 7) (by decide) rfl (Nat.le_of_ble_eq_true rfl) ?_
  intro p e s m args below meth c Q hx hb hml hown hts hF H locs hS hw hret ls hl
  have hl : lv_has ls 7 [(0, .ref h0), (1, .int k1), (2, .ref (ad i)), (3, .long x3), (5, .long x4)] := hl
  refine lv_aload_n (pc := 0) hx hb dU_result_0 rfl (lv_at hl 2 rfl) ?_
  refine lv_lload_n (pc := 1) hx hb dU_result_1 rfl (lv_at hl 3 rfl) ?_
  refine pu_V (pc := 2) (i := i) (rest := []) ⟨hx, hb, hml, hown, hts⟩ hi (c_F_isNone l ad hi x3) (cwF_isNone hts w_148 ⟨by decide, by decide⟩) hF hS rfl hl.1 rfl (Nat.le_of_ble_eq_true rfl) dU_result_2 ⟨Nat.zero_le _, Nat.zero_le _⟩ ?_
  refine lv_if_ne (tgt := 17) (pc := 5) hx hb dU_result_5 (by decide) (fun h1 => ?_) (fun h1 => ?_)
  · skip
    have h1 : ¬ ((C_F_isNone i x3) = false) := fun q => h1 ((bI_0 _).2 q)
    refine lv_aload_n (pc := 17) hx hb dU_result_17 rfl (lv_at hl 2 rfl) ?_
    refine pu_V (pc := 18) (i := i) (rest := []) ⟨hx, hb, hml, hown, hts⟩ hi (c_F_none l ad hi) (cwF_none hts w_156 ⟨by decide, by decide⟩) hF hS rfl hl.1 rfl (Nat.le_of_ble_eq_true rfl) dU_result_18 ⟨Nat.zero_le _, Nat.zero_le _⟩ ?_
    have he9 := (show (C_F_none i, fl) = C_U_result md fl k1 i x3 x4 from by rw [C_U_result, if_neg h1])
    exact hret _ _ _ _ _ _ _ _ (congrArg Prod.fst he9) rfl (congrArg Prod.snd he9) rfl hw hS dU_result_21
  · skip
    have h1 : (C_F_isNone i x3) = false := (bI_0 _).1 h1
    refine lv_aload_n (pc := 8) hx hb dU_result_8 rfl (lv_at hl 2 rfl) ?_
    refine lv_lload (pc := 9) hx hb dU_result_9 (lv_at hl 4 rfl) ?_
    refine pu_V (pc := 11) (i := i) (rest := []) ⟨hx, hb, hml, hown, hts⟩ hi (c_F_isNone l ad hi x4) (cwF_isNone hts w_148 ⟨by decide, by decide⟩) hF hS rfl hl.1 rfl (Nat.le_of_ble_eq_true rfl) dU_result_11 ⟨Nat.zero_le _, Nat.zero_le _⟩ ?_
    refine lv_if_eq (tgt := 22) (pc := 14) hx hb dU_result_14 (by decide) (fun h2 => ?_) (fun h2 => ?_)
    · skip
      have h2 : (C_F_isNone i x4) = false := (bI_0 _).1 h2
      refine lv_iload_n (pc := 22) hx hb dU_result_22 rfl (lv_at hl 1 rfl) ?_
      by_cases h3 : k1 = 0
      · refine lv_tableIn (off := 29) (tgt := 52) (pc := 23) hx hb dU_result_23 (by rw [h3]; decide) (by rw [h3]; decide) (by rw [h3]; decide) (by decide) ?_
        refine lv_aload_n (pc := 52) hx hb dU_result_52 rfl (lv_at hl 0 rfl) ?_
        refine lv_aload_n (pc := 53) hx hb dU_result_53 rfl (lv_at hl 2 rfl) ?_
        refine lv_lload_n (pc := 54) hx hb dU_result_54 rfl (lv_at hl 3 rfl) ?_
        refine lv_lload (pc := 55) hx hb dU_result_55 (lv_at hl 4 rfl) ?_
        refine fu_V (pc := 57) (rest := []) ⟨hx, hb, hml, hown, hts⟩ (c_U_sum l ad D cA h0 r0 hi md fl rg x3 x4) (cwU_sum hts w_160 ⟨by decide, by decide⟩) hF hw hS rfl hl.1 rfl (Nat.le_of_ble_eq_true rfl) dU_result_57 ⟨Nat.zero_le _, Nat.zero_le _⟩ (fun H locs hw hS => ?_)
        refine W.eq (g2 := F0 m 60 ls [.long ((C_U_sum md fl i x3 x4).1)]) rfl ?_
        have he9 := (show ((C_U_sum md fl i x3 x4).1, (C_U_sum md fl i x3 x4).2) = C_U_result md fl k1 i x3 x4 from by rw [C_U_result, if_pos h1, if_pos h2, if_pos h3])
        exact hret _ _ _ _ _ _ _ _ (congrArg Prod.fst he9) rfl (congrArg Prod.snd he9) rfl hw hS dU_result_60
      · skip
        by_cases h4 : k1 = 1
        · refine lv_tableIn (off := 38) (tgt := 61) (pc := 23) hx hb dU_result_23 (by rw [h4]; decide) (by rw [h4]; decide) (by rw [h4]; decide) (by decide) ?_
          refine lv_aload_n (pc := 61) hx hb dU_result_61 rfl (lv_at hl 0 rfl) ?_
          refine lv_aload_n (pc := 62) hx hb dU_result_62 rfl (lv_at hl 2 rfl) ?_
          refine lv_lload_n (pc := 63) hx hb dU_result_63 rfl (lv_at hl 3 rfl) ?_
          refine lv_aload_n (pc := 64) hx hb dU_result_64 rfl (lv_at hl 2 rfl) ?_
          refine lv_lload (pc := 65) hx hb dU_result_65 (lv_at hl 4 rfl) ?_
          refine pu_V (pc := 67) (i := i) (rest := [.long x3, .ref (ad i), .ref h0]) ⟨hx, hb, hml, hown, hts⟩ hi (c_F_opposite l ad hi x4) (cwF_opposite hts w_244 ⟨by decide, by decide⟩) hF hS rfl hl.1 rfl (Nat.le_of_ble_eq_true rfl) dU_result_67 ⟨Nat.zero_le _, Nat.zero_le _⟩ ?_
          refine fu_V (pc := 70) (rest := []) ⟨hx, hb, hml, hown, hts⟩ (c_U_sum l ad D cA h0 r0 hi md fl rg x3 (C_F_opposite i x4)) (cwU_sum hts w_160 ⟨by decide, by decide⟩) hF hw hS rfl hl.1 rfl (Nat.le_of_ble_eq_true rfl) dU_result_70 ⟨Nat.zero_le _, Nat.zero_le _⟩ (fun H locs hw hS => ?_)
          refine W.eq (g2 := F0 m 73 ls [.long ((C_U_sum md fl i x3 (C_F_opposite i x4)).1)]) rfl ?_
          have he9 := (show ((C_U_sum md fl i x3 (C_F_opposite i x4)).1, (C_U_sum md fl i x3 (C_F_opposite i x4)).2) = C_U_result md fl k1 i x3 x4 from by rw [C_U_result, if_pos h1, if_pos h2, if_neg h3, if_pos h4])
          exact hret _ _ _ _ _ _ _ _ (congrArg Prod.fst he9) rfl (congrArg Prod.snd he9) rfl hw hS dU_result_73
        · skip
          by_cases h5 : k1 = 2
          · refine lv_tableIn (off := 51) (tgt := 74) (pc := 23) hx hb dU_result_23 (by rw [h5]; decide) (by rw [h5]; decide) (by rw [h5]; decide) (by decide) ?_
            refine lv_aload_n (pc := 74) hx hb dU_result_74 rfl (lv_at hl 0 rfl) ?_
            refine lv_aload_n (pc := 75) hx hb dU_result_75 rfl (lv_at hl 2 rfl) ?_
            refine lv_lload_n (pc := 76) hx hb dU_result_76 rfl (lv_at hl 3 rfl) ?_
            refine lv_lload (pc := 77) hx hb dU_result_77 (lv_at hl 4 rfl) ?_
            refine fu_V (pc := 79) (rest := []) ⟨hx, hb, hml, hown, hts⟩ (c_U_product l ad D cA h0 r0 hi md fl rg x3 x4) (cwU_product hts w_248 ⟨by decide, by decide⟩) hF hw hS rfl hl.1 rfl (Nat.le_of_ble_eq_true rfl) dU_result_79 ⟨Nat.zero_le _, Nat.zero_le _⟩ (fun H locs hw hS => ?_)
            refine W.eq (g2 := F0 m 82 ls [.long ((C_U_product md fl i x3 x4).1)]) rfl ?_
            have he9 := (show ((C_U_product md fl i x3 x4).1, (C_U_product md fl i x3 x4).2) = C_U_result md fl k1 i x3 x4 from by rw [C_U_result, if_pos h1, if_pos h2, if_neg h3, if_neg h4, if_pos h5])
            exact hret _ _ _ _ _ _ _ _ (congrArg Prod.fst he9) rfl (congrArg Prod.snd he9) rfl hw hS dU_result_82
          · skip
            by_cases h6 : k1 = 3
            · refine lv_tableIn (off := 60) (tgt := 83) (pc := 23) hx hb dU_result_23 (by rw [h6]; decide) (by rw [h6]; decide) (by rw [h6]; decide) (by decide) ?_
              refine lv_aload_n (pc := 83) hx hb dU_result_83 rfl (lv_at hl 0 rfl) ?_
              refine lv_aload_n (pc := 84) hx hb dU_result_84 rfl (lv_at hl 2 rfl) ?_
              refine lv_lload_n (pc := 85) hx hb dU_result_85 rfl (lv_at hl 3 rfl) ?_
              refine lv_lload (pc := 86) hx hb dU_result_86 (lv_at hl 4 rfl) ?_
              refine fu_V (pc := 88) (rest := []) ⟨hx, hb, hml, hown, hts⟩ (c_U_quotient l ad D cA h0 r0 hi md fl rg x3 x4) (cwU_quotient hts w_260 ⟨by decide, by decide⟩) hF hw hS rfl hl.1 rfl (Nat.le_of_ble_eq_true rfl) dU_result_88 ⟨Nat.zero_le _, Nat.zero_le _⟩ (fun H locs hw hS => ?_)
              refine W.eq (g2 := F0 m 91 ls [.long ((C_U_quotient md fl i x3 x4).1)]) rfl ?_
              have he9 := (show ((C_U_quotient md fl i x3 x4).1, (C_U_quotient md fl i x3 x4).2) = C_U_result md fl k1 i x3 x4 from by rw [C_U_result, if_pos h1, if_pos h2, if_neg h3, if_neg h4, if_neg h5, if_pos h6])
              exact hret _ _ _ _ _ _ _ _ (congrArg Prod.fst he9) rfl (congrArg Prod.snd he9) rfl hw hS dU_result_91
            · skip
              refine lv_tableOut (tgt := 92) (pc := 23) hx hb dU_result_23 (sw4 h3 h4 h5 h6) (by decide) ?_
              refine lv_aload_n (pc := 92) hx hb dU_result_92 rfl (lv_at hl 0 rfl) ?_
              refine lv_aload_n (pc := 93) hx hb dU_result_93 rfl (lv_at hl 2 rfl) ?_
              refine lv_lload_n (pc := 94) hx hb dU_result_94 rfl (lv_at hl 3 rfl) ?_
              refine lv_lload (pc := 95) hx hb dU_result_95 (lv_at hl 4 rfl) ?_
              refine fu_V (pc := 97) (rest := []) ⟨hx, hb, hml, hown, hts⟩ (c_U_rest l ad D cA h0 r0 hi md fl rg x3 x4) (cwU_rest hts w_268 ⟨by decide, by decide⟩) hF hw hS rfl hl.1 rfl (Nat.le_of_ble_eq_true rfl) dU_result_97 ⟨Nat.zero_le _, Nat.zero_le _⟩ (fun H locs hw hS => ?_)
              refine W.eq (g2 := F0 m 100 ls [.long ((C_U_rest md fl i x3 x4).1)]) rfl ?_
              have he9 := (show ((C_U_rest md fl i x3 x4).1, (C_U_rest md fl i x3 x4).2) = C_U_result md fl k1 i x3 x4 from by rw [C_U_result, if_pos h1, if_pos h2, if_neg h3, if_neg h4, if_neg h5, if_neg h6])
              exact hret _ _ _ _ _ _ _ _ (congrArg Prod.fst he9) rfl (congrArg Prod.snd he9) rfl hw hS dU_result_100
    · skip
      have h2 : ¬ ((C_F_isNone i x4) = false) := fun q => h2 ((bI_0 _).2 q)
      refine lv_aload_n (pc := 17) hx hb dU_result_17 rfl (lv_at hl 2 rfl) ?_
      refine pu_V (pc := 18) (i := i) (rest := []) ⟨hx, hb, hml, hown, hts⟩ hi (c_F_none l ad hi) (cwF_none hts w_156 ⟨by decide, by decide⟩) hF hS rfl hl.1 rfl (Nat.le_of_ble_eq_true rfl) dU_result_18 ⟨Nat.zero_le _, Nat.zero_le _⟩ ?_
      have he9 := (show (C_F_none i, fl) = C_U_result md fl k1 i x3 x4 from by rw [C_U_result, if_pos h1, if_neg h2])
      exact hret _ _ _ _ _ _ _ _ (congrArg Prod.fst he9) rfl (congrArg Prod.snd he9) rfl hw hS dU_result_21
end
section
/-! The unit's public methods where they return (by program, but the first ones). -/
theorem fmt_lt (z : Bool) : C_U_format z < 2 := by
  unfold C_U_format
  split <;> decide
def PuV (l : Launch) (ad : Nat → Nat) (y : MethodName) (ws : List Cond) (rm : Room) (av : List Value) : Prop :=
  ∀ Hc : Heap, Met l y ws rm (va_Pc av (fun U => U.heap = Hc ∧ FM ad nA U Hc)) (fun _ _ oc t => oc = .returned none ∧ t.heap = Hc) 0 0 nA
section PUV
variable {p : Program} {l : Launch} {e : Env} {R : Room} {s : State} {m : MethodId} {args : Array Value} {below : List Frame} {meth : Method} {c : Code} {H : Heap} {locs : List Loc} {cells slots : Nat} {Q : State → Prop}
variable {Ts ws ws' : List Cond} {cc bytes : ByteArray} {nL maxL index n i : Nat} {own C host ref : String} {y : MethodName} {ret : Option FieldType} {rm : Room} {As av rest st : List Value} {pc : Nat} {ls : Array Slot} {A : Nat → Prop} {ad : Nat → Nat}
theorem pu_gov (hr : va_Run p l e R s m args below meth c H locs cells slots 0 0 (F0 m pc ls st) rest (fun _ oc t => oc = .returned none ∧ t.heap = H) nA)
    (kk : W p l e R s m args below meth c H locs cells slots Q (F0 m (pc + 3) ls rest)) : W p l e R s m args below meth c H locs cells slots Q (F0 m pc ls st) := by
  intro T hT X
  obtain ⟨v', st₀, t, T', L, h0, X', hL, e1, e2, ⟨hv, hh⟩, st⟩ := hr T hT X
  cases hv
  have hL0 : L = [] := by
    cases L with
    | nil => rfl
    | cons a L => exact (hL a List.mem_cons_self).elim
  subst hL0
  rw [List.append_nil] at X'
  obtain ⟨t2, a1, b1⟩ := kk T' (by rw [e1, hh]) X'
  exact ⟨t2, st t2 a1, b1⟩
theorem pu_Sv (S : CallFix p m c cc nL s args Ts own) (hM : PuV l ad y ws rm As) (cw : CallB R s args own index y bytes maxL ret ws rm 0 0 n ∧ (Cond.static y).before args s = true) (hF : FM ad A s s.heap) (hS : va_S A s.heap H locs)
    (hn : As.length = n) (hsize : ls.size = nL) (hstack : st = As.reverse ++ rest) (hW : (rest.map fun v => v.category).sum ≤ 8) (hdg : decode cc pc = .ok (.invokestatic index, 3)) (hf : cells ≤ R.cells ∧ slots ≤ R.slots)
    (kk : W p l e R s m args below meth c H locs cells slots Q (F0 m (pc + 3) ls rest)) : W p l e R s m args below meth c H locs cells slots Q (F0 m pc ls st) :=
  pu_gov (va_runS (g := F0 m pc ls st) (mc := 0) (ms := 0) S (hM H) cw
    ⟨fun a U g mk q => ⟨q.1, q.2.1, fm_same (u := U) (U := U.calling g mk a) rfl q.2.2⟩, fun U hU hWm => ⟨rfl, hU, fm_warm hWm (fm_narrow (fm_kept hF hS.2.1) (fun _ h => h.elim))⟩⟩ rfl hn hsize hstack (lv_room hW) hdg hf) kk
end PUV
theorem in16 {k : Int32} (h : vp_in k 16) : ¬ k < 0 ∧ k < 16 := by
  have h1 := vp_in_iff.1 h
  obtain ⟨z, hz, rfl⟩ := iI_of k
  rw [iI_toInt hz] at h1
  have e0 : (0 : Int32) = iI 0 := rfl
  have e16 : (16 : Int32) = iI 16 := rfl
  rw [e0, e16, iI_lt hz ⟨by decide, by decide⟩, iI_lt hz ⟨by decide, by decide⟩]
  omega
theorem out16 {k : Int32} (h : ¬ vp_in k 16) : k < 0 ∨ 16 ≤ k := by
  have h1 : ¬ (0 ≤ k.toInt ∧ k.toInt < (16 : Nat)) := fun q => h (vp_in_iff.2 q)
  obtain ⟨z, hz, rfl⟩ := iI_of k
  rw [iI_toInt hz] at h1
  have e0 : (0 : Int32) = iI 0 := rfl
  have e16 : (16 : Int32) = iI 16 := rfl
  rw [e0, e16, iI_lt hz ⟨by decide, by decide⟩, iI_le ⟨by decide, by decide⟩ hz]
  omega
abbrev rmU_requireRegister : Room := { frames := 0, cells := 0, slots := 0, locals := 0 }
theorem cwU_requireRegister {R : Room} {s : State} {args : Array Value} {w0 : Cond} {idx : Nat} (hts : ∀ w ∈ (w0 :: bigW), w.before args s = true) (hl : Cond.methodLink "FloatUnit" idx yU_requireRegister ∈ bigW) (hR : rmU_requireRegister.frames + 1 ≤ R.frames ∧ 8 + (1 + 11) + rmU_requireRegister.locals ≤ R.locals) : CallB R s args "FloatUnit" idx yU_requireRegister cU_requireRegister 1 none (wsM yU_requireRegister cU_requireRegister 1 none) rmU_requireRegister 0 0 1 ∧ (Cond.static yU_requireRegister).before args s = true :=
  cwS 1 hts (big_S hl w_42 w_1 w_43) rfl rfl rfl ⟨rfl, by decide, by decide, by decide +kernel⟩ hR
set_option maxRecDepth 100000 in
theorem c_U_requireRegister (l : Launch) (ad : Nat → Nat) {k : Int32} (hk : vp_in k 16) : PuV l ad yU_requireRegister (wsM yU_requireRegister cU_requireRegister 1 none) rmU_requireRegister [.int k] := by
  intro Hc
  refine Met.ofW (cc := cU_requireRegister) (maxL := 1) (ret := none) (by decide) rfl ?_
  intro p e s m args below meth c s₁ B hml hv
  obtain ⟨rfl, hh, hF⟩ := hv
  subst hh
  have hx := B.exec
  have hb := B.bytes
  have hl := lv_entry ([.int k]) (n := 1) (Nat.le_of_ble_eq_true rfl)
  rw [lg_entry_eq]
  generalize (lg_sl ([.int k]) ++ List.replicate (1 - (lg_sl ([.int k])).length) Slot.unset).toArray = ls at hl ⊢
  have hl : lv_has ls 1 [(0, .int k)] := hl
  refine lv_iload_n (pc := 0) hx hb dU_requireRegister_0 rfl (lv_at hl 0 rfl) ?_
  refine lv_if_lt (tgt := 10) (pc := 1) hx hb dU_requireRegister_1 (by decide) (fun h => absurd h (in16 hk).1) (fun _ => ?_)
  refine lv_iload_n (pc := 4) hx hb dU_requireRegister_4 rfl (lv_at hl 0 rfl) ?_
  refine lv_bipush (v := 16) (pc := 5) hx hb dU_requireRegister_5 (by decide) ?_
  refine lv_icmp_lt (tgt := 20) (pc := 7) hx hb dU_requireRegister_7 (by decide) (fun _ => ?_) (fun h => absurd (in16 hk).2 h)
  exact W.vret hx hb B.returns (fun t ht hW => ⟨rfl, ht⟩) (fun q hq => nomatch hq) dU_requireRegister_20 B.notSynchronized
abbrev rmU_keep : Room := { frames := 0, cells := 0, slots := 0, locals := 0 }
theorem cwU_keep {R : Room} {s : State} {args : Array Value} {w0 : Cond} {own : String} {idx : Nat} (hts : ∀ w ∈ (w0 :: bigW), w.before args s = true) (hl : Cond.methodLink own idx yU_keep ∈ bigW) (hR : rmU_keep.frames + 1 ≤ R.frames ∧ 8 + (4 + 11) + rmU_keep.locals ≤ R.locals) : CallW R s args own "FloatUnit" idx yU_keep cU_keep 4 (some .long) (wsM yU_keep cU_keep 4 (some .long)) rmU_keep 0 0 2 :=
  cwV 2 hts (big_V hl w_277 sel_U_keep w_1 w_278) rfl rfl rfl ⟨rfl, by decide, by decide, by decide +kernel⟩ hR
set_option maxRecDepth 100000 in
theorem c_U_keep (l : Launch) (ad : Nat → Nat) (D : va_G) (cA : ClassId) (h0 r0 : Nat) (md fl : Int32) (rg : Nat → Int64) (k : Int32) (x : Int64) (hk : vp_in k 16) : FuM l ad D cA h0 r0 yU_keep (wsM yU_keep cU_keep 4 (some .long)) rmU_keep [.int k, .long x] md fl rg (some (.long x)) md fl (vp_updL rg k.toNatClampNeg x) := by
  refine fu_ofL (cc := cU_keep) (maxL := 4) (by decide) rfl (Nat.le_of_ble_eq_true rfl) ?_
  intro p e s m args below meth c Q hx hb hml hown hts hF H locs hS hw hret ls hl
  have hl : lv_has ls 4 [(0, .ref h0), (1, .int k), (2, .long x)] := hl
  refine lv_aload_n (pc := 0) hx hb dU_keep_0 rfl (lv_at hl 0 rfl) ?_
  refine fu_rg (pc := 1) hx hb hts hown hw w_18 dU_keep_1 ?_
  refine lv_iload_n (pc := 4) hx hb dU_keep_4 rfl (lv_at hl 1 rfl) ?_
  refine lv_lload_n (pc := 5) hx hb dU_keep_5 rfl (lv_at hl 2 rfl) ?_
  refine fu_st (pc := 6) hx hb hw hS hk dU_keep_6 (fun H locs hw hS => ?_)
  refine lv_lload_n (pc := 7) hx hb dU_keep_7 rfl (lv_at hl 2 rfl) ?_
  exact hret _ _ _ _ _ _ _ _ rfl rfl rfl rfl hw hS dU_keep_8
def C_U_put (md : Int32) (fl : Int32) (rg : Nat → Int64) (k1 : Int32) (x2 : Int64) : Int64 :=
  rg k1.toNatClampNeg
abbrev rmU_put : Room := { frames := 1, cells := 0, slots := 0, locals := 20 }
theorem cwU_put {R : Room} {s : State} {args : Array Value} {w0 : Cond} {own : String} {idx : Nat} (hts : ∀ w ∈ (w0 :: bigW), w.before args s = true) (hl : Cond.methodLink own idx yU_put ∈ bigW) (hR : rmU_put.frames + 1 ≤ R.frames ∧ 8 + (6 + 11) + rmU_put.locals ≤ R.locals) : CallW R s args own "FloatUnit" idx yU_put cU_put 6 (some .long) (wsM yU_put cU_put 6 (some .long)) rmU_put 0 0 2 :=
  cwV 2 hts (big_V hl w_38 w_39 w_1 w_40) rfl rfl rfl ⟨rfl, by decide, by decide, by decide +kernel⟩ hR
set_option maxRecDepth 100000 in
set_option maxHeartbeats 8000000 in
theorem c_U_put (l : Launch) (ad : Nat → Nat) (D : va_G) (cA : ClassId) (h0 r0 : Nat) (md fl : Int32) (rg : Nat → Int64) (k1 : Int32) (x2 : Int64) (h_k1 : vp_in k1 16) : FuM l ad D cA h0 r0 yU_put (wsM yU_put cU_put 6 (some .long)) rmU_put [.int k1, .long x2] md fl rg (some (.long (C_U_put md fl rg k1 x2))) md fl (vp_updL rg k1.toNatClampNeg x2) := by
  refine fu_ofL (cc := cU_put) (maxL := 6) (by decide) rfl (Nat.le_of_ble_eq_true rfl) ?_
  intro p e s m args below meth c Q hx hb hml hown hts hF H locs hS hw hret ls hl
  have hl : lv_has ls 6 [(0, .ref h0), (1, .int k1), (2, .long x2)] := hl
  refine lv_iload_n (pc := 0) hx hb dU_put_0 rfl (lv_at hl 1 rfl) ?_
  refine pu_Sv (pc := 1) (rest := []) ⟨hx, hb, hml, hown, hts⟩ (c_U_requireRegister l ad h_k1) (cwU_requireRegister hts w_41 ⟨by decide, by decide⟩) hF hS rfl hl.1 rfl (Nat.le_of_ble_eq_true rfl) dU_put_1 ⟨Nat.zero_le _, Nat.zero_le _⟩ ?_
  refine lv_aload_n (pc := 4) hx hb dU_put_4 rfl (lv_at hl 0 rfl) ?_
  refine fu_rg (pc := 5) hx hb hts hown hw w_18 dU_put_5 ?_
  refine lv_iload_n (pc := 8) hx hb dU_put_8 rfl (lv_at hl 1 rfl) ?_
  refine fu_ld (pc := 9) hx hb hw h_k1 dU_put_9 ?_
  refine lv_lstore (lv' := [(4, .long (rg k1.toNatClampNeg)), (0, .ref h0), (1, .int k1), (2, .long x2)]) (pc := 10) hx hb dU_put_10 hl (by decide) rfl (fun ls hl => ?_)
  refine lv_aload_n (pc := 12) hx hb dU_put_12 rfl (lv_at hl 1 rfl) ?_
  refine fu_rg (pc := 13) hx hb hts hown hw w_18 dU_put_13 ?_
  refine lv_iload_n (pc := 16) hx hb dU_put_16 rfl (lv_at hl 2 rfl) ?_
  refine lv_lload_n (pc := 17) hx hb dU_put_17 rfl (lv_at hl 3 rfl) ?_
  refine fu_st (pc := 18) hx hb hw hS h_k1 dU_put_18 (fun H locs hw hS => ?_)
  refine lv_lload (pc := 19) hx hb dU_put_19 (lv_at hl 0 rfl) ?_
  exact hret _ _ _ _ _ _ _ _ (show rg k1.toNatClampNeg = C_U_put md fl rg k1 x2 from by rw [C_U_put]) rfl rfl rfl hw hS dU_put_21
def C_U_bits (md : Int32) (fl : Int32) (rg : Nat → Int64) (k1 : Int32) : Int64 :=
  rg k1.toNatClampNeg
abbrev rmU_bits : Room := { frames := 1, cells := 0, slots := 0, locals := 20 }
theorem cwU_bits {R : Room} {s : State} {args : Array Value} {w0 : Cond} {own : String} {idx : Nat} (hts : ∀ w ∈ (w0 :: bigW), w.before args s = true) (hl : Cond.methodLink own idx yU_bits ∈ bigW) (hR : rmU_bits.frames + 1 ≤ R.frames ∧ 8 + (2 + 11) + rmU_bits.locals ≤ R.locals) : CallW R s args own "FloatUnit" idx yU_bits cU_bits 2 (some .long) (wsM yU_bits cU_bits 2 (some .long)) rmU_bits 0 0 1 :=
  cwV 1 hts (big_V hl w_114 w_115 w_1 w_116) rfl rfl rfl ⟨rfl, by decide, by decide, by decide +kernel⟩ hR
set_option maxRecDepth 100000 in
set_option maxHeartbeats 8000000 in
theorem c_U_bits (l : Launch) (ad : Nat → Nat) (D : va_G) (cA : ClassId) (h0 r0 : Nat) (md fl : Int32) (rg : Nat → Int64) (k1 : Int32) (h_k1 : vp_in k1 16) : FuM l ad D cA h0 r0 yU_bits (wsM yU_bits cU_bits 2 (some .long)) rmU_bits [.int k1] md fl rg (some (.long (C_U_bits md fl rg k1))) md fl rg := by
  refine fu_ofL (cc := cU_bits) (maxL := 2) (by decide) rfl (Nat.le_of_ble_eq_true rfl) ?_
  intro p e s m args below meth c Q hx hb hml hown hts hF H locs hS hw hret ls hl
  have hl : lv_has ls 2 [(0, .ref h0), (1, .int k1)] := hl
  refine lv_iload_n (pc := 0) hx hb dU_bits_0 rfl (lv_at hl 1 rfl) ?_
  refine pu_Sv (pc := 1) (rest := []) ⟨hx, hb, hml, hown, hts⟩ (c_U_requireRegister l ad h_k1) (cwU_requireRegister hts w_41 ⟨by decide, by decide⟩) hF hS rfl hl.1 rfl (Nat.le_of_ble_eq_true rfl) dU_bits_1 ⟨Nat.zero_le _, Nat.zero_le _⟩ ?_
  refine lv_aload_n (pc := 4) hx hb dU_bits_4 rfl (lv_at hl 0 rfl) ?_
  refine fu_rg (pc := 5) hx hb hts hown hw w_18 dU_bits_5 ?_
  refine lv_iload_n (pc := 8) hx hb dU_bits_8 rfl (lv_at hl 1 rfl) ?_
  refine fu_ld (pc := 9) hx hb hw h_k1 dU_bits_9 ?_
  exact hret _ _ _ _ _ _ _ _ (show rg k1.toNatClampNeg = C_U_bits md fl rg k1 from by rw [C_U_bits]) rfl rfl rfl hw hS dU_bits_10
def C_U_mode (md : Int32) (fl : Int32) (rg : Nat → Int64) (k1 : Int32) : Int32 :=
  md
abbrev rmU_mode : Room := { frames := 0, cells := 0, slots := 0, locals := 0 }
theorem cwU_mode {R : Room} {s : State} {args : Array Value} {w0 : Cond} {own : String} {idx : Nat} (hts : ∀ w ∈ (w0 :: bigW), w.before args s = true) (hl : Cond.methodLink own idx yU_mode ∈ bigW) (hR : rmU_mode.frames + 1 ≤ R.frames ∧ 8 + (3 + 11) + rmU_mode.locals ≤ R.locals) : CallW R s args own "FloatUnit" idx yU_mode cU_mode 3 (some .int) (wsM yU_mode cU_mode 3 (some .int)) rmU_mode 0 0 1 :=
  cwV 1 hts (big_V hl w_121 w_122 w_1 w_123) rfl rfl rfl ⟨rfl, by decide, by decide, by decide +kernel⟩ hR
set_option maxRecDepth 100000 in
set_option maxHeartbeats 8000000 in
theorem c_U_mode (l : Launch) (ad : Nat → Nat) (D : va_G) (cA : ClassId) (h0 r0 : Nat) (md fl : Int32) (rg : Nat → Int64) (k1 : Int32) (g0 : ¬ k1 < 0) (g1 : k1 ≤ 3) : FuM l ad D cA h0 r0 yU_mode (wsM yU_mode cU_mode 3 (some .int)) rmU_mode [.int k1] md fl rg (some (.int (C_U_mode md fl rg k1))) k1 fl rg := by
  refine fu_ofI (cc := cU_mode) (maxL := 3) (by decide) rfl (Nat.le_of_ble_eq_true rfl) ?_
  intro p e s m args below meth c Q hx hb hml hown hts hF H locs hS hw hret ls hl
  have hl : lv_has ls 3 [(0, .ref h0), (1, .int k1)] := hl
  refine lv_iload_n (pc := 0) hx hb dU_mode_0 rfl (lv_at hl 1 rfl) ?_
  refine lv_if_lt (tgt := 9) (pc := 1) hx hb dU_mode_1 (by decide) (fun h1 => ?_) (fun h1 => ?_)
  · exact absurd h1 g0
  · skip
    refine lv_iload_n (pc := 4) hx hb dU_mode_4 rfl (lv_at hl 1 rfl) ?_
    refine lv_iconst (v := 3) (pc := 5) hx hb dU_mode_5 (by decide) ?_
    refine lv_icmp_le (tgt := 19) (pc := 6) hx hb dU_mode_6 (by decide) (fun h2 => ?_) (fun h2 => ?_)
    · skip
      refine lv_aload_n (pc := 19) hx hb dU_mode_19 rfl (lv_at hl 0 rfl) ?_
      refine fu_md (pc := 20) hx hb hts hown hw w_19 dU_mode_20 ?_
      refine lv_istore_n (lv' := [(2, .int md), (0, .ref h0), (1, .int k1)]) (pc := 23) hx hb dU_mode_23 rfl hl (by decide) rfl (fun ls hl => ?_)
      refine lv_aload_n (pc := 24) hx hb dU_mode_24 rfl (lv_at hl 1 rfl) ?_
      refine lv_iload_n (pc := 25) hx hb dU_mode_25 rfl (lv_at hl 2 rfl) ?_
      refine fu_pmd (pc := 26) hx hb hts hown hw hS w_19 dU_mode_26 (fun H locs hw hS => ?_)
      refine lv_iload_n (pc := 29) hx hb dU_mode_29 rfl (lv_at hl 0 rfl) ?_
      exact hret _ _ _ _ _ _ _ _ (show md = C_U_mode md fl rg k1 from by rw [C_U_mode]) rfl rfl rfl hw hS dU_mode_30
    · exact absurd g1 h2
def C_U_flags (md : Int32) (fl : Int32) (rg : Nat → Int64) (k1 : Int32) : Int32 × Int32 :=
  (fl, fl &&& (k1 ^^^ (-1)))
abbrev rmU_flags : Room := { frames := 0, cells := 0, slots := 0, locals := 0 }
theorem cwU_flags {R : Room} {s : State} {args : Array Value} {w0 : Cond} {own : String} {idx : Nat} (hts : ∀ w ∈ (w0 :: bigW), w.before args s = true) (hl : Cond.methodLink own idx yU_flags ∈ bigW) (hR : rmU_flags.frames + 1 ≤ R.frames ∧ 8 + (3 + 11) + rmU_flags.locals ≤ R.locals) : CallW R s args own "FloatUnit" idx yU_flags cU_flags 3 (some .int) (wsM yU_flags cU_flags 3 (some .int)) rmU_flags 0 0 1 :=
  cwV 1 hts (big_V hl w_30 w_31 w_1 w_32) rfl rfl rfl ⟨rfl, by decide, by decide, by decide +kernel⟩ hR
set_option maxRecDepth 100000 in
set_option maxHeartbeats 8000000 in
theorem c_U_flags (l : Launch) (ad : Nat → Nat) (D : va_G) (cA : ClassId) (h0 r0 : Nat) (md fl : Int32) (rg : Nat → Int64) (k1 : Int32) : FuM l ad D cA h0 r0 yU_flags (wsM yU_flags cU_flags 3 (some .int)) rmU_flags [.int k1] md fl rg (some (.int ((C_U_flags md fl rg k1).1))) md (C_U_flags md fl rg k1).2 rg := by
  refine fu_ofI (cc := cU_flags) (maxL := 3) (by decide) rfl (Nat.le_of_ble_eq_true rfl) ?_
  intro p e s m args below meth c Q hx hb hml hown hts hF H locs hS hw hret ls hl
  have hl : lv_has ls 3 [(0, .ref h0), (1, .int k1)] := hl
  refine lv_aload_n (pc := 0) hx hb dU_flags_0 rfl (lv_at hl 0 rfl) ?_
  refine fu_fl (pc := 1) hx hb hts hown hw w_20 dU_flags_1 ?_
  refine lv_istore_n (lv' := [(2, .int fl), (0, .ref h0), (1, .int k1)]) (pc := 4) hx hb dU_flags_4 rfl hl (by decide) rfl (fun ls hl => ?_)
  refine lv_aload_n (pc := 5) hx hb dU_flags_5 rfl (lv_at hl 1 rfl) ?_
  refine lv_dup (pc := 6) hx hb dU_flags_6 rfl ?_
  refine fu_fl (pc := 7) hx hb hts hown hw w_20 dU_flags_7 ?_
  refine lv_iload_n (pc := 10) hx hb dU_flags_10 rfl (lv_at hl 2 rfl) ?_
  refine lv_iconst (v := (-1)) (pc := 11) hx hb dU_flags_11 (by decide) ?_
  refine lv_ixor (pc := 12) hx hb dU_flags_12 ?_
  refine lv_iand (pc := 13) hx hb dU_flags_13 ?_
  refine fu_pfl (pc := 14) hx hb hts hown hw hS w_20 dU_flags_14 (fun H locs hw hS => ?_)
  refine lv_iload_n (pc := 17) hx hb dU_flags_17 rfl (lv_at hl 0 rfl) ?_
  have he9 := (show (fl, fl &&& (k1 ^^^ (-1))) = C_U_flags md fl rg k1 from by rw [C_U_flags])
  exact hret _ _ _ _ _ _ _ _ (congrArg Prod.fst he9) rfl (congrArg Prod.snd he9) rfl hw hS dU_flags_18
def C_U_work (md : Int32) (fl : Int32) (rg : Nat → Int64) (k1 : Int32) (z2 : Bool) (k3 : Int32) (k4 : Int32) (k5 : Int32) : Int64 × Int32 :=
  ((C_U_result md fl k1 (C_U_format z2) (C_F_own (C_U_format z2) (rg k4.toNatClampNeg)) (C_F_own (C_U_format z2) (rg k5.toNatClampNeg))).1, (C_U_result md fl k1 (C_U_format z2) (C_F_own (C_U_format z2) (rg k4.toNatClampNeg)) (C_F_own (C_U_format z2) (rg k5.toNatClampNeg))).2)
abbrev rmU_work : Room := { frames := 6, cells := 0, slots := 0, locals := 164 }
theorem cwU_work {R : Room} {s : State} {args : Array Value} {w0 : Cond} {own : String} {idx : Nat} (hts : ∀ w ∈ (w0 :: bigW), w.before args s = true) (hl : Cond.methodLink own idx yU_work ∈ bigW) (hR : rmU_work.frames + 1 ≤ R.frames ∧ 8 + (7 + 11) + rmU_work.locals ≤ R.locals) : CallW R s args own "FloatUnit" idx yU_work cU_work 7 (some .long) (wsM yU_work cU_work 7 (some .long)) rmU_work 0 0 5 :=
  cwV 5 hts (big_V hl w_129 w_130 w_1 w_131) rfl rfl rfl ⟨rfl, by decide, by decide, by decide +kernel⟩ hR
set_option maxRecDepth 100000 in
set_option maxHeartbeats 8000000 in
theorem c_U_work (l : Launch) (ad : Nat → Nat) (D : va_G) (cA : ClassId) (h0 r0 : Nat) (md fl : Int32) (rg : Nat → Int64) (k1 : Int32) (z2 : Bool) (k3 : Int32) (k4 : Int32) (k5 : Int32) (h_k3 : vp_in k3 16) (h_k4 : vp_in k4 16) (h_k5 : vp_in k5 16) (g0 : ¬ k1 < 0) (g1 : k1 ≤ 4) : FuM l ad D cA h0 r0 yU_work (wsM yU_work cU_work 7 (some .long)) rmU_work [.int k1, .int (bI z2), .int k3, .int k4, .int k5] md fl rg (some (.long ((C_U_work md fl rg k1 z2 k3 k4 k5).1))) md (C_U_work md fl rg k1 z2 k3 k4 k5).2 (vp_updL rg k3.toNatClampNeg (C_U_work md fl rg k1 z2 k3 k4 k5).1) := by
  refine fu_ofL (cc := cU_work) (maxL := 7) (by decide) rfl (Nat.le_of_ble_eq_true rfl) ?_
  intro p e s m args below meth c Q hx hb hml hown hts hF H locs hS hw hret ls hl
  have hl : lv_has ls 7 [(0, .ref h0), (1, .int k1), (2, .int (bI z2)), (3, .int k3), (4, .int k4), (5, .int k5)] := hl
  refine lv_iload_n (pc := 0) hx hb dU_work_0 rfl (lv_at hl 3 rfl) ?_
  refine pu_Sv (pc := 1) (rest := []) ⟨hx, hb, hml, hown, hts⟩ (c_U_requireRegister l ad h_k3) (cwU_requireRegister hts w_41 ⟨by decide, by decide⟩) hF hS rfl hl.1 rfl (Nat.le_of_ble_eq_true rfl) dU_work_1 ⟨Nat.zero_le _, Nat.zero_le _⟩ ?_
  refine lv_iload (pc := 4) hx hb dU_work_4 (lv_at hl 4 rfl) ?_
  refine pu_Sv (pc := 6) (rest := []) ⟨hx, hb, hml, hown, hts⟩ (c_U_requireRegister l ad h_k4) (cwU_requireRegister hts w_41 ⟨by decide, by decide⟩) hF hS rfl hl.1 rfl (Nat.le_of_ble_eq_true rfl) dU_work_6 ⟨Nat.zero_le _, Nat.zero_le _⟩ ?_
  refine lv_iload (pc := 9) hx hb dU_work_9 (lv_at hl 5 rfl) ?_
  refine pu_Sv (pc := 11) (rest := []) ⟨hx, hb, hml, hown, hts⟩ (c_U_requireRegister l ad h_k5) (cwU_requireRegister hts w_41 ⟨by decide, by decide⟩) hF hS rfl hl.1 rfl (Nat.le_of_ble_eq_true rfl) dU_work_11 ⟨Nat.zero_le _, Nat.zero_le _⟩ ?_
  refine lv_iload_n (pc := 14) hx hb dU_work_14 rfl (lv_at hl 1 rfl) ?_
  refine lv_if_lt (tgt := 23) (pc := 15) hx hb dU_work_15 (by decide) (fun h1 => ?_) (fun h1 => ?_)
  · exact absurd h1 g0
  · skip
    refine lv_iload_n (pc := 18) hx hb dU_work_18 rfl (lv_at hl 1 rfl) ?_
    refine lv_iconst (v := 4) (pc := 19) hx hb dU_work_19 (by decide) ?_
    refine lv_icmp_le (tgt := 33) (pc := 20) hx hb dU_work_20 (by decide) (fun h2 => ?_) (fun h2 => ?_)
    · skip
      refine lv_iload_n (pc := 33) hx hb dU_work_33 rfl (lv_at hl 2 rfl) ?_
      refine pu_S (pc := 34) (rest := []) ⟨hx, hb, hml, hown, hts⟩ (c_U_format l ad z2) (cwU_format hts w_133 ⟨by decide, by decide⟩) hF hS rfl hl.1 rfl (Nat.le_of_ble_eq_true rfl) dU_work_34 ⟨Nat.zero_le _, Nat.zero_le _⟩ ?_
      refine lv_astore (lv' := [(6, .ref (ad (C_U_format z2))), (0, .ref h0), (1, .int k1), (2, .int (bI z2)), (3, .int k3), (4, .int k4), (5, .int k5)]) (pc := 37) hx hb dU_work_37 hl (by decide) rfl (fun ls hl => ?_)
      refine lv_aload_n (pc := 39) hx hb dU_work_39 rfl (lv_at hl 1 rfl) ?_
      refine lv_iload_n (pc := 40) hx hb dU_work_40 rfl (lv_at hl 4 rfl) ?_
      refine lv_aload_n (pc := 41) hx hb dU_work_41 rfl (lv_at hl 1 rfl) ?_
      refine lv_iload_n (pc := 42) hx hb dU_work_42 rfl (lv_at hl 2 rfl) ?_
      refine lv_aload (pc := 43) hx hb dU_work_43 (lv_at hl 0 rfl) ?_
      refine lv_aload (pc := 45) hx hb dU_work_45 (lv_at hl 0 rfl) ?_
      refine lv_aload_n (pc := 47) hx hb dU_work_47 rfl (lv_at hl 1 rfl) ?_
      refine fu_rg (pc := 48) hx hb hts hown hw w_18 dU_work_48 ?_
      refine lv_iload (pc := 51) hx hb dU_work_51 (lv_at hl 5 rfl) ?_
      refine fu_ld (pc := 53) hx hb hw h_k4 dU_work_53 ?_
      refine pu_V (pc := 54) (i := C_U_format z2) (rest := [.ref (ad (C_U_format z2)), .int k1, .ref h0, .int k3, .ref h0]) ⟨hx, hb, hml, hown, hts⟩ (fmt_lt _) (c_F_own l ad (fmt_lt _) (rg k4.toNatClampNeg)) (cwF_own hts w_140 ⟨by decide, by decide⟩) hF hS rfl hl.1 rfl (Nat.le_of_ble_eq_true rfl) dU_work_54 ⟨Nat.zero_le _, Nat.zero_le _⟩ ?_
      refine lv_aload (pc := 57) hx hb dU_work_57 (lv_at hl 0 rfl) ?_
      refine lv_aload_n (pc := 59) hx hb dU_work_59 rfl (lv_at hl 1 rfl) ?_
      refine fu_rg (pc := 60) hx hb hts hown hw w_18 dU_work_60 ?_
      refine lv_iload (pc := 63) hx hb dU_work_63 (lv_at hl 6 rfl) ?_
      refine fu_ld (pc := 65) hx hb hw h_k5 dU_work_65 ?_
      refine pu_V (pc := 66) (i := C_U_format z2) (rest := [.long (C_F_own (C_U_format z2) (rg k4.toNatClampNeg)), .ref (ad (C_U_format z2)), .int k1, .ref h0, .int k3, .ref h0]) ⟨hx, hb, hml, hown, hts⟩ (fmt_lt _) (c_F_own l ad (fmt_lt _) (rg k5.toNatClampNeg)) (cwF_own hts w_140 ⟨by decide, by decide⟩) hF hS rfl hl.1 rfl (Nat.le_of_ble_eq_true rfl) dU_work_66 ⟨Nat.zero_le _, Nat.zero_le _⟩ ?_
      refine fu_V (pc := 69) (rest := [.int k3, .ref h0]) ⟨hx, hb, hml, hown, hts⟩ (c_U_result l ad D cA h0 r0 (fmt_lt _) md fl rg k1 (C_F_own (C_U_format z2) (rg k4.toNatClampNeg)) (C_F_own (C_U_format z2) (rg k5.toNatClampNeg))) (cwU_result hts w_144 ⟨by decide, by decide⟩) hF hw hS rfl hl.1 rfl (Nat.le_of_ble_eq_true rfl) dU_work_69 ⟨Nat.zero_le _, Nat.zero_le _⟩ (fun H locs hw hS => ?_)
      refine W.eq (g2 := F0 m 72 ls [.long ((C_U_result md fl k1 (C_U_format z2) (C_F_own (C_U_format z2) (rg k4.toNatClampNeg)) (C_F_own (C_U_format z2) (rg k5.toNatClampNeg))).1), .int k3, .ref h0]) rfl ?_
      refine fu_V (pc := 72) (rest := []) ⟨hx, hb, hml, hown, hts⟩ (c_U_keep l ad D cA h0 r0 md ((C_U_result md fl k1 (C_U_format z2) (C_F_own (C_U_format z2) (rg k4.toNatClampNeg)) (C_F_own (C_U_format z2) (rg k5.toNatClampNeg))).2) rg k3 ((C_U_result md fl k1 (C_U_format z2) (C_F_own (C_U_format z2) (rg k4.toNatClampNeg)) (C_F_own (C_U_format z2) (rg k5.toNatClampNeg))).1) h_k3) (cwU_keep hts w_275 ⟨by decide, by decide⟩) hF hw hS rfl hl.1 rfl (Nat.le_of_ble_eq_true rfl) dU_work_72 ⟨Nat.zero_le _, Nat.zero_le _⟩ (fun H locs hw hS => ?_)
      refine W.eq (g2 := F0 m 75 ls [.long ((C_U_result md fl k1 (C_U_format z2) (C_F_own (C_U_format z2) (rg k4.toNatClampNeg)) (C_F_own (C_U_format z2) (rg k5.toNatClampNeg))).1)]) rfl ?_
      have he9 := (show ((C_U_result md fl k1 (C_U_format z2) (C_F_own (C_U_format z2) (rg k4.toNatClampNeg)) (C_F_own (C_U_format z2) (rg k5.toNatClampNeg))).1, (C_U_result md fl k1 (C_U_format z2) (C_F_own (C_U_format z2) (rg k4.toNatClampNeg)) (C_F_own (C_U_format z2) (rg k5.toNatClampNeg))).2) = C_U_work md fl rg k1 z2 k3 k4 k5 from by rw [C_U_work])
      exact hret _ _ _ _ _ _ _ _ (congrArg Prod.fst he9) rfl (congrArg Prod.snd he9) (congrArg (vp_updL rg k3.toNatClampNeg) (congrArg Prod.fst he9)) hw hS dU_work_75
    · exact absurd g1 h2
def C_U_compare (md : Int32) (fl : Int32) (rg : Nat → Int64) (z1 : Bool) (k2 : Int32) (k3 : Int32) (k4 : Int32) : Int32 :=
  if (C_F_isNone (C_U_format z1) (rg k2.toNatClampNeg)) = false then
    if (C_F_isNone (C_U_format z1) (rg k3.toNatClampNeg)) = false then
      if (C_F_rank (C_U_format z1) (rg k2.toNatClampNeg)) = (C_F_rank (C_U_format z1) (rg k3.toNatClampNeg)) then
        0
      else
        if (C_F_rank (C_U_format z1) (rg k3.toNatClampNeg)) ≤ (C_F_rank (C_U_format z1) (rg k2.toNatClampNeg)) then
          1
        else
          (-1)
    else
      k4
  else
    k4
abbrev rmU_compare : Room := { frames := 2, cells := 0, slots := 0, locals := 44 }
theorem cwU_compare {R : Room} {s : State} {args : Array Value} {w0 : Cond} {own : String} {idx : Nat} (hts : ∀ w ∈ (w0 :: bigW), w.before args s = true) (hl : Cond.methodLink own idx yU_compare ∈ bigW) (hR : rmU_compare.frames + 1 ≤ R.frames ∧ 8 + (10 + 11) + rmU_compare.locals ≤ R.locals) : CallW R s args own "FloatUnit" idx yU_compare cU_compare 10 (some .int) (wsM yU_compare cU_compare 10 (some .int)) rmU_compare 0 0 4 :=
  cwV 4 hts (big_V hl w_283 w_284 w_1 w_285) rfl rfl rfl ⟨rfl, by decide, by decide, by decide +kernel⟩ hR
set_option maxRecDepth 100000 in
set_option maxHeartbeats 8000000 in
theorem c_U_compare (l : Launch) (ad : Nat → Nat) (D : va_G) (cA : ClassId) (h0 r0 : Nat) (md fl : Int32) (rg : Nat → Int64) (z1 : Bool) (k2 : Int32) (k3 : Int32) (k4 : Int32) (h_k2 : vp_in k2 16) (h_k3 : vp_in k3 16) : FuM l ad D cA h0 r0 yU_compare (wsM yU_compare cU_compare 10 (some .int)) rmU_compare [.int (bI z1), .int k2, .int k3, .int k4] md fl rg (some (.int (C_U_compare md fl rg z1 k2 k3 k4))) md fl rg := by
  refine fu_ofI (cc := cU_compare) (maxL := 10) (by decide) rfl (Nat.le_of_ble_eq_true rfl) ?_
  intro p e s m args below meth c Q hx hb hml hown hts hF H locs hS hw hret ls hl
  have hl : lv_has ls 10 [(0, .ref h0), (1, .int (bI z1)), (2, .int k2), (3, .int k3), (4, .int k4)] := hl
  refine lv_iload_n (pc := 0) hx hb dU_compare_0 rfl (lv_at hl 2 rfl) ?_
  refine pu_Sv (pc := 1) (rest := []) ⟨hx, hb, hml, hown, hts⟩ (c_U_requireRegister l ad h_k2) (cwU_requireRegister hts w_41 ⟨by decide, by decide⟩) hF hS rfl hl.1 rfl (Nat.le_of_ble_eq_true rfl) dU_compare_1 ⟨Nat.zero_le _, Nat.zero_le _⟩ ?_
  refine lv_iload_n (pc := 4) hx hb dU_compare_4 rfl (lv_at hl 3 rfl) ?_
  refine pu_Sv (pc := 5) (rest := []) ⟨hx, hb, hml, hown, hts⟩ (c_U_requireRegister l ad h_k3) (cwU_requireRegister hts w_41 ⟨by decide, by decide⟩) hF hS rfl hl.1 rfl (Nat.le_of_ble_eq_true rfl) dU_compare_5 ⟨Nat.zero_le _, Nat.zero_le _⟩ ?_
  refine lv_iload_n (pc := 8) hx hb dU_compare_8 rfl (lv_at hl 1 rfl) ?_
  refine pu_S (pc := 9) (rest := []) ⟨hx, hb, hml, hown, hts⟩ (c_U_format l ad z1) (cwU_format hts w_133 ⟨by decide, by decide⟩) hF hS rfl hl.1 rfl (Nat.le_of_ble_eq_true rfl) dU_compare_9 ⟨Nat.zero_le _, Nat.zero_le _⟩ ?_
  refine lv_astore (lv' := [(5, .ref (ad (C_U_format z1))), (0, .ref h0), (1, .int (bI z1)), (2, .int k2), (3, .int k3), (4, .int k4)]) (pc := 12) hx hb dU_compare_12 hl (by decide) rfl (fun ls hl => ?_)
  refine lv_aload (pc := 14) hx hb dU_compare_14 (lv_at hl 0 rfl) ?_
  refine lv_aload_n (pc := 16) hx hb dU_compare_16 rfl (lv_at hl 1 rfl) ?_
  refine fu_rg (pc := 17) hx hb hts hown hw w_18 dU_compare_17 ?_
  refine lv_iload_n (pc := 20) hx hb dU_compare_20 rfl (lv_at hl 3 rfl) ?_
  refine fu_ld (pc := 21) hx hb hw h_k2 dU_compare_21 ?_
  refine pu_V (pc := 22) (i := C_U_format z1) (rest := []) ⟨hx, hb, hml, hown, hts⟩ (fmt_lt _) (c_F_isNone l ad (fmt_lt _) (rg k2.toNatClampNeg)) (cwF_isNone hts w_148 ⟨by decide, by decide⟩) hF hS rfl hl.1 rfl (Nat.le_of_ble_eq_true rfl) dU_compare_22 ⟨Nat.zero_le _, Nat.zero_le _⟩ ?_
  refine lv_if_ne (tgt := 42) (pc := 25) hx hb dU_compare_25 (by decide) (fun h1 => ?_) (fun h1 => ?_)
  · skip
    have h1 : ¬ ((C_F_isNone (C_U_format z1) (rg k2.toNatClampNeg)) = false) := fun q => h1 ((bI_0 _).2 q)
    refine lv_iload (pc := 42) hx hb dU_compare_42 (lv_at hl 5 rfl) ?_
    exact hret _ _ _ _ _ _ _ _ (show k4 = C_U_compare md fl rg z1 k2 k3 k4 from by rw [C_U_compare, if_neg h1]) rfl rfl rfl hw hS dU_compare_44
  · skip
    have h1 : (C_F_isNone (C_U_format z1) (rg k2.toNatClampNeg)) = false := (bI_0 _).1 h1
    refine lv_aload (pc := 28) hx hb dU_compare_28 (lv_at hl 0 rfl) ?_
    refine lv_aload_n (pc := 30) hx hb dU_compare_30 rfl (lv_at hl 1 rfl) ?_
    refine fu_rg (pc := 31) hx hb hts hown hw w_18 dU_compare_31 ?_
    refine lv_iload_n (pc := 34) hx hb dU_compare_34 rfl (lv_at hl 4 rfl) ?_
    refine fu_ld (pc := 35) hx hb hw h_k3 dU_compare_35 ?_
    refine pu_V (pc := 36) (i := C_U_format z1) (rest := []) ⟨hx, hb, hml, hown, hts⟩ (fmt_lt _) (c_F_isNone l ad (fmt_lt _) (rg k3.toNatClampNeg)) (cwF_isNone hts w_148 ⟨by decide, by decide⟩) hF hS rfl hl.1 rfl (Nat.le_of_ble_eq_true rfl) dU_compare_36 ⟨Nat.zero_le _, Nat.zero_le _⟩ ?_
    refine lv_if_eq (tgt := 45) (pc := 39) hx hb dU_compare_39 (by decide) (fun h2 => ?_) (fun h2 => ?_)
    · skip
      have h2 : (C_F_isNone (C_U_format z1) (rg k3.toNatClampNeg)) = false := (bI_0 _).1 h2
      refine lv_aload (pc := 45) hx hb dU_compare_45 (lv_at hl 0 rfl) ?_
      refine lv_aload_n (pc := 47) hx hb dU_compare_47 rfl (lv_at hl 1 rfl) ?_
      refine fu_rg (pc := 48) hx hb hts hown hw w_18 dU_compare_48 ?_
      refine lv_iload_n (pc := 51) hx hb dU_compare_51 rfl (lv_at hl 3 rfl) ?_
      refine fu_ld (pc := 52) hx hb hw h_k2 dU_compare_52 ?_
      refine pu_V (pc := 53) (i := C_U_format z1) (rest := []) ⟨hx, hb, hml, hown, hts⟩ (fmt_lt _) (c_F_rank l ad (fmt_lt _) (rg k2.toNatClampNeg)) (cwF_rank hts w_286 ⟨by decide, by decide⟩) hF hS rfl hl.1 rfl (Nat.le_of_ble_eq_true rfl) dU_compare_53 ⟨Nat.zero_le _, Nat.zero_le _⟩ ?_
      refine lv_lstore (lv' := [(6, .long (C_F_rank (C_U_format z1) (rg k2.toNatClampNeg))), (5, .ref (ad (C_U_format z1))), (0, .ref h0), (1, .int (bI z1)), (2, .int k2), (3, .int k3), (4, .int k4)]) (pc := 56) hx hb dU_compare_56 hl (by decide) rfl (fun ls hl => ?_)
      refine lv_aload (pc := 58) hx hb dU_compare_58 (lv_at hl 1 rfl) ?_
      refine lv_aload_n (pc := 60) hx hb dU_compare_60 rfl (lv_at hl 2 rfl) ?_
      refine fu_rg (pc := 61) hx hb hts hown hw w_18 dU_compare_61 ?_
      refine lv_iload_n (pc := 64) hx hb dU_compare_64 rfl (lv_at hl 5 rfl) ?_
      refine fu_ld (pc := 65) hx hb hw h_k3 dU_compare_65 ?_
      refine pu_V (pc := 66) (i := C_U_format z1) (rest := []) ⟨hx, hb, hml, hown, hts⟩ (fmt_lt _) (c_F_rank l ad (fmt_lt _) (rg k3.toNatClampNeg)) (cwF_rank hts w_286 ⟨by decide, by decide⟩) hF hS rfl hl.1 rfl (Nat.le_of_ble_eq_true rfl) dU_compare_66 ⟨Nat.zero_le _, Nat.zero_le _⟩ ?_
      refine lv_lstore (lv' := [(8, .long (C_F_rank (C_U_format z1) (rg k3.toNatClampNeg))), (6, .long (C_F_rank (C_U_format z1) (rg k2.toNatClampNeg))), (5, .ref (ad (C_U_format z1))), (0, .ref h0), (1, .int (bI z1)), (2, .int k2), (3, .int k3), (4, .int k4)]) (pc := 69) hx hb dU_compare_69 hl (by decide) rfl (fun ls hl => ?_)
      refine lv_lload (pc := 71) hx hb dU_compare_71 (lv_at hl 1 rfl) ?_
      refine lv_lload (pc := 73) hx hb dU_compare_73 (lv_at hl 0 rfl) ?_
      refine W.lcmp (pc := 75) hx hb dU_compare_75 ?_
      refine lv_if_ne (tgt := 81) (pc := 76) hx hb dU_compare_76 (by decide) (fun h3 => ?_) (fun h3 => ?_)
      · skip
        have h3 : ¬ ((C_F_rank (C_U_format z1) (rg k2.toNatClampNeg)) = (C_F_rank (C_U_format z1) (rg k3.toNatClampNeg))) := fun q => h3 ((lg_cmp_eq _ _).2 q)
        refine lv_lload (pc := 81) hx hb dU_compare_81 (lv_at hl 1 rfl) ?_
        refine lv_lload (pc := 83) hx hb dU_compare_83 (lv_at hl 0 rfl) ?_
        refine W.lcmp (pc := 85) hx hb dU_compare_85 ?_
        refine lv_if_ge (tgt := 93) (pc := 86) hx hb dU_compare_86 (by decide) (fun h4 => ?_) (fun h4 => ?_)
        · skip
          have h4 : (C_F_rank (C_U_format z1) (rg k3.toNatClampNeg)) ≤ (C_F_rank (C_U_format z1) (rg k2.toNatClampNeg)) := (lg_cmp_ge _ _).1 h4
          refine lv_iconst (v := 1) (pc := 93) hx hb dU_compare_93 (by decide) ?_
          exact hret _ _ _ _ _ _ _ _ (show 1 = C_U_compare md fl rg z1 k2 k3 k4 from by rw [C_U_compare, if_pos h1, if_pos h2, if_neg h3, if_pos h4]) rfl rfl rfl hw hS dU_compare_94
        · skip
          have h4 : ¬ ((C_F_rank (C_U_format z1) (rg k3.toNatClampNeg)) ≤ (C_F_rank (C_U_format z1) (rg k2.toNatClampNeg))) := fun q => h4 ((lg_cmp_ge _ _).2 q)
          refine lv_iconst (v := (-1)) (pc := 89) hx hb dU_compare_89 (by decide) ?_
          refine lv_goto (tgt := 94) (pc := 90) hx hb dU_compare_90 (by decide) ?_
          exact hret _ _ _ _ _ _ _ _ (show (-1) = C_U_compare md fl rg z1 k2 k3 k4 from by rw [C_U_compare, if_pos h1, if_pos h2, if_neg h3, if_neg h4]) rfl rfl rfl hw hS dU_compare_94
      · skip
        have h3 : (C_F_rank (C_U_format z1) (rg k2.toNatClampNeg)) = (C_F_rank (C_U_format z1) (rg k3.toNatClampNeg)) := (lg_cmp_eq _ _).1 h3
        refine lv_iconst (v := 0) (pc := 79) hx hb dU_compare_79 (by decide) ?_
        exact hret _ _ _ _ _ _ _ _ (show 0 = C_U_compare md fl rg z1 k2 k3 k4 from by rw [C_U_compare, if_pos h1, if_pos h2, if_pos h3]) rfl rfl rfl hw hS dU_compare_80
    · skip
      have h2 : ¬ ((C_F_isNone (C_U_format z1) (rg k3.toNatClampNeg)) = false) := fun q => h2 ((bI_0 _).2 q)
      refine lv_iload (pc := 42) hx hb dU_compare_42 (lv_at hl 5 rfl) ?_
      exact hret _ _ _ _ _ _ _ _ (show k4 = C_U_compare md fl rg z1 k2 k3 k4 from by rw [C_U_compare, if_pos h1, if_neg h2]) rfl rfl rfl hw hS dU_compare_44
def C_U_of (md : Int32) (fl : Int32) (rg : Nat → Int64) (z1 : Bool) (k2 : Int32) (x3 : Int64) : Int64 × Int32 :=
  if x3 = 0 then
    (C_F_zero (C_U_format z1) false, fl)
  else
    if 0 ≤ x3 then
      ((C_U_rounded md fl (C_U_format z1) false x3 0).1, (C_U_rounded md fl (C_U_format z1) false x3 0).2)
    else
      ((C_U_rounded md fl (C_U_format z1) true (-x3) 0).1, (C_U_rounded md fl (C_U_format z1) true (-x3) 0).2)
abbrev rmU_of : Room := { frames := 4, cells := 0, slots := 0, locals := 104 }
theorem cwU_of {R : Room} {s : State} {args : Array Value} {w0 : Cond} {own : String} {idx : Nat} (hts : ∀ w ∈ (w0 :: bigW), w.before args s = true) (hl : Cond.methodLink own idx yU_of ∈ bigW) (hR : rmU_of.frames + 1 ≤ R.frames ∧ 8 + (6 + 11) + rmU_of.locals ≤ R.locals) : CallW R s args own "FloatUnit" idx yU_of cU_of 6 (some .long) (wsM yU_of cU_of 6 (some .long)) rmU_of 0 0 3 :=
  cwV 3 hts (big_V hl w_295 w_296 w_1 w_297) rfl rfl rfl ⟨rfl, by decide, by decide, by decide +kernel⟩ hR
set_option maxRecDepth 100000 in
set_option maxHeartbeats 8000000 in
theorem c_U_of (l : Launch) (ad : Nat → Nat) (D : va_G) (cA : ClassId) (h0 r0 : Nat) (md fl : Int32) (rg : Nat → Int64) (z1 : Bool) (k2 : Int32) (x3 : Int64) (h_k2 : vp_in k2 16) : FuM l ad D cA h0 r0 yU_of (wsM yU_of cU_of 6 (some .long)) rmU_of [.int (bI z1), .int k2, .long x3] md fl rg (some (.long ((C_U_of md fl rg z1 k2 x3).1))) md (C_U_of md fl rg z1 k2 x3).2 (vp_updL rg k2.toNatClampNeg (C_U_of md fl rg z1 k2 x3).1) := by
  refine fu_ofL (cc := cU_of) (maxL := 6) (by decide) rfl (Nat.le_of_ble_eq_true rfl) ?_
  intro p e s m args below meth c Q hx hb hml hown hts hF H locs hS hw hret ls hl
  have hl : lv_has ls 6 [(0, .ref h0), (1, .int (bI z1)), (2, .int k2), (3, .long x3)] := hl
  refine lv_iload_n (pc := 0) hx hb dU_of_0 rfl (lv_at hl 2 rfl) ?_
  refine pu_Sv (pc := 1) (rest := []) ⟨hx, hb, hml, hown, hts⟩ (c_U_requireRegister l ad h_k2) (cwU_requireRegister hts w_41 ⟨by decide, by decide⟩) hF hS rfl hl.1 rfl (Nat.le_of_ble_eq_true rfl) dU_of_1 ⟨Nat.zero_le _, Nat.zero_le _⟩ ?_
  refine lv_iload_n (pc := 4) hx hb dU_of_4 rfl (lv_at hl 1 rfl) ?_
  refine pu_S (pc := 5) (rest := []) ⟨hx, hb, hml, hown, hts⟩ (c_U_format l ad z1) (cwU_format hts w_133 ⟨by decide, by decide⟩) hF hS rfl hl.1 rfl (Nat.le_of_ble_eq_true rfl) dU_of_5 ⟨Nat.zero_le _, Nat.zero_le _⟩ ?_
  refine lv_astore (lv' := [(5, .ref (ad (C_U_format z1))), (0, .ref h0), (1, .int (bI z1)), (2, .int k2), (3, .long x3)]) (pc := 8) hx hb dU_of_8 hl (by decide) rfl (fun ls hl => ?_)
  refine lv_lload_n (pc := 10) hx hb dU_of_10 rfl (lv_at hl 4 rfl) ?_
  refine lv_lconst (v := 0) (pc := 11) hx hb dU_of_11 (by decide) ?_
  refine W.lcmp (pc := 12) hx hb dU_of_12 ?_
  refine lv_if_ne (tgt := 28) (pc := 13) hx hb dU_of_13 (by decide) (fun h1 => ?_) (fun h1 => ?_)
  · skip
    have h1 : ¬ (x3 = 0) := fun q => h1 ((lg_cmp_eq _ _).2 q)
    refine lv_aload_n (pc := 28) hx hb dU_of_28 rfl (lv_at hl 1 rfl) ?_
    refine lv_iload_n (pc := 29) hx hb dU_of_29 rfl (lv_at hl 3 rfl) ?_
    refine lv_aload_n (pc := 30) hx hb dU_of_30 rfl (lv_at hl 1 rfl) ?_
    refine lv_aload (pc := 31) hx hb dU_of_31 (lv_at hl 0 rfl) ?_
    refine lv_lload_n (pc := 33) hx hb dU_of_33 rfl (lv_at hl 4 rfl) ?_
    refine lv_lconst (v := 0) (pc := 34) hx hb dU_of_34 (by decide) ?_
    refine W.lcmp (pc := 35) hx hb dU_of_35 ?_
    refine lv_if_ge (tgt := 43) (pc := 36) hx hb dU_of_36 (by decide) (fun h2 => ?_) (fun h2 => ?_)
    · skip
      have h2 : 0 ≤ x3 := (lg_cmp_ge _ _).1 h2
      refine lv_iconst (v := 0) (pc := 43) hx hb dU_of_43 (by decide) ?_
      refine lv_lload_n (pc := 44) hx hb dU_of_44 rfl (lv_at hl 4 rfl) ?_
      refine lv_lconst (v := 0) (pc := 45) hx hb dU_of_45 (by decide) ?_
      refine W.lcmp (pc := 46) hx hb dU_of_46 ?_
      refine lv_if_ge (tgt := 55) (pc := 47) hx hb dU_of_47 (by decide) (fun h3 => ?_) (fun h3 => ?_)
      · skip
        refine lv_lload_n (pc := 55) hx hb dU_of_55 rfl (lv_at hl 4 rfl) ?_
        refine lv_iconst (v := 0) (pc := 56) hx hb dU_of_56 (by decide) ?_
        refine fu_V (pc := 57) (rest := [.int k2, .ref h0]) ⟨hx, hb, hml, hown, hts⟩ (c_U_rounded l ad D cA h0 r0 (fmt_lt _) md fl rg false x3 0) (cwU_rounded hts w_221 ⟨by decide, by decide⟩) hF hw hS rfl hl.1 rfl (Nat.le_of_ble_eq_true rfl) dU_of_57 ⟨Nat.zero_le _, Nat.zero_le _⟩ (fun H locs hw hS => ?_)
        refine W.eq (g2 := F0 m 60 ls [.long ((C_U_rounded md fl (C_U_format z1) false x3 0).1), .int k2, .ref h0]) rfl ?_
        refine fu_V (pc := 60) (rest := []) ⟨hx, hb, hml, hown, hts⟩ (c_U_keep l ad D cA h0 r0 md ((C_U_rounded md fl (C_U_format z1) false x3 0).2) rg k2 ((C_U_rounded md fl (C_U_format z1) false x3 0).1) h_k2) (cwU_keep hts w_275 ⟨by decide, by decide⟩) hF hw hS rfl hl.1 rfl (Nat.le_of_ble_eq_true rfl) dU_of_60 ⟨Nat.zero_le _, Nat.zero_le _⟩ (fun H locs hw hS => ?_)
        refine W.eq (g2 := F0 m 63 ls [.long ((C_U_rounded md fl (C_U_format z1) false x3 0).1)]) rfl ?_
        have he9 := (show ((C_U_rounded md fl (C_U_format z1) false x3 0).1, (C_U_rounded md fl (C_U_format z1) false x3 0).2) = C_U_of md fl rg z1 k2 x3 from by rw [C_U_of, if_neg h1, if_pos h2])
        exact hret _ _ _ _ _ _ _ _ (congrArg Prod.fst he9) rfl (congrArg Prod.snd he9) (congrArg (vp_updL rg k2.toNatClampNeg) (congrArg Prod.fst he9)) hw hS dU_of_63
      · exact absurd h2 (fun q => h3 ((lg_cmp_ge _ _).2 q))
    · skip
      have h2 : ¬ (0 ≤ x3) := fun q => h2 ((lg_cmp_ge _ _).2 q)
      refine lv_iconst (v := 1) (pc := 39) hx hb dU_of_39 (by decide) ?_
      refine lv_goto (tgt := 44) (pc := 40) hx hb dU_of_40 (by decide) ?_
      refine lv_lload_n (pc := 44) hx hb dU_of_44 rfl (lv_at hl 4 rfl) ?_
      refine lv_lconst (v := 0) (pc := 45) hx hb dU_of_45 (by decide) ?_
      refine W.lcmp (pc := 46) hx hb dU_of_46 ?_
      refine lv_if_ge (tgt := 55) (pc := 47) hx hb dU_of_47 (by decide) (fun h4 => ?_) (fun h4 => ?_)
      · exact absurd ((lg_cmp_ge _ _).1 h4) h2
      · skip
        refine lv_lload_n (pc := 50) hx hb dU_of_50 rfl (lv_at hl 4 rfl) ?_
        refine lv_lneg (pc := 51) hx hb dU_of_51 ?_
        refine lv_goto (tgt := 56) (pc := 52) hx hb dU_of_52 (by decide) ?_
        refine lv_iconst (v := 0) (pc := 56) hx hb dU_of_56 (by decide) ?_
        refine fu_V (pc := 57) (rest := [.int k2, .ref h0]) ⟨hx, hb, hml, hown, hts⟩ (c_U_rounded l ad D cA h0 r0 (fmt_lt _) md fl rg true (-x3) 0) (cwU_rounded hts w_221 ⟨by decide, by decide⟩) hF hw hS rfl hl.1 rfl (Nat.le_of_ble_eq_true rfl) dU_of_57 ⟨Nat.zero_le _, Nat.zero_le _⟩ (fun H locs hw hS => ?_)
        refine W.eq (g2 := F0 m 60 ls [.long ((C_U_rounded md fl (C_U_format z1) true (-x3) 0).1), .int k2, .ref h0]) rfl ?_
        refine fu_V (pc := 60) (rest := []) ⟨hx, hb, hml, hown, hts⟩ (c_U_keep l ad D cA h0 r0 md ((C_U_rounded md fl (C_U_format z1) true (-x3) 0).2) rg k2 ((C_U_rounded md fl (C_U_format z1) true (-x3) 0).1) h_k2) (cwU_keep hts w_275 ⟨by decide, by decide⟩) hF hw hS rfl hl.1 rfl (Nat.le_of_ble_eq_true rfl) dU_of_60 ⟨Nat.zero_le _, Nat.zero_le _⟩ (fun H locs hw hS => ?_)
        refine W.eq (g2 := F0 m 63 ls [.long ((C_U_rounded md fl (C_U_format z1) true (-x3) 0).1)]) rfl ?_
        have he9 := (show ((C_U_rounded md fl (C_U_format z1) true (-x3) 0).1, (C_U_rounded md fl (C_U_format z1) true (-x3) 0).2) = C_U_of md fl rg z1 k2 x3 from by rw [C_U_of, if_neg h1, if_neg h2])
        exact hret _ _ _ _ _ _ _ _ (congrArg Prod.fst he9) rfl (congrArg Prod.snd he9) (congrArg (vp_updL rg k2.toNatClampNeg) (congrArg Prod.fst he9)) hw hS dU_of_63
  · skip
    have h1 : x3 = 0 := (lg_cmp_eq _ _).1 h1
    refine lv_aload_n (pc := 16) hx hb dU_of_16 rfl (lv_at hl 1 rfl) ?_
    refine lv_iload_n (pc := 17) hx hb dU_of_17 rfl (lv_at hl 3 rfl) ?_
    refine lv_aload (pc := 18) hx hb dU_of_18 (lv_at hl 0 rfl) ?_
    refine lv_iconst (v := 0) (pc := 20) hx hb dU_of_20 (by decide) ?_
    refine pu_V (pc := 21) (i := C_U_format z1) (rest := [.int k2, .ref h0]) ⟨hx, hb, hml, hown, hts⟩ (fmt_lt _) (c_F_zero l ad (fmt_lt _) false) (cwF_zero hts w_213 ⟨by decide, by decide⟩) hF hS rfl hl.1 rfl (Nat.le_of_ble_eq_true rfl) dU_of_21 ⟨Nat.zero_le _, Nat.zero_le _⟩ ?_
    refine fu_V (pc := 24) (rest := []) ⟨hx, hb, hml, hown, hts⟩ (c_U_keep l ad D cA h0 r0 md fl rg k2 (C_F_zero (C_U_format z1) false) h_k2) (cwU_keep hts w_275 ⟨by decide, by decide⟩) hF hw hS rfl hl.1 rfl (Nat.le_of_ble_eq_true rfl) dU_of_24 ⟨Nat.zero_le _, Nat.zero_le _⟩ (fun H locs hw hS => ?_)
    refine W.eq (g2 := F0 m 27 ls [.long (C_F_zero (C_U_format z1) false)]) rfl ?_
    have he9 := (show (C_F_zero (C_U_format z1) false, fl) = C_U_of md fl rg z1 k2 x3 from by rw [C_U_of, if_pos h1])
    exact hret _ _ _ _ _ _ _ _ (congrArg Prod.fst he9) rfl (congrArg Prod.snd he9) (congrArg (vp_updL rg k2.toNatClampNeg) (congrArg Prod.fst he9)) hw hS dU_of_27
def C_U_whole (md : Int32) (fl : Int32) (rg : Nat → Int64) (z1 : Bool) (k2 : Int32) (z3 : Bool) : Int64 × Int32 :=
  if (C_F_isNone (C_U_format z1) (rg k2.toNatClampNeg)) = false then
    if z3 = false then
      if (C_F_isMinus (C_U_format z1) (rg k2.toNatClampNeg)) = false then
        ((C_U_cut md fl (C_U_format z1) (rg k2.toNatClampNeg) 9223372036854775807).1, (C_U_cut md fl (C_U_format z1) (rg k2.toNatClampNeg) 9223372036854775807).2)
      else
        (-((C_U_cut md fl (C_U_format z1) (rg k2.toNatClampNeg) (9223372036854775807 + 1)).1), (C_U_cut md fl (C_U_format z1) (rg k2.toNatClampNeg) (9223372036854775807 + 1)).2)
    else
      if (C_F_isMinus (C_U_format z1) (rg k2.toNatClampNeg)) = false then
        ((C_U_cut md fl (C_U_format z1) (rg k2.toNatClampNeg) 2147483647).1, (C_U_cut md fl (C_U_format z1) (rg k2.toNatClampNeg) 2147483647).2)
      else
        (-((C_U_cut md fl (C_U_format z1) (rg k2.toNatClampNeg) (2147483647 + 1)).1), (C_U_cut md fl (C_U_format z1) (rg k2.toNatClampNeg) (2147483647 + 1)).2)
  else
    (0, C_U_raise md fl 16)
abbrev rmU_whole : Room := { frames := 4, cells := 0, slots := 0, locals := 100 }
theorem cwU_whole {R : Room} {s : State} {args : Array Value} {w0 : Cond} {own : String} {idx : Nat} (hts : ∀ w ∈ (w0 :: bigW), w.before args s = true) (hl : Cond.methodLink own idx yU_whole ∈ bigW) (hR : rmU_whole.frames + 1 ≤ R.frames ∧ 8 + (14 + 11) + rmU_whole.locals ≤ R.locals) : CallW R s args own "FloatUnit" idx yU_whole cU_whole 14 (some .long) (wsM yU_whole cU_whole 14 (some .long)) rmU_whole 0 0 3 :=
  cwV 3 hts (big_V hl w_302 w_303 w_1 w_304) rfl rfl rfl ⟨rfl, by decide, by decide, by decide +kernel⟩ hR
set_option maxRecDepth 100000 in
set_option maxHeartbeats 8000000 in
theorem c_U_whole (l : Launch) (ad : Nat → Nat) (D : va_G) (cA : ClassId) (h0 r0 : Nat) (md fl : Int32) (rg : Nat → Int64) (z1 : Bool) (k2 : Int32) (z3 : Bool) (h_k2 : vp_in k2 16) : FuM l ad D cA h0 r0 yU_whole (wsM yU_whole cU_whole 14 (some .long)) rmU_whole [.int (bI z1), .int k2, .int (bI z3)] md fl rg (some (.long ((C_U_whole md fl rg z1 k2 z3).1))) md (C_U_whole md fl rg z1 k2 z3).2 rg := by
  refine fu_ofL (cc := cU_whole) (maxL := 14) (by decide) rfl (Nat.le_of_ble_eq_true rfl) ?_
  intro p e s m args below meth c Q hx hb hml hown hts hF H locs hS hw hret ls hl
  have hl : lv_has ls 14 [(0, .ref h0), (1, .int (bI z1)), (2, .int k2), (3, .int (bI z3))] := hl
  refine lv_iload_n (pc := 0) hx hb dU_whole_0 rfl (lv_at hl 2 rfl) ?_
  refine pu_Sv (pc := 1) (rest := []) ⟨hx, hb, hml, hown, hts⟩ (c_U_requireRegister l ad h_k2) (cwU_requireRegister hts w_41 ⟨by decide, by decide⟩) hF hS rfl hl.1 rfl (Nat.le_of_ble_eq_true rfl) dU_whole_1 ⟨Nat.zero_le _, Nat.zero_le _⟩ ?_
  refine lv_iload_n (pc := 4) hx hb dU_whole_4 rfl (lv_at hl 1 rfl) ?_
  refine pu_S (pc := 5) (rest := []) ⟨hx, hb, hml, hown, hts⟩ (c_U_format l ad z1) (cwU_format hts w_133 ⟨by decide, by decide⟩) hF hS rfl hl.1 rfl (Nat.le_of_ble_eq_true rfl) dU_whole_5 ⟨Nat.zero_le _, Nat.zero_le _⟩ ?_
  refine lv_astore (lv' := [(4, .ref (ad (C_U_format z1))), (0, .ref h0), (1, .int (bI z1)), (2, .int k2), (3, .int (bI z3))]) (pc := 8) hx hb dU_whole_8 hl (by decide) rfl (fun ls hl => ?_)
  refine lv_aload_n (pc := 10) hx hb dU_whole_10 rfl (lv_at hl 1 rfl) ?_
  refine fu_rg (pc := 11) hx hb hts hown hw w_18 dU_whole_11 ?_
  refine lv_iload_n (pc := 14) hx hb dU_whole_14 rfl (lv_at hl 3 rfl) ?_
  refine fu_ld (pc := 15) hx hb hw h_k2 dU_whole_15 ?_
  refine lv_lstore (lv' := [(5, .long (rg k2.toNatClampNeg)), (4, .ref (ad (C_U_format z1))), (0, .ref h0), (1, .int (bI z1)), (2, .int k2), (3, .int (bI z3))]) (pc := 16) hx hb dU_whole_16 hl (by decide) rfl (fun ls hl => ?_)
  refine lv_aload (pc := 18) hx hb dU_whole_18 (lv_at hl 1 rfl) ?_
  refine lv_lload (pc := 20) hx hb dU_whole_20 (lv_at hl 0 rfl) ?_
  refine pu_V (pc := 22) (i := C_U_format z1) (rest := []) ⟨hx, hb, hml, hown, hts⟩ (fmt_lt _) (c_F_isNone l ad (fmt_lt _) (rg k2.toNatClampNeg)) (cwF_isNone hts w_148 ⟨by decide, by decide⟩) hF hS rfl hl.1 rfl (Nat.le_of_ble_eq_true rfl) dU_whole_22 ⟨Nat.zero_le _, Nat.zero_le _⟩ ?_
  refine lv_if_eq (tgt := 36) (pc := 25) hx hb dU_whole_25 (by decide) (fun h1 => ?_) (fun h1 => ?_)
  · skip
    have h1 : (C_F_isNone (C_U_format z1) (rg k2.toNatClampNeg)) = false := (bI_0 _).1 h1
    refine lv_aload (pc := 36) hx hb dU_whole_36 (lv_at hl 1 rfl) ?_
    refine lv_lload (pc := 38) hx hb dU_whole_38 (lv_at hl 0 rfl) ?_
    refine pu_V (pc := 40) (i := C_U_format z1) (rest := []) ⟨hx, hb, hml, hown, hts⟩ (fmt_lt _) (c_F_isMinus l ad (fmt_lt _) (rg k2.toNatClampNeg)) (cwF_isMinus hts w_164 ⟨by decide, by decide⟩) hF hS rfl hl.1 rfl (Nat.le_of_ble_eq_true rfl) dU_whole_40 ⟨Nat.zero_le _, Nat.zero_le _⟩ ?_
    refine lv_istore (lv' := [(7, .int (bI (C_F_isMinus (C_U_format z1) (rg k2.toNatClampNeg)))), (5, .long (rg k2.toNatClampNeg)), (4, .ref (ad (C_U_format z1))), (0, .ref h0), (1, .int (bI z1)), (2, .int k2), (3, .int (bI z3))]) (pc := 43) hx hb dU_whole_43 hl (by decide) rfl (fun ls hl => ?_)
    refine lv_iload_n (pc := 45) hx hb dU_whole_45 rfl (lv_at hl 6 rfl) ?_
    refine lv_if_eq (tgt := 55) (pc := 46) hx hb dU_whole_46 (by decide) (fun h2 => ?_) (fun h2 => ?_)
    · skip
      have h2 : z3 = false := (bI_0 _).1 h2
      refine lv_ldc2 (v := 9223372036854775807) (pc := 55) hx hb hown (hts _ (List.mem_cons_of_mem _ w_306)) dU_whole_55 ?_
      refine lv_lstore (lv' := [(8, .long 9223372036854775807), (7, .int (bI (C_F_isMinus (C_U_format z1) (rg k2.toNatClampNeg)))), (5, .long (rg k2.toNatClampNeg)), (4, .ref (ad (C_U_format z1))), (0, .ref h0), (1, .int (bI z1)), (2, .int k2), (3, .int (bI z3))]) (pc := 58) hx hb dU_whole_58 hl (by decide) rfl (fun ls hl => ?_)
      refine lv_iload (pc := 60) hx hb dU_whole_60 (lv_at hl 1 rfl) ?_
      refine lv_if_eq (tgt := 72) (pc := 62) hx hb dU_whole_62 (by decide) (fun h3 => ?_) (fun h3 => ?_)
      · skip
        have h3 : (C_F_isMinus (C_U_format z1) (rg k2.toNatClampNeg)) = false := (bI_0 _).1 h3
        refine lv_lload (pc := 72) hx hb dU_whole_72 (lv_at hl 0 rfl) ?_
        refine lv_lstore (lv' := [(10, .long 9223372036854775807), (8, .long 9223372036854775807), (7, .int (bI (C_F_isMinus (C_U_format z1) (rg k2.toNatClampNeg)))), (5, .long (rg k2.toNatClampNeg)), (4, .ref (ad (C_U_format z1))), (0, .ref h0), (1, .int (bI z1)), (2, .int k2), (3, .int (bI z3))]) (pc := 74) hx hb dU_whole_74 hl (by decide) rfl (fun ls hl => ?_)
        refine lv_aload_n (pc := 76) hx hb dU_whole_76 rfl (lv_at hl 5 rfl) ?_
        refine lv_aload (pc := 77) hx hb dU_whole_77 (lv_at hl 4 rfl) ?_
        refine lv_lload (pc := 79) hx hb dU_whole_79 (lv_at hl 3 rfl) ?_
        refine lv_lload (pc := 81) hx hb dU_whole_81 (lv_at hl 0 rfl) ?_
        refine fu_V (pc := 83) (rest := []) ⟨hx, hb, hml, hown, hts⟩ (c_U_cut l ad D cA h0 r0 (fmt_lt _) md fl rg (rg k2.toNatClampNeg) 9223372036854775807) (cwU_cut hts w_307 ⟨by decide, by decide⟩) hF hw hS rfl hl.1 rfl (Nat.le_of_ble_eq_true rfl) dU_whole_83 ⟨Nat.zero_le _, Nat.zero_le _⟩ (fun H locs hw hS => ?_)
        refine W.eq (g2 := F0 m 86 ls [.long ((C_U_cut md fl (C_U_format z1) (rg k2.toNatClampNeg) 9223372036854775807).1)]) rfl ?_
        refine lv_lstore (lv' := [(12, .long ((C_U_cut md fl (C_U_format z1) (rg k2.toNatClampNeg) 9223372036854775807).1)), (10, .long 9223372036854775807), (8, .long 9223372036854775807), (7, .int (bI (C_F_isMinus (C_U_format z1) (rg k2.toNatClampNeg)))), (5, .long (rg k2.toNatClampNeg)), (4, .ref (ad (C_U_format z1))), (0, .ref h0), (1, .int (bI z1)), (2, .int k2), (3, .int (bI z3))]) (pc := 86) hx hb dU_whole_86 hl (by decide) rfl (fun ls hl => ?_)
        refine lv_iload (pc := 88) hx hb dU_whole_88 (lv_at hl 3 rfl) ?_
        refine lv_if_eq (tgt := 99) (pc := 90) hx hb dU_whole_90 (by decide) (fun h4 => ?_) (fun h4 => ?_)
        · skip
          refine lv_lload (pc := 99) hx hb dU_whole_99 (lv_at hl 0 rfl) ?_
          have he9 := (show ((C_U_cut md fl (C_U_format z1) (rg k2.toNatClampNeg) 9223372036854775807).1, (C_U_cut md fl (C_U_format z1) (rg k2.toNatClampNeg) 9223372036854775807).2) = C_U_whole md fl rg z1 k2 z3 from by rw [C_U_whole, if_pos h1, if_pos h2, if_pos h3])
          exact hret _ _ _ _ _ _ _ _ (congrArg Prod.fst he9) rfl (congrArg Prod.snd he9) rfl hw hS dU_whole_101
        · exact absurd h3 (fun q => h4 ((bI_0 _).2 q))
      · skip
        have h3 : ¬ ((C_F_isMinus (C_U_format z1) (rg k2.toNatClampNeg)) = false) := fun q => h3 ((bI_0 _).2 q)
        refine lv_lload (pc := 65) hx hb dU_whole_65 (lv_at hl 0 rfl) ?_
        refine lv_lconst (v := 1) (pc := 67) hx hb dU_whole_67 (by decide) ?_
        refine lv_ladd (pc := 68) hx hb dU_whole_68 ?_
        refine lv_goto (tgt := 74) (pc := 69) hx hb dU_whole_69 (by decide) ?_
        refine lv_lstore (lv' := [(10, .long (9223372036854775807 + 1)), (8, .long 9223372036854775807), (7, .int (bI (C_F_isMinus (C_U_format z1) (rg k2.toNatClampNeg)))), (5, .long (rg k2.toNatClampNeg)), (4, .ref (ad (C_U_format z1))), (0, .ref h0), (1, .int (bI z1)), (2, .int k2), (3, .int (bI z3))]) (pc := 74) hx hb dU_whole_74 hl (by decide) rfl (fun ls hl => ?_)
        refine lv_aload_n (pc := 76) hx hb dU_whole_76 rfl (lv_at hl 5 rfl) ?_
        refine lv_aload (pc := 77) hx hb dU_whole_77 (lv_at hl 4 rfl) ?_
        refine lv_lload (pc := 79) hx hb dU_whole_79 (lv_at hl 3 rfl) ?_
        refine lv_lload (pc := 81) hx hb dU_whole_81 (lv_at hl 0 rfl) ?_
        refine fu_V (pc := 83) (rest := []) ⟨hx, hb, hml, hown, hts⟩ (c_U_cut l ad D cA h0 r0 (fmt_lt _) md fl rg (rg k2.toNatClampNeg) (9223372036854775807 + 1)) (cwU_cut hts w_307 ⟨by decide, by decide⟩) hF hw hS rfl hl.1 rfl (Nat.le_of_ble_eq_true rfl) dU_whole_83 ⟨Nat.zero_le _, Nat.zero_le _⟩ (fun H locs hw hS => ?_)
        refine W.eq (g2 := F0 m 86 ls [.long ((C_U_cut md fl (C_U_format z1) (rg k2.toNatClampNeg) (9223372036854775807 + 1)).1)]) rfl ?_
        refine lv_lstore (lv' := [(12, .long ((C_U_cut md fl (C_U_format z1) (rg k2.toNatClampNeg) (9223372036854775807 + 1)).1)), (10, .long (9223372036854775807 + 1)), (8, .long 9223372036854775807), (7, .int (bI (C_F_isMinus (C_U_format z1) (rg k2.toNatClampNeg)))), (5, .long (rg k2.toNatClampNeg)), (4, .ref (ad (C_U_format z1))), (0, .ref h0), (1, .int (bI z1)), (2, .int k2), (3, .int (bI z3))]) (pc := 86) hx hb dU_whole_86 hl (by decide) rfl (fun ls hl => ?_)
        refine lv_iload (pc := 88) hx hb dU_whole_88 (lv_at hl 3 rfl) ?_
        refine lv_if_eq (tgt := 99) (pc := 90) hx hb dU_whole_90 (by decide) (fun h5 => ?_) (fun h5 => ?_)
        · exact absurd ((bI_0 _).1 h5) h3
        · skip
          refine lv_lload (pc := 93) hx hb dU_whole_93 (lv_at hl 0 rfl) ?_
          refine lv_lneg (pc := 95) hx hb dU_whole_95 ?_
          refine lv_goto (tgt := 101) (pc := 96) hx hb dU_whole_96 (by decide) ?_
          have he9 := (show (-((C_U_cut md fl (C_U_format z1) (rg k2.toNatClampNeg) (9223372036854775807 + 1)).1), (C_U_cut md fl (C_U_format z1) (rg k2.toNatClampNeg) (9223372036854775807 + 1)).2) = C_U_whole md fl rg z1 k2 z3 from by rw [C_U_whole, if_pos h1, if_pos h2, if_neg h3])
          exact hret _ _ _ _ _ _ _ _ (congrArg Prod.fst he9) rfl (congrArg Prod.snd he9) rfl hw hS dU_whole_101
    · skip
      have h2 : ¬ (z3 = false) := fun q => h2 ((bI_0 _).2 q)
      refine lv_ldc2 (v := 2147483647) (pc := 49) hx hb hown (hts _ (List.mem_cons_of_mem _ w_305)) dU_whole_49 ?_
      refine lv_goto (tgt := 58) (pc := 52) hx hb dU_whole_52 (by decide) ?_
      refine lv_lstore (lv' := [(8, .long 2147483647), (7, .int (bI (C_F_isMinus (C_U_format z1) (rg k2.toNatClampNeg)))), (5, .long (rg k2.toNatClampNeg)), (4, .ref (ad (C_U_format z1))), (0, .ref h0), (1, .int (bI z1)), (2, .int k2), (3, .int (bI z3))]) (pc := 58) hx hb dU_whole_58 hl (by decide) rfl (fun ls hl => ?_)
      refine lv_iload (pc := 60) hx hb dU_whole_60 (lv_at hl 1 rfl) ?_
      refine lv_if_eq (tgt := 72) (pc := 62) hx hb dU_whole_62 (by decide) (fun h6 => ?_) (fun h6 => ?_)
      · skip
        have h6 : (C_F_isMinus (C_U_format z1) (rg k2.toNatClampNeg)) = false := (bI_0 _).1 h6
        refine lv_lload (pc := 72) hx hb dU_whole_72 (lv_at hl 0 rfl) ?_
        refine lv_lstore (lv' := [(10, .long 2147483647), (8, .long 2147483647), (7, .int (bI (C_F_isMinus (C_U_format z1) (rg k2.toNatClampNeg)))), (5, .long (rg k2.toNatClampNeg)), (4, .ref (ad (C_U_format z1))), (0, .ref h0), (1, .int (bI z1)), (2, .int k2), (3, .int (bI z3))]) (pc := 74) hx hb dU_whole_74 hl (by decide) rfl (fun ls hl => ?_)
        refine lv_aload_n (pc := 76) hx hb dU_whole_76 rfl (lv_at hl 5 rfl) ?_
        refine lv_aload (pc := 77) hx hb dU_whole_77 (lv_at hl 4 rfl) ?_
        refine lv_lload (pc := 79) hx hb dU_whole_79 (lv_at hl 3 rfl) ?_
        refine lv_lload (pc := 81) hx hb dU_whole_81 (lv_at hl 0 rfl) ?_
        refine fu_V (pc := 83) (rest := []) ⟨hx, hb, hml, hown, hts⟩ (c_U_cut l ad D cA h0 r0 (fmt_lt _) md fl rg (rg k2.toNatClampNeg) 2147483647) (cwU_cut hts w_307 ⟨by decide, by decide⟩) hF hw hS rfl hl.1 rfl (Nat.le_of_ble_eq_true rfl) dU_whole_83 ⟨Nat.zero_le _, Nat.zero_le _⟩ (fun H locs hw hS => ?_)
        refine W.eq (g2 := F0 m 86 ls [.long ((C_U_cut md fl (C_U_format z1) (rg k2.toNatClampNeg) 2147483647).1)]) rfl ?_
        refine lv_lstore (lv' := [(12, .long ((C_U_cut md fl (C_U_format z1) (rg k2.toNatClampNeg) 2147483647).1)), (10, .long 2147483647), (8, .long 2147483647), (7, .int (bI (C_F_isMinus (C_U_format z1) (rg k2.toNatClampNeg)))), (5, .long (rg k2.toNatClampNeg)), (4, .ref (ad (C_U_format z1))), (0, .ref h0), (1, .int (bI z1)), (2, .int k2), (3, .int (bI z3))]) (pc := 86) hx hb dU_whole_86 hl (by decide) rfl (fun ls hl => ?_)
        refine lv_iload (pc := 88) hx hb dU_whole_88 (lv_at hl 3 rfl) ?_
        refine lv_if_eq (tgt := 99) (pc := 90) hx hb dU_whole_90 (by decide) (fun h7 => ?_) (fun h7 => ?_)
        · skip
          refine lv_lload (pc := 99) hx hb dU_whole_99 (lv_at hl 0 rfl) ?_
          have he9 := (show ((C_U_cut md fl (C_U_format z1) (rg k2.toNatClampNeg) 2147483647).1, (C_U_cut md fl (C_U_format z1) (rg k2.toNatClampNeg) 2147483647).2) = C_U_whole md fl rg z1 k2 z3 from by rw [C_U_whole, if_pos h1, if_neg h2, if_pos h6])
          exact hret _ _ _ _ _ _ _ _ (congrArg Prod.fst he9) rfl (congrArg Prod.snd he9) rfl hw hS dU_whole_101
        · exact absurd h6 (fun q => h7 ((bI_0 _).2 q))
      · skip
        have h6 : ¬ ((C_F_isMinus (C_U_format z1) (rg k2.toNatClampNeg)) = false) := fun q => h6 ((bI_0 _).2 q)
        refine lv_lload (pc := 65) hx hb dU_whole_65 (lv_at hl 0 rfl) ?_
        refine lv_lconst (v := 1) (pc := 67) hx hb dU_whole_67 (by decide) ?_
        refine lv_ladd (pc := 68) hx hb dU_whole_68 ?_
        refine lv_goto (tgt := 74) (pc := 69) hx hb dU_whole_69 (by decide) ?_
        refine lv_lstore (lv' := [(10, .long (2147483647 + 1)), (8, .long 2147483647), (7, .int (bI (C_F_isMinus (C_U_format z1) (rg k2.toNatClampNeg)))), (5, .long (rg k2.toNatClampNeg)), (4, .ref (ad (C_U_format z1))), (0, .ref h0), (1, .int (bI z1)), (2, .int k2), (3, .int (bI z3))]) (pc := 74) hx hb dU_whole_74 hl (by decide) rfl (fun ls hl => ?_)
        refine lv_aload_n (pc := 76) hx hb dU_whole_76 rfl (lv_at hl 5 rfl) ?_
        refine lv_aload (pc := 77) hx hb dU_whole_77 (lv_at hl 4 rfl) ?_
        refine lv_lload (pc := 79) hx hb dU_whole_79 (lv_at hl 3 rfl) ?_
        refine lv_lload (pc := 81) hx hb dU_whole_81 (lv_at hl 0 rfl) ?_
        refine fu_V (pc := 83) (rest := []) ⟨hx, hb, hml, hown, hts⟩ (c_U_cut l ad D cA h0 r0 (fmt_lt _) md fl rg (rg k2.toNatClampNeg) (2147483647 + 1)) (cwU_cut hts w_307 ⟨by decide, by decide⟩) hF hw hS rfl hl.1 rfl (Nat.le_of_ble_eq_true rfl) dU_whole_83 ⟨Nat.zero_le _, Nat.zero_le _⟩ (fun H locs hw hS => ?_)
        refine W.eq (g2 := F0 m 86 ls [.long ((C_U_cut md fl (C_U_format z1) (rg k2.toNatClampNeg) (2147483647 + 1)).1)]) rfl ?_
        refine lv_lstore (lv' := [(12, .long ((C_U_cut md fl (C_U_format z1) (rg k2.toNatClampNeg) (2147483647 + 1)).1)), (10, .long (2147483647 + 1)), (8, .long 2147483647), (7, .int (bI (C_F_isMinus (C_U_format z1) (rg k2.toNatClampNeg)))), (5, .long (rg k2.toNatClampNeg)), (4, .ref (ad (C_U_format z1))), (0, .ref h0), (1, .int (bI z1)), (2, .int k2), (3, .int (bI z3))]) (pc := 86) hx hb dU_whole_86 hl (by decide) rfl (fun ls hl => ?_)
        refine lv_iload (pc := 88) hx hb dU_whole_88 (lv_at hl 3 rfl) ?_
        refine lv_if_eq (tgt := 99) (pc := 90) hx hb dU_whole_90 (by decide) (fun h8 => ?_) (fun h8 => ?_)
        · exact absurd ((bI_0 _).1 h8) h6
        · skip
          refine lv_lload (pc := 93) hx hb dU_whole_93 (lv_at hl 0 rfl) ?_
          refine lv_lneg (pc := 95) hx hb dU_whole_95 ?_
          refine lv_goto (tgt := 101) (pc := 96) hx hb dU_whole_96 (by decide) ?_
          have he9 := (show (-((C_U_cut md fl (C_U_format z1) (rg k2.toNatClampNeg) (2147483647 + 1)).1), (C_U_cut md fl (C_U_format z1) (rg k2.toNatClampNeg) (2147483647 + 1)).2) = C_U_whole md fl rg z1 k2 z3 from by rw [C_U_whole, if_pos h1, if_neg h2, if_neg h6])
          exact hret _ _ _ _ _ _ _ _ (congrArg Prod.fst he9) rfl (congrArg Prod.snd he9) rfl hw hS dU_whole_101
  · skip
    have h1 : ¬ ((C_F_isNone (C_U_format z1) (rg k2.toNatClampNeg)) = false) := fun q => h1 ((bI_0 _).2 q)
    refine lv_aload_n (pc := 28) hx hb dU_whole_28 rfl (lv_at hl 2 rfl) ?_
    refine lv_bipush (v := 16) (pc := 29) hx hb dU_whole_29 (by decide) ?_
    refine fu_V (pc := 31) (rest := []) ⟨hx, hb, hml, hown, hts⟩ (c_U_raise l ad D cA h0 r0  md fl rg 16) (cwU_raise hts w_176 ⟨by decide, by decide⟩) hF hw hS rfl hl.1 rfl (Nat.le_of_ble_eq_true rfl) dU_whole_31 ⟨Nat.zero_le _, Nat.zero_le _⟩ (fun H locs hw hS => ?_)
    refine W.eq (g2 := F0 m 34 ls []) rfl ?_
    refine lv_lconst (v := 0) (pc := 34) hx hb dU_whole_34 (by decide) ?_
    have he9 := (show (0, C_U_raise md fl 16) = C_U_whole md fl rg z1 k2 z3 from by rw [C_U_whole, if_neg h1])
    exact hret _ _ _ _ _ _ _ _ (congrArg Prod.fst he9) rfl (congrArg Prod.snd he9) rfl hw hS dU_whole_35
def C_U_turn (md : Int32) (fl : Int32) (rg : Nat → Int64) (z1 : Bool) (k2 : Int32) (k3 : Int32) : Int64 × Int32 :=
  if z1 = false then
    ((C_U_turned md fl (C_U_format z1) (C_U_format true) (rg k3.toNatClampNeg)).1, (C_U_turned md fl (C_U_format z1) (C_U_format true) (rg k3.toNatClampNeg)).2)
  else
    ((C_U_turned md fl (C_U_format z1) (C_U_format false) (rg k3.toNatClampNeg)).1, (C_U_turned md fl (C_U_format z1) (C_U_format false) (rg k3.toNatClampNeg)).2)
abbrev rmU_turn : Room := { frames := 5, cells := 0, slots := 0, locals := 129 }
theorem cwU_turn {R : Room} {s : State} {args : Array Value} {w0 : Cond} {own : String} {idx : Nat} (hts : ∀ w ∈ (w0 :: bigW), w.before args s = true) (hl : Cond.methodLink own idx yU_turn ∈ bigW) (hR : rmU_turn.frames + 1 ≤ R.frames ∧ 8 + (4 + 11) + rmU_turn.locals ≤ R.locals) : CallW R s args own "FloatUnit" idx yU_turn cU_turn 4 (some .long) (wsM yU_turn cU_turn 4 (some .long)) rmU_turn 0 0 3 :=
  cwV 3 hts (big_V hl w_322 w_323 w_1 w_324) rfl rfl rfl ⟨rfl, by decide, by decide, by decide +kernel⟩ hR
set_option maxRecDepth 100000 in
set_option maxHeartbeats 8000000 in
theorem c_U_turn (l : Launch) (ad : Nat → Nat) (D : va_G) (cA : ClassId) (h0 r0 : Nat) (md fl : Int32) (rg : Nat → Int64) (z1 : Bool) (k2 : Int32) (k3 : Int32) (h_k2 : vp_in k2 16) (h_k3 : vp_in k3 16) : FuM l ad D cA h0 r0 yU_turn (wsM yU_turn cU_turn 4 (some .long)) rmU_turn [.int (bI z1), .int k2, .int k3] md fl rg (some (.long ((C_U_turn md fl rg z1 k2 k3).1))) md (C_U_turn md fl rg z1 k2 k3).2 (vp_updL rg k2.toNatClampNeg (C_U_turn md fl rg z1 k2 k3).1) := by
  refine fu_ofL (cc := cU_turn) (maxL := 4) (by decide) rfl (Nat.le_of_ble_eq_true rfl) ?_
  intro p e s m args below meth c Q hx hb hml hown hts hF H locs hS hw hret ls hl
  have hl : lv_has ls 4 [(0, .ref h0), (1, .int (bI z1)), (2, .int k2), (3, .int k3)] := hl
  refine lv_iload_n (pc := 0) hx hb dU_turn_0 rfl (lv_at hl 2 rfl) ?_
  refine pu_Sv (pc := 1) (rest := []) ⟨hx, hb, hml, hown, hts⟩ (c_U_requireRegister l ad h_k2) (cwU_requireRegister hts w_41 ⟨by decide, by decide⟩) hF hS rfl hl.1 rfl (Nat.le_of_ble_eq_true rfl) dU_turn_1 ⟨Nat.zero_le _, Nat.zero_le _⟩ ?_
  refine lv_iload_n (pc := 4) hx hb dU_turn_4 rfl (lv_at hl 3 rfl) ?_
  refine pu_Sv (pc := 5) (rest := []) ⟨hx, hb, hml, hown, hts⟩ (c_U_requireRegister l ad h_k3) (cwU_requireRegister hts w_41 ⟨by decide, by decide⟩) hF hS rfl hl.1 rfl (Nat.le_of_ble_eq_true rfl) dU_turn_5 ⟨Nat.zero_le _, Nat.zero_le _⟩ ?_
  refine lv_aload_n (pc := 8) hx hb dU_turn_8 rfl (lv_at hl 0 rfl) ?_
  refine lv_iload_n (pc := 9) hx hb dU_turn_9 rfl (lv_at hl 2 rfl) ?_
  refine lv_aload_n (pc := 10) hx hb dU_turn_10 rfl (lv_at hl 0 rfl) ?_
  refine lv_iload_n (pc := 11) hx hb dU_turn_11 rfl (lv_at hl 1 rfl) ?_
  refine pu_S (pc := 12) (rest := [.ref h0, .int k2, .ref h0]) ⟨hx, hb, hml, hown, hts⟩ (c_U_format l ad z1) (cwU_format hts w_133 ⟨by decide, by decide⟩) hF hS rfl hl.1 rfl (Nat.le_of_ble_eq_true rfl) dU_turn_12 ⟨Nat.zero_le _, Nat.zero_le _⟩ ?_
  refine lv_iload_n (pc := 15) hx hb dU_turn_15 rfl (lv_at hl 1 rfl) ?_
  refine lv_if_ne (tgt := 23) (pc := 16) hx hb dU_turn_16 (by decide) (fun h1 => ?_) (fun h1 => ?_)
  · skip
    have h1 : ¬ (z1 = false) := fun q => h1 ((bI_0 _).2 q)
    refine lv_iconst (v := 0) (pc := 23) hx hb dU_turn_23 (by decide) ?_
    refine pu_S (pc := 24) (rest := [.ref (ad (C_U_format z1)), .ref h0, .int k2, .ref h0]) ⟨hx, hb, hml, hown, hts⟩ (c_U_format l ad false) (cwU_format hts w_133 ⟨by decide, by decide⟩) hF hS rfl hl.1 rfl (Nat.le_of_ble_eq_true rfl) dU_turn_24 ⟨Nat.zero_le _, Nat.zero_le _⟩ ?_
    refine lv_aload_n (pc := 27) hx hb dU_turn_27 rfl (lv_at hl 0 rfl) ?_
    refine fu_rg (pc := 28) hx hb hts hown hw w_18 dU_turn_28 ?_
    refine lv_iload_n (pc := 31) hx hb dU_turn_31 rfl (lv_at hl 3 rfl) ?_
    refine fu_ld (pc := 32) hx hb hw h_k3 dU_turn_32 ?_
    refine fu_V (pc := 33) (rest := [.int k2, .ref h0]) ⟨hx, hb, hml, hown, hts⟩ (c_U_turned l ad D cA h0 r0 (fmt_lt _) (fmt_lt _) md fl rg (rg k3.toNatClampNeg)) (cwU_turned hts w_325 ⟨by decide, by decide⟩) hF hw hS rfl hl.1 rfl (Nat.le_of_ble_eq_true rfl) dU_turn_33 ⟨Nat.zero_le _, Nat.zero_le _⟩ (fun H locs hw hS => ?_)
    refine W.eq (g2 := F0 m 36 ls [.long ((C_U_turned md fl (C_U_format z1) (C_U_format false) (rg k3.toNatClampNeg)).1), .int k2, .ref h0]) rfl ?_
    refine fu_V (pc := 36) (rest := []) ⟨hx, hb, hml, hown, hts⟩ (c_U_keep l ad D cA h0 r0 md ((C_U_turned md fl (C_U_format z1) (C_U_format false) (rg k3.toNatClampNeg)).2) rg k2 ((C_U_turned md fl (C_U_format z1) (C_U_format false) (rg k3.toNatClampNeg)).1) h_k2) (cwU_keep hts w_275 ⟨by decide, by decide⟩) hF hw hS rfl hl.1 rfl (Nat.le_of_ble_eq_true rfl) dU_turn_36 ⟨Nat.zero_le _, Nat.zero_le _⟩ (fun H locs hw hS => ?_)
    refine W.eq (g2 := F0 m 39 ls [.long ((C_U_turned md fl (C_U_format z1) (C_U_format false) (rg k3.toNatClampNeg)).1)]) rfl ?_
    have he9 := (show ((C_U_turned md fl (C_U_format z1) (C_U_format false) (rg k3.toNatClampNeg)).1, (C_U_turned md fl (C_U_format z1) (C_U_format false) (rg k3.toNatClampNeg)).2) = C_U_turn md fl rg z1 k2 k3 from by rw [C_U_turn, if_neg h1])
    exact hret _ _ _ _ _ _ _ _ (congrArg Prod.fst he9) rfl (congrArg Prod.snd he9) (congrArg (vp_updL rg k2.toNatClampNeg) (congrArg Prod.fst he9)) hw hS dU_turn_39
  · skip
    have h1 : z1 = false := (bI_0 _).1 h1
    refine lv_iconst (v := 1) (pc := 19) hx hb dU_turn_19 (by decide) ?_
    refine lv_goto (tgt := 24) (pc := 20) hx hb dU_turn_20 (by decide) ?_
    refine pu_S (pc := 24) (rest := [.ref (ad (C_U_format z1)), .ref h0, .int k2, .ref h0]) ⟨hx, hb, hml, hown, hts⟩ (c_U_format l ad true) (cwU_format hts w_133 ⟨by decide, by decide⟩) hF hS rfl hl.1 rfl (Nat.le_of_ble_eq_true rfl) dU_turn_24 ⟨Nat.zero_le _, Nat.zero_le _⟩ ?_
    refine lv_aload_n (pc := 27) hx hb dU_turn_27 rfl (lv_at hl 0 rfl) ?_
    refine fu_rg (pc := 28) hx hb hts hown hw w_18 dU_turn_28 ?_
    refine lv_iload_n (pc := 31) hx hb dU_turn_31 rfl (lv_at hl 3 rfl) ?_
    refine fu_ld (pc := 32) hx hb hw h_k3 dU_turn_32 ?_
    refine fu_V (pc := 33) (rest := [.int k2, .ref h0]) ⟨hx, hb, hml, hown, hts⟩ (c_U_turned l ad D cA h0 r0 (fmt_lt _) (fmt_lt _) md fl rg (rg k3.toNatClampNeg)) (cwU_turned hts w_325 ⟨by decide, by decide⟩) hF hw hS rfl hl.1 rfl (Nat.le_of_ble_eq_true rfl) dU_turn_33 ⟨Nat.zero_le _, Nat.zero_le _⟩ (fun H locs hw hS => ?_)
    refine W.eq (g2 := F0 m 36 ls [.long ((C_U_turned md fl (C_U_format z1) (C_U_format true) (rg k3.toNatClampNeg)).1), .int k2, .ref h0]) rfl ?_
    refine fu_V (pc := 36) (rest := []) ⟨hx, hb, hml, hown, hts⟩ (c_U_keep l ad D cA h0 r0 md ((C_U_turned md fl (C_U_format z1) (C_U_format true) (rg k3.toNatClampNeg)).2) rg k2 ((C_U_turned md fl (C_U_format z1) (C_U_format true) (rg k3.toNatClampNeg)).1) h_k2) (cwU_keep hts w_275 ⟨by decide, by decide⟩) hF hw hS rfl hl.1 rfl (Nat.le_of_ble_eq_true rfl) dU_turn_36 ⟨Nat.zero_le _, Nat.zero_le _⟩ (fun H locs hw hS => ?_)
    refine W.eq (g2 := F0 m 39 ls [.long ((C_U_turned md fl (C_U_format z1) (C_U_format true) (rg k3.toNatClampNeg)).1)]) rfl ?_
    have he9 := (show ((C_U_turned md fl (C_U_format z1) (C_U_format true) (rg k3.toNatClampNeg)).1, (C_U_turned md fl (C_U_format z1) (C_U_format true) (rg k3.toNatClampNeg)).2) = C_U_turn md fl rg z1 k2 k3 from by rw [C_U_turn, if_pos h1])
    exact hret _ _ _ _ _ _ _ _ (congrArg Prod.fst he9) rfl (congrArg Prod.snd he9) (congrArg (vp_updL rg k2.toNatClampNeg) (congrArg Prod.fst he9)) hw hS dU_turn_39
def C_U_kind (md : Int32) (fl : Int32) (rg : Nat → Int64) (z1 : Bool) (k2 : Int32) : Int32 :=
  if (C_F_isMinus (C_U_format z1) (rg k2.toNatClampNeg)) = false then
    C_F_sort (C_U_format z1) (rg k2.toNatClampNeg)
  else
    (C_F_sort (C_U_format z1) (rg k2.toNatClampNeg)) + 8
abbrev rmU_kind : Room := { frames := 3, cells := 0, slots := 0, locals := 66 }
theorem cwU_kind {R : Room} {s : State} {args : Array Value} {w0 : Cond} {own : String} {idx : Nat} (hts : ∀ w ∈ (w0 :: bigW), w.before args s = true) (hl : Cond.methodLink own idx yU_kind ∈ bigW) (hR : rmU_kind.frames + 1 ≤ R.frames ∧ 8 + (5 + 11) + rmU_kind.locals ≤ R.locals) : CallW R s args own "FloatUnit" idx yU_kind cU_kind 5 (some .int) (wsM yU_kind cU_kind 5 (some .int)) rmU_kind 0 0 2 :=
  cwV 2 hts (big_V hl w_333 w_334 w_1 w_335) rfl rfl rfl ⟨rfl, by decide, by decide, by decide +kernel⟩ hR
set_option maxRecDepth 100000 in
set_option maxHeartbeats 8000000 in
theorem c_U_kind (l : Launch) (ad : Nat → Nat) (D : va_G) (cA : ClassId) (h0 r0 : Nat) (md fl : Int32) (rg : Nat → Int64) (z1 : Bool) (k2 : Int32) (h_k2 : vp_in k2 16) : FuM l ad D cA h0 r0 yU_kind (wsM yU_kind cU_kind 5 (some .int)) rmU_kind [.int (bI z1), .int k2] md fl rg (some (.int (C_U_kind md fl rg z1 k2))) md fl rg := by
  refine fu_ofI (cc := cU_kind) (maxL := 5) (by decide) rfl (Nat.le_of_ble_eq_true rfl) ?_
  intro p e s m args below meth c Q hx hb hml hown hts hF H locs hS hw hret ls hl
  have hl : lv_has ls 5 [(0, .ref h0), (1, .int (bI z1)), (2, .int k2)] := hl
  refine lv_iload_n (pc := 0) hx hb dU_kind_0 rfl (lv_at hl 2 rfl) ?_
  refine pu_Sv (pc := 1) (rest := []) ⟨hx, hb, hml, hown, hts⟩ (c_U_requireRegister l ad h_k2) (cwU_requireRegister hts w_41 ⟨by decide, by decide⟩) hF hS rfl hl.1 rfl (Nat.le_of_ble_eq_true rfl) dU_kind_1 ⟨Nat.zero_le _, Nat.zero_le _⟩ ?_
  refine lv_iload_n (pc := 4) hx hb dU_kind_4 rfl (lv_at hl 1 rfl) ?_
  refine pu_S (pc := 5) (rest := []) ⟨hx, hb, hml, hown, hts⟩ (c_U_format l ad z1) (cwU_format hts w_133 ⟨by decide, by decide⟩) hF hS rfl hl.1 rfl (Nat.le_of_ble_eq_true rfl) dU_kind_5 ⟨Nat.zero_le _, Nat.zero_le _⟩ ?_
  refine lv_astore_n (lv' := [(3, .ref (ad (C_U_format z1))), (0, .ref h0), (1, .int (bI z1)), (2, .int k2)]) (pc := 8) hx hb dU_kind_8 rfl hl (by decide) rfl (fun ls hl => ?_)
  refine lv_aload_n (pc := 9) hx hb dU_kind_9 rfl (lv_at hl 0 rfl) ?_
  refine lv_aload_n (pc := 10) hx hb dU_kind_10 rfl (lv_at hl 1 rfl) ?_
  refine fu_rg (pc := 11) hx hb hts hown hw w_18 dU_kind_11 ?_
  refine lv_iload_n (pc := 14) hx hb dU_kind_14 rfl (lv_at hl 3 rfl) ?_
  refine fu_ld (pc := 15) hx hb hw h_k2 dU_kind_15 ?_
  refine pu_V (pc := 16) (i := C_U_format z1) (rest := []) ⟨hx, hb, hml, hown, hts⟩ (fmt_lt _) (c_F_sort l ad (fmt_lt _) (rg k2.toNatClampNeg)) (cwF_sort hts w_336 ⟨by decide, by decide⟩) hF hS rfl hl.1 rfl (Nat.le_of_ble_eq_true rfl) dU_kind_16 ⟨Nat.zero_le _, Nat.zero_le _⟩ ?_
  refine lv_istore (lv' := [(4, .int (C_F_sort (C_U_format z1) (rg k2.toNatClampNeg))), (3, .ref (ad (C_U_format z1))), (0, .ref h0), (1, .int (bI z1)), (2, .int k2)]) (pc := 19) hx hb dU_kind_19 hl (by decide) rfl (fun ls hl => ?_)
  refine lv_aload_n (pc := 21) hx hb dU_kind_21 rfl (lv_at hl 1 rfl) ?_
  refine lv_aload_n (pc := 22) hx hb dU_kind_22 rfl (lv_at hl 2 rfl) ?_
  refine fu_rg (pc := 23) hx hb hts hown hw w_18 dU_kind_23 ?_
  refine lv_iload_n (pc := 26) hx hb dU_kind_26 rfl (lv_at hl 4 rfl) ?_
  refine fu_ld (pc := 27) hx hb hw h_k2 dU_kind_27 ?_
  refine pu_V (pc := 28) (i := C_U_format z1) (rest := []) ⟨hx, hb, hml, hown, hts⟩ (fmt_lt _) (c_F_isMinus l ad (fmt_lt _) (rg k2.toNatClampNeg)) (cwF_isMinus hts w_164 ⟨by decide, by decide⟩) hF hS rfl hl.1 rfl (Nat.le_of_ble_eq_true rfl) dU_kind_28 ⟨Nat.zero_le _, Nat.zero_le _⟩ ?_
  refine lv_if_eq (tgt := 42) (pc := 31) hx hb dU_kind_31 (by decide) (fun h1 => ?_) (fun h1 => ?_)
  · skip
    have h1 : (C_F_isMinus (C_U_format z1) (rg k2.toNatClampNeg)) = false := (bI_0 _).1 h1
    refine lv_iload (pc := 42) hx hb dU_kind_42 (lv_at hl 0 rfl) ?_
    exact hret _ _ _ _ _ _ _ _ (show C_F_sort (C_U_format z1) (rg k2.toNatClampNeg) = C_U_kind md fl rg z1 k2 from by rw [C_U_kind, if_pos h1]) rfl rfl rfl hw hS dU_kind_44
  · skip
    have h1 : ¬ ((C_F_isMinus (C_U_format z1) (rg k2.toNatClampNeg)) = false) := fun q => h1 ((bI_0 _).2 q)
    refine lv_iload (pc := 34) hx hb dU_kind_34 (lv_at hl 0 rfl) ?_
    refine lv_bipush (v := 8) (pc := 36) hx hb dU_kind_36 (by decide) ?_
    refine lv_iadd (pc := 38) hx hb dU_kind_38 ?_
    refine lv_goto (tgt := 44) (pc := 39) hx hb dU_kind_39 (by decide) ?_
    exact hret _ _ _ _ _ _ _ _ (show (C_F_sort (C_U_format z1) (rg k2.toNatClampNeg)) + 8 = C_U_kind md fl rg z1 k2 from by rw [C_U_kind, if_neg h1]) rfl rfl rfl hw hS dU_kind_44
def C_U_negate (md : Int32) (fl : Int32) (rg : Nat → Int64) (z1 : Bool) (k2 : Int32) (k3 : Int32) : Int64 × Int32 :=
  if (C_F_isNone (C_U_format z1) (C_F_own (C_U_format z1) (rg k3.toNatClampNeg))) = false then
    (C_F_opposite (C_U_format z1) (C_F_own (C_U_format z1) (rg k3.toNatClampNeg)), fl)
  else
    (C_F_none (C_U_format z1), fl)
abbrev rmU_negate : Room := { frames := 2, cells := 0, slots := 0, locals := 44 }
theorem cwU_negate {R : Room} {s : State} {args : Array Value} {w0 : Cond} {own : String} {idx : Nat} (hts : ∀ w ∈ (w0 :: bigW), w.before args s = true) (hl : Cond.methodLink own idx yU_negate ∈ bigW) (hR : rmU_negate.frames + 1 ≤ R.frames ∧ 8 + (7 + 11) + rmU_negate.locals ≤ R.locals) : CallW R s args own "FloatUnit" idx yU_negate cU_negate 7 (some .long) (wsM yU_negate cU_negate 7 (some .long)) rmU_negate 0 0 3 :=
  cwV 3 hts (big_V hl w_347 w_348 w_1 w_349) rfl rfl rfl ⟨rfl, by decide, by decide, by decide +kernel⟩ hR
set_option maxRecDepth 100000 in
set_option maxHeartbeats 8000000 in
theorem c_U_negate (l : Launch) (ad : Nat → Nat) (D : va_G) (cA : ClassId) (h0 r0 : Nat) (md fl : Int32) (rg : Nat → Int64) (z1 : Bool) (k2 : Int32) (k3 : Int32) (h_k2 : vp_in k2 16) (h_k3 : vp_in k3 16) : FuM l ad D cA h0 r0 yU_negate (wsM yU_negate cU_negate 7 (some .long)) rmU_negate [.int (bI z1), .int k2, .int k3] md fl rg (some (.long ((C_U_negate md fl rg z1 k2 k3).1))) md (C_U_negate md fl rg z1 k2 k3).2 (vp_updL rg k2.toNatClampNeg (C_U_negate md fl rg z1 k2 k3).1) := by
  refine fu_ofL (cc := cU_negate) (maxL := 7) (by decide) rfl (Nat.le_of_ble_eq_true rfl) ?_
  intro p e s m args below meth c Q hx hb hml hown hts hF H locs hS hw hret ls hl
  have hl : lv_has ls 7 [(0, .ref h0), (1, .int (bI z1)), (2, .int k2), (3, .int k3)] := hl
  refine lv_iload_n (pc := 0) hx hb dU_negate_0 rfl (lv_at hl 2 rfl) ?_
  refine pu_Sv (pc := 1) (rest := []) ⟨hx, hb, hml, hown, hts⟩ (c_U_requireRegister l ad h_k2) (cwU_requireRegister hts w_41 ⟨by decide, by decide⟩) hF hS rfl hl.1 rfl (Nat.le_of_ble_eq_true rfl) dU_negate_1 ⟨Nat.zero_le _, Nat.zero_le _⟩ ?_
  refine lv_iload_n (pc := 4) hx hb dU_negate_4 rfl (lv_at hl 3 rfl) ?_
  refine pu_Sv (pc := 5) (rest := []) ⟨hx, hb, hml, hown, hts⟩ (c_U_requireRegister l ad h_k3) (cwU_requireRegister hts w_41 ⟨by decide, by decide⟩) hF hS rfl hl.1 rfl (Nat.le_of_ble_eq_true rfl) dU_negate_5 ⟨Nat.zero_le _, Nat.zero_le _⟩ ?_
  refine lv_iload_n (pc := 8) hx hb dU_negate_8 rfl (lv_at hl 1 rfl) ?_
  refine pu_S (pc := 9) (rest := []) ⟨hx, hb, hml, hown, hts⟩ (c_U_format l ad z1) (cwU_format hts w_133 ⟨by decide, by decide⟩) hF hS rfl hl.1 rfl (Nat.le_of_ble_eq_true rfl) dU_negate_9 ⟨Nat.zero_le _, Nat.zero_le _⟩ ?_
  refine lv_astore (lv' := [(4, .ref (ad (C_U_format z1))), (0, .ref h0), (1, .int (bI z1)), (2, .int k2), (3, .int k3)]) (pc := 12) hx hb dU_negate_12 hl (by decide) rfl (fun ls hl => ?_)
  refine lv_aload (pc := 14) hx hb dU_negate_14 (lv_at hl 0 rfl) ?_
  refine lv_aload_n (pc := 16) hx hb dU_negate_16 rfl (lv_at hl 1 rfl) ?_
  refine fu_rg (pc := 17) hx hb hts hown hw w_18 dU_negate_17 ?_
  refine lv_iload_n (pc := 20) hx hb dU_negate_20 rfl (lv_at hl 4 rfl) ?_
  refine fu_ld (pc := 21) hx hb hw h_k3 dU_negate_21 ?_
  refine pu_V (pc := 22) (i := C_U_format z1) (rest := []) ⟨hx, hb, hml, hown, hts⟩ (fmt_lt _) (c_F_own l ad (fmt_lt _) (rg k3.toNatClampNeg)) (cwF_own hts w_140 ⟨by decide, by decide⟩) hF hS rfl hl.1 rfl (Nat.le_of_ble_eq_true rfl) dU_negate_22 ⟨Nat.zero_le _, Nat.zero_le _⟩ ?_
  refine lv_lstore (lv' := [(5, .long (C_F_own (C_U_format z1) (rg k3.toNatClampNeg))), (4, .ref (ad (C_U_format z1))), (0, .ref h0), (1, .int (bI z1)), (2, .int k2), (3, .int k3)]) (pc := 25) hx hb dU_negate_25 hl (by decide) rfl (fun ls hl => ?_)
  refine lv_aload_n (pc := 27) hx hb dU_negate_27 rfl (lv_at hl 2 rfl) ?_
  refine lv_iload_n (pc := 28) hx hb dU_negate_28 rfl (lv_at hl 4 rfl) ?_
  refine lv_aload (pc := 29) hx hb dU_negate_29 (lv_at hl 1 rfl) ?_
  refine lv_lload (pc := 31) hx hb dU_negate_31 (lv_at hl 0 rfl) ?_
  refine pu_V (pc := 33) (i := C_U_format z1) (rest := [.int k2, .ref h0]) ⟨hx, hb, hml, hown, hts⟩ (fmt_lt _) (c_F_isNone l ad (fmt_lt _) (C_F_own (C_U_format z1) (rg k3.toNatClampNeg))) (cwF_isNone hts w_148 ⟨by decide, by decide⟩) hF hS rfl hl.1 rfl (Nat.le_of_ble_eq_true rfl) dU_negate_33 ⟨Nat.zero_le _, Nat.zero_le _⟩ ?_
  refine lv_if_eq (tgt := 47) (pc := 36) hx hb dU_negate_36 (by decide) (fun h1 => ?_) (fun h1 => ?_)
  · skip
    have h1 : (C_F_isNone (C_U_format z1) (C_F_own (C_U_format z1) (rg k3.toNatClampNeg))) = false := (bI_0 _).1 h1
    refine lv_aload (pc := 47) hx hb dU_negate_47 (lv_at hl 1 rfl) ?_
    refine lv_lload (pc := 49) hx hb dU_negate_49 (lv_at hl 0 rfl) ?_
    refine pu_V (pc := 51) (i := C_U_format z1) (rest := [.int k2, .ref h0]) ⟨hx, hb, hml, hown, hts⟩ (fmt_lt _) (c_F_opposite l ad (fmt_lt _) (C_F_own (C_U_format z1) (rg k3.toNatClampNeg))) (cwF_opposite hts w_244 ⟨by decide, by decide⟩) hF hS rfl hl.1 rfl (Nat.le_of_ble_eq_true rfl) dU_negate_51 ⟨Nat.zero_le _, Nat.zero_le _⟩ ?_
    refine fu_V (pc := 54) (rest := []) ⟨hx, hb, hml, hown, hts⟩ (c_U_keep l ad D cA h0 r0 md fl rg k2 (C_F_opposite (C_U_format z1) (C_F_own (C_U_format z1) (rg k3.toNatClampNeg))) h_k2) (cwU_keep hts w_275 ⟨by decide, by decide⟩) hF hw hS rfl hl.1 rfl (Nat.le_of_ble_eq_true rfl) dU_negate_54 ⟨Nat.zero_le _, Nat.zero_le _⟩ (fun H locs hw hS => ?_)
    refine W.eq (g2 := F0 m 57 ls [.long (C_F_opposite (C_U_format z1) (C_F_own (C_U_format z1) (rg k3.toNatClampNeg)))]) rfl ?_
    have he9 := (show (C_F_opposite (C_U_format z1) (C_F_own (C_U_format z1) (rg k3.toNatClampNeg)), fl) = C_U_negate md fl rg z1 k2 k3 from by rw [C_U_negate, if_pos h1])
    exact hret _ _ _ _ _ _ _ _ (congrArg Prod.fst he9) rfl (congrArg Prod.snd he9) (congrArg (vp_updL rg k2.toNatClampNeg) (congrArg Prod.fst he9)) hw hS dU_negate_57
  · skip
    have h1 : ¬ ((C_F_isNone (C_U_format z1) (C_F_own (C_U_format z1) (rg k3.toNatClampNeg))) = false) := fun q => h1 ((bI_0 _).2 q)
    refine lv_aload (pc := 39) hx hb dU_negate_39 (lv_at hl 1 rfl) ?_
    refine pu_V (pc := 41) (i := C_U_format z1) (rest := [.int k2, .ref h0]) ⟨hx, hb, hml, hown, hts⟩ (fmt_lt _) (c_F_none l ad (fmt_lt _)) (cwF_none hts w_156 ⟨by decide, by decide⟩) hF hS rfl hl.1 rfl (Nat.le_of_ble_eq_true rfl) dU_negate_41 ⟨Nat.zero_le _, Nat.zero_le _⟩ ?_
    refine lv_goto (tgt := 54) (pc := 44) hx hb dU_negate_44 (by decide) ?_
    refine fu_V (pc := 54) (rest := []) ⟨hx, hb, hml, hown, hts⟩ (c_U_keep l ad D cA h0 r0 md fl rg k2 (C_F_none (C_U_format z1)) h_k2) (cwU_keep hts w_275 ⟨by decide, by decide⟩) hF hw hS rfl hl.1 rfl (Nat.le_of_ble_eq_true rfl) dU_negate_54 ⟨Nat.zero_le _, Nat.zero_le _⟩ (fun H locs hw hS => ?_)
    refine W.eq (g2 := F0 m 57 ls [.long (C_F_none (C_U_format z1))]) rfl ?_
    have he9 := (show (C_F_none (C_U_format z1), fl) = C_U_negate md fl rg z1 k2 k3 from by rw [C_U_negate, if_neg h1])
    exact hret _ _ _ _ _ _ _ _ (congrArg Prod.fst he9) rfl (congrArg Prod.snd he9) (congrArg (vp_updL rg k2.toNatClampNeg) (congrArg Prod.fst he9)) hw hS dU_negate_57
end
section
/-! The reference's object: four cells (object, two rows of bits, registers). MS is its state: (mode, flags, err, kindX, kindY, signX, signY, powerX, powerY), (partX, partY), (precision, bias), row, other, registers. -/
abbrev MS : Type := (Int32 × Int32 × Int32 × Int32 × Int32 × Int32 × Int32 × Int32 × Int32) × (Int64 × Int64) × (Int32 × Int32) × (Nat → Int32) × (Nat → Int32) × (Nat → Int64)
abbrev MOc (m0 ra rb rc : Nat) (cI cL : ClassId) (S : MS) : va_W := match S with
  | ((md, fl, er, kx, ky, sx, sy, px, py), (fx, fy), (pr, bi), row, oth, rg) => [(m0, .inr (1, [.ref ra, .ref rb, .ref rc, .int md, .int fl, .int er, .int kx, .int ky, .int sx, .int sy, .int px, .int py, .long fx, .long fy, .int pr, .int bi])), (ra, .inl (cI, 2200, .inl row)), (rb, .inl (cI, 2200, .inl oth)), (rc, .inl (cL, 16, .inr (.inl rg)))]
def mA (m0 ra rb rc : Nat) : Nat → Prop := fun q => q = m0 ∨ q = ra ∨ q = rb ∨ q = rc
def MOw (D : va_G) (cI cL : ClassId) (m0 ra rb rc : Nat) (S : MS) (U : State) (H : Heap) : Prop :=
  va_P D clW (MOc m0 ra rb rc cI cL S) H ∧ va_K D clW [(cI, .int), (cL, .long)] U ∧ va_D (mA m0 ra rb rc) (MOc m0 ra rb rc cI cL S)
def MoM (l : Launch) (D : va_G) (cI cL : ClassId) (m0 ra rb rc : Nat) (y : MethodName) (ws : List Cond) (rm : Room) (av : List Value) (S : MS) (ov : Option Value) (S1 : MS) : Prop :=
  Met l y ws rm (va_Pc (.ref m0 :: av) (fun U => MOw D cI cL m0 ra rb rc S U U.heap)) (fun _ st oc t => oc = .returned ov ∧ MOw D cI cL m0 ra rb rc S1 t t.heap ∧ va_F (mA m0 ra rb rc) st t) 0 0 (mA m0 ra rb rc)
section MO
variable {p : Program} {l : Launch} {e : Env} {R : Room} {s : State} {m : MethodId} {args : Array Value} {below : List Frame} {meth : Method} {c : Code} {H : Heap} {locs : List Loc} {cells slots : Nat} {Q : State → Prop}
variable {w0 : Cond} {Ts ws ws' : List Cond} {cc bytes : ByteArray} {nL maxL index n : Nat} {own ref : String} {y : MethodName} {ret : Option FieldType} {rm : Room} {As av rest st : List Value} {pc : Nat} {ls : Array Slot}
variable {D : va_G} {cI cL : ClassId} {m0 ra rb rc : Nat} {md fl er kx ky sx sy px py : Int32} {fx fy : Int64} {pr bi : Int32} {row oth : Nat → Int32} {rg : Nat → Int64} {S S1 : MS} {ov : Option Value} {H0 : Heap}
theorem mow_moved {u U : State} (hvm : u.vm.Alike U.vm) (h : MOw D cI cL m0 ra rb rc S u H) : MOw D cI cL m0 ra rb rc S U H := ⟨h.1, va_K.moved hvm h.2.1, h.2.2⟩
theorem arrV_congr {cA : ClassId} {N : Nat} {f g : Nat → Value} (h : ∀ j, j < N → f j = g j) : arrV cA N f = arrV cA N g := by
  unfold arrV
  congr 2
  funext j
  exact h j.val j.isLt

theorem mo_g_row (hx : p.tables.exec = Jvm.exec) (hb : c.code = cc) (hts : ∀ w ∈ (w0 :: bigW), w.before args s = true) (hown : s.vm.findClass own = some m.cls) (hw : MOw D cI cL m0 ra rb rc ((md, fl, er, kx, ky, sx, sy, px, py), (fx, fy), (pr, bi), row, oth, rg) s H) (hlink : Cond.fieldLink own index "FloatUnitModel" "row" "[I" ∈ bigW) (hdg : decode cc pc = .ok (.getfield index, 3)) (kk : W p l e R s m args below meth c H locs cells slots Q (F0 m (pc + 3) ls (.ref ra :: rest))) : W p l e R s m args below meth c H locs cells slots Q (F0 m pc ls (.ref m0 :: rest)) :=
  va_get (D := D) (ci := 1) (C := "FloatUnitModel") (T := TM) (N := 16) hx hb hts uwM hown hw.2.1 hw.1 0 rfl rfl 0 (by decide) (hts _ (List.mem_cons_of_mem _ hlink)) (fun _ h => h) rfl hdg kk
theorem mo_g_other (hx : p.tables.exec = Jvm.exec) (hb : c.code = cc) (hts : ∀ w ∈ (w0 :: bigW), w.before args s = true) (hown : s.vm.findClass own = some m.cls) (hw : MOw D cI cL m0 ra rb rc ((md, fl, er, kx, ky, sx, sy, px, py), (fx, fy), (pr, bi), row, oth, rg) s H) (hlink : Cond.fieldLink own index "FloatUnitModel" "other" "[I" ∈ bigW) (hdg : decode cc pc = .ok (.getfield index, 3)) (kk : W p l e R s m args below meth c H locs cells slots Q (F0 m (pc + 3) ls (.ref rb :: rest))) : W p l e R s m args below meth c H locs cells slots Q (F0 m pc ls (.ref m0 :: rest)) :=
  va_get (D := D) (ci := 1) (C := "FloatUnitModel") (T := TM) (N := 16) hx hb hts uwM hown hw.2.1 hw.1 0 rfl rfl 1 (by decide) (hts _ (List.mem_cons_of_mem _ hlink)) (fun _ h => h) rfl hdg kk
theorem mo_g_registers (hx : p.tables.exec = Jvm.exec) (hb : c.code = cc) (hts : ∀ w ∈ (w0 :: bigW), w.before args s = true) (hown : s.vm.findClass own = some m.cls) (hw : MOw D cI cL m0 ra rb rc ((md, fl, er, kx, ky, sx, sy, px, py), (fx, fy), (pr, bi), row, oth, rg) s H) (hlink : Cond.fieldLink own index "FloatUnitModel" "registers" "[J" ∈ bigW) (hdg : decode cc pc = .ok (.getfield index, 3)) (kk : W p l e R s m args below meth c H locs cells slots Q (F0 m (pc + 3) ls (.ref rc :: rest))) : W p l e R s m args below meth c H locs cells slots Q (F0 m pc ls (.ref m0 :: rest)) :=
  va_get (D := D) (ci := 1) (C := "FloatUnitModel") (T := TM) (N := 16) hx hb hts uwM hown hw.2.1 hw.1 0 rfl rfl 2 (by decide) (hts _ (List.mem_cons_of_mem _ hlink)) (fun _ h => h) rfl hdg kk
theorem mo_g_mode (hx : p.tables.exec = Jvm.exec) (hb : c.code = cc) (hts : ∀ w ∈ (w0 :: bigW), w.before args s = true) (hown : s.vm.findClass own = some m.cls) (hw : MOw D cI cL m0 ra rb rc ((md, fl, er, kx, ky, sx, sy, px, py), (fx, fy), (pr, bi), row, oth, rg) s H) (hlink : Cond.fieldLink own index "FloatUnitModel" "mode" "I" ∈ bigW) (hdg : decode cc pc = .ok (.getfield index, 3)) (kk : W p l e R s m args below meth c H locs cells slots Q (F0 m (pc + 3) ls (.int md :: rest))) : W p l e R s m args below meth c H locs cells slots Q (F0 m pc ls (.ref m0 :: rest)) :=
  va_get (D := D) (ci := 1) (C := "FloatUnitModel") (T := TM) (N := 16) hx hb hts uwM hown hw.2.1 hw.1 0 rfl rfl 3 (by decide) (hts _ (List.mem_cons_of_mem _ hlink)) (fun _ h => h) rfl hdg kk
theorem mo_p_mode (hx : p.tables.exec = Jvm.exec) (hb : c.code = cc) (hts : ∀ w ∈ (w0 :: bigW), w.before args s = true) (hown : s.vm.findClass own = some m.cls) (hw : MOw D cI cL m0 ra rb rc ((md, fl, er, kx, ky, sx, sy, px, py), (fx, fy), (pr, bi), row, oth, rg) s H) (hS : va_S (mA m0 ra rb rc) H0 H locs) (hlink : Cond.fieldLink own index "FloatUnitModel" "mode" "I" ∈ bigW) {v : Int32} (hdg : decode cc pc = .ok (.putfield index, 3)) (kk : ∀ (H1 : Heap) (locs1 : List Loc), MOw D cI cL m0 ra rb rc ((v, fl, er, kx, ky, sx, sy, px, py), (fx, fy), (pr, bi), row, oth, rg) s H1 → va_S (mA m0 ra rb rc) H0 H1 locs1 → W p l e R s m args below meth c H1 locs1 cells slots Q (F0 m (pc + 3) ls rest)) : W p l e R s m args below meth c H locs cells slots Q (F0 m pc ls (.int v :: .ref m0 :: rest)) :=
  va_put (D := D) (ci := 1) (C := "FloatUnitModel") (T := TM) (N := 16) (ty := .int) hx hb hts uwM tyM tyM_ok nmM hown hw.2.1 hw.1 hw.2.2 hS 0 rfl rfl 3 (by decide) (hts _ (List.mem_cons_of_mem _ hlink)) (fun _ h => h) rfl (by decide +kernel) rfl rfl (Nat.le_of_ble_eq_true rfl) hdg (fun H1 locs1 hP hD hS => kk H1 locs1 ⟨hP, hw.2.1, hD⟩ hS)
theorem mo_g_flags (hx : p.tables.exec = Jvm.exec) (hb : c.code = cc) (hts : ∀ w ∈ (w0 :: bigW), w.before args s = true) (hown : s.vm.findClass own = some m.cls) (hw : MOw D cI cL m0 ra rb rc ((md, fl, er, kx, ky, sx, sy, px, py), (fx, fy), (pr, bi), row, oth, rg) s H) (hlink : Cond.fieldLink own index "FloatUnitModel" "flags" "I" ∈ bigW) (hdg : decode cc pc = .ok (.getfield index, 3)) (kk : W p l e R s m args below meth c H locs cells slots Q (F0 m (pc + 3) ls (.int fl :: rest))) : W p l e R s m args below meth c H locs cells slots Q (F0 m pc ls (.ref m0 :: rest)) :=
  va_get (D := D) (ci := 1) (C := "FloatUnitModel") (T := TM) (N := 16) hx hb hts uwM hown hw.2.1 hw.1 0 rfl rfl 4 (by decide) (hts _ (List.mem_cons_of_mem _ hlink)) (fun _ h => h) rfl hdg kk
theorem mo_p_flags (hx : p.tables.exec = Jvm.exec) (hb : c.code = cc) (hts : ∀ w ∈ (w0 :: bigW), w.before args s = true) (hown : s.vm.findClass own = some m.cls) (hw : MOw D cI cL m0 ra rb rc ((md, fl, er, kx, ky, sx, sy, px, py), (fx, fy), (pr, bi), row, oth, rg) s H) (hS : va_S (mA m0 ra rb rc) H0 H locs) (hlink : Cond.fieldLink own index "FloatUnitModel" "flags" "I" ∈ bigW) {v : Int32} (hdg : decode cc pc = .ok (.putfield index, 3)) (kk : ∀ (H1 : Heap) (locs1 : List Loc), MOw D cI cL m0 ra rb rc ((md, v, er, kx, ky, sx, sy, px, py), (fx, fy), (pr, bi), row, oth, rg) s H1 → va_S (mA m0 ra rb rc) H0 H1 locs1 → W p l e R s m args below meth c H1 locs1 cells slots Q (F0 m (pc + 3) ls rest)) : W p l e R s m args below meth c H locs cells slots Q (F0 m pc ls (.int v :: .ref m0 :: rest)) :=
  va_put (D := D) (ci := 1) (C := "FloatUnitModel") (T := TM) (N := 16) (ty := .int) hx hb hts uwM tyM tyM_ok nmM hown hw.2.1 hw.1 hw.2.2 hS 0 rfl rfl 4 (by decide) (hts _ (List.mem_cons_of_mem _ hlink)) (fun _ h => h) rfl (by decide +kernel) rfl rfl (Nat.le_of_ble_eq_true rfl) hdg (fun H1 locs1 hP hD hS => kk H1 locs1 ⟨hP, hw.2.1, hD⟩ hS)
theorem mo_g_err (hx : p.tables.exec = Jvm.exec) (hb : c.code = cc) (hts : ∀ w ∈ (w0 :: bigW), w.before args s = true) (hown : s.vm.findClass own = some m.cls) (hw : MOw D cI cL m0 ra rb rc ((md, fl, er, kx, ky, sx, sy, px, py), (fx, fy), (pr, bi), row, oth, rg) s H) (hlink : Cond.fieldLink own index "FloatUnitModel" "err" "I" ∈ bigW) (hdg : decode cc pc = .ok (.getfield index, 3)) (kk : W p l e R s m args below meth c H locs cells slots Q (F0 m (pc + 3) ls (.int er :: rest))) : W p l e R s m args below meth c H locs cells slots Q (F0 m pc ls (.ref m0 :: rest)) :=
  va_get (D := D) (ci := 1) (C := "FloatUnitModel") (T := TM) (N := 16) hx hb hts uwM hown hw.2.1 hw.1 0 rfl rfl 5 (by decide) (hts _ (List.mem_cons_of_mem _ hlink)) (fun _ h => h) rfl hdg kk
theorem mo_p_err (hx : p.tables.exec = Jvm.exec) (hb : c.code = cc) (hts : ∀ w ∈ (w0 :: bigW), w.before args s = true) (hown : s.vm.findClass own = some m.cls) (hw : MOw D cI cL m0 ra rb rc ((md, fl, er, kx, ky, sx, sy, px, py), (fx, fy), (pr, bi), row, oth, rg) s H) (hS : va_S (mA m0 ra rb rc) H0 H locs) (hlink : Cond.fieldLink own index "FloatUnitModel" "err" "I" ∈ bigW) {v : Int32} (hdg : decode cc pc = .ok (.putfield index, 3)) (kk : ∀ (H1 : Heap) (locs1 : List Loc), MOw D cI cL m0 ra rb rc ((md, fl, v, kx, ky, sx, sy, px, py), (fx, fy), (pr, bi), row, oth, rg) s H1 → va_S (mA m0 ra rb rc) H0 H1 locs1 → W p l e R s m args below meth c H1 locs1 cells slots Q (F0 m (pc + 3) ls rest)) : W p l e R s m args below meth c H locs cells slots Q (F0 m pc ls (.int v :: .ref m0 :: rest)) :=
  va_put (D := D) (ci := 1) (C := "FloatUnitModel") (T := TM) (N := 16) (ty := .int) hx hb hts uwM tyM tyM_ok nmM hown hw.2.1 hw.1 hw.2.2 hS 0 rfl rfl 5 (by decide) (hts _ (List.mem_cons_of_mem _ hlink)) (fun _ h => h) rfl (by decide +kernel) rfl rfl (Nat.le_of_ble_eq_true rfl) hdg (fun H1 locs1 hP hD hS => kk H1 locs1 ⟨hP, hw.2.1, hD⟩ hS)
theorem mo_g_kindX (hx : p.tables.exec = Jvm.exec) (hb : c.code = cc) (hts : ∀ w ∈ (w0 :: bigW), w.before args s = true) (hown : s.vm.findClass own = some m.cls) (hw : MOw D cI cL m0 ra rb rc ((md, fl, er, kx, ky, sx, sy, px, py), (fx, fy), (pr, bi), row, oth, rg) s H) (hlink : Cond.fieldLink own index "FloatUnitModel" "kindX" "I" ∈ bigW) (hdg : decode cc pc = .ok (.getfield index, 3)) (kk : W p l e R s m args below meth c H locs cells slots Q (F0 m (pc + 3) ls (.int kx :: rest))) : W p l e R s m args below meth c H locs cells slots Q (F0 m pc ls (.ref m0 :: rest)) :=
  va_get (D := D) (ci := 1) (C := "FloatUnitModel") (T := TM) (N := 16) hx hb hts uwM hown hw.2.1 hw.1 0 rfl rfl 6 (by decide) (hts _ (List.mem_cons_of_mem _ hlink)) (fun _ h => h) rfl hdg kk
theorem mo_p_kindX (hx : p.tables.exec = Jvm.exec) (hb : c.code = cc) (hts : ∀ w ∈ (w0 :: bigW), w.before args s = true) (hown : s.vm.findClass own = some m.cls) (hw : MOw D cI cL m0 ra rb rc ((md, fl, er, kx, ky, sx, sy, px, py), (fx, fy), (pr, bi), row, oth, rg) s H) (hS : va_S (mA m0 ra rb rc) H0 H locs) (hlink : Cond.fieldLink own index "FloatUnitModel" "kindX" "I" ∈ bigW) {v : Int32} (hdg : decode cc pc = .ok (.putfield index, 3)) (kk : ∀ (H1 : Heap) (locs1 : List Loc), MOw D cI cL m0 ra rb rc ((md, fl, er, v, ky, sx, sy, px, py), (fx, fy), (pr, bi), row, oth, rg) s H1 → va_S (mA m0 ra rb rc) H0 H1 locs1 → W p l e R s m args below meth c H1 locs1 cells slots Q (F0 m (pc + 3) ls rest)) : W p l e R s m args below meth c H locs cells slots Q (F0 m pc ls (.int v :: .ref m0 :: rest)) :=
  va_put (D := D) (ci := 1) (C := "FloatUnitModel") (T := TM) (N := 16) (ty := .int) hx hb hts uwM tyM tyM_ok nmM hown hw.2.1 hw.1 hw.2.2 hS 0 rfl rfl 6 (by decide) (hts _ (List.mem_cons_of_mem _ hlink)) (fun _ h => h) rfl (by decide +kernel) rfl rfl (Nat.le_of_ble_eq_true rfl) hdg (fun H1 locs1 hP hD hS => kk H1 locs1 ⟨hP, hw.2.1, hD⟩ hS)
theorem mo_g_kindY (hx : p.tables.exec = Jvm.exec) (hb : c.code = cc) (hts : ∀ w ∈ (w0 :: bigW), w.before args s = true) (hown : s.vm.findClass own = some m.cls) (hw : MOw D cI cL m0 ra rb rc ((md, fl, er, kx, ky, sx, sy, px, py), (fx, fy), (pr, bi), row, oth, rg) s H) (hlink : Cond.fieldLink own index "FloatUnitModel" "kindY" "I" ∈ bigW) (hdg : decode cc pc = .ok (.getfield index, 3)) (kk : W p l e R s m args below meth c H locs cells slots Q (F0 m (pc + 3) ls (.int ky :: rest))) : W p l e R s m args below meth c H locs cells slots Q (F0 m pc ls (.ref m0 :: rest)) :=
  va_get (D := D) (ci := 1) (C := "FloatUnitModel") (T := TM) (N := 16) hx hb hts uwM hown hw.2.1 hw.1 0 rfl rfl 7 (by decide) (hts _ (List.mem_cons_of_mem _ hlink)) (fun _ h => h) rfl hdg kk
theorem mo_p_kindY (hx : p.tables.exec = Jvm.exec) (hb : c.code = cc) (hts : ∀ w ∈ (w0 :: bigW), w.before args s = true) (hown : s.vm.findClass own = some m.cls) (hw : MOw D cI cL m0 ra rb rc ((md, fl, er, kx, ky, sx, sy, px, py), (fx, fy), (pr, bi), row, oth, rg) s H) (hS : va_S (mA m0 ra rb rc) H0 H locs) (hlink : Cond.fieldLink own index "FloatUnitModel" "kindY" "I" ∈ bigW) {v : Int32} (hdg : decode cc pc = .ok (.putfield index, 3)) (kk : ∀ (H1 : Heap) (locs1 : List Loc), MOw D cI cL m0 ra rb rc ((md, fl, er, kx, v, sx, sy, px, py), (fx, fy), (pr, bi), row, oth, rg) s H1 → va_S (mA m0 ra rb rc) H0 H1 locs1 → W p l e R s m args below meth c H1 locs1 cells slots Q (F0 m (pc + 3) ls rest)) : W p l e R s m args below meth c H locs cells slots Q (F0 m pc ls (.int v :: .ref m0 :: rest)) :=
  va_put (D := D) (ci := 1) (C := "FloatUnitModel") (T := TM) (N := 16) (ty := .int) hx hb hts uwM tyM tyM_ok nmM hown hw.2.1 hw.1 hw.2.2 hS 0 rfl rfl 7 (by decide) (hts _ (List.mem_cons_of_mem _ hlink)) (fun _ h => h) rfl (by decide +kernel) rfl rfl (Nat.le_of_ble_eq_true rfl) hdg (fun H1 locs1 hP hD hS => kk H1 locs1 ⟨hP, hw.2.1, hD⟩ hS)
theorem mo_g_signX (hx : p.tables.exec = Jvm.exec) (hb : c.code = cc) (hts : ∀ w ∈ (w0 :: bigW), w.before args s = true) (hown : s.vm.findClass own = some m.cls) (hw : MOw D cI cL m0 ra rb rc ((md, fl, er, kx, ky, sx, sy, px, py), (fx, fy), (pr, bi), row, oth, rg) s H) (hlink : Cond.fieldLink own index "FloatUnitModel" "signX" "I" ∈ bigW) (hdg : decode cc pc = .ok (.getfield index, 3)) (kk : W p l e R s m args below meth c H locs cells slots Q (F0 m (pc + 3) ls (.int sx :: rest))) : W p l e R s m args below meth c H locs cells slots Q (F0 m pc ls (.ref m0 :: rest)) :=
  va_get (D := D) (ci := 1) (C := "FloatUnitModel") (T := TM) (N := 16) hx hb hts uwM hown hw.2.1 hw.1 0 rfl rfl 8 (by decide) (hts _ (List.mem_cons_of_mem _ hlink)) (fun _ h => h) rfl hdg kk
theorem mo_p_signX (hx : p.tables.exec = Jvm.exec) (hb : c.code = cc) (hts : ∀ w ∈ (w0 :: bigW), w.before args s = true) (hown : s.vm.findClass own = some m.cls) (hw : MOw D cI cL m0 ra rb rc ((md, fl, er, kx, ky, sx, sy, px, py), (fx, fy), (pr, bi), row, oth, rg) s H) (hS : va_S (mA m0 ra rb rc) H0 H locs) (hlink : Cond.fieldLink own index "FloatUnitModel" "signX" "I" ∈ bigW) {v : Int32} (hdg : decode cc pc = .ok (.putfield index, 3)) (kk : ∀ (H1 : Heap) (locs1 : List Loc), MOw D cI cL m0 ra rb rc ((md, fl, er, kx, ky, v, sy, px, py), (fx, fy), (pr, bi), row, oth, rg) s H1 → va_S (mA m0 ra rb rc) H0 H1 locs1 → W p l e R s m args below meth c H1 locs1 cells slots Q (F0 m (pc + 3) ls rest)) : W p l e R s m args below meth c H locs cells slots Q (F0 m pc ls (.int v :: .ref m0 :: rest)) :=
  va_put (D := D) (ci := 1) (C := "FloatUnitModel") (T := TM) (N := 16) (ty := .int) hx hb hts uwM tyM tyM_ok nmM hown hw.2.1 hw.1 hw.2.2 hS 0 rfl rfl 8 (by decide) (hts _ (List.mem_cons_of_mem _ hlink)) (fun _ h => h) rfl (by decide +kernel) rfl rfl (Nat.le_of_ble_eq_true rfl) hdg (fun H1 locs1 hP hD hS => kk H1 locs1 ⟨hP, hw.2.1, hD⟩ hS)
theorem mo_g_signY (hx : p.tables.exec = Jvm.exec) (hb : c.code = cc) (hts : ∀ w ∈ (w0 :: bigW), w.before args s = true) (hown : s.vm.findClass own = some m.cls) (hw : MOw D cI cL m0 ra rb rc ((md, fl, er, kx, ky, sx, sy, px, py), (fx, fy), (pr, bi), row, oth, rg) s H) (hlink : Cond.fieldLink own index "FloatUnitModel" "signY" "I" ∈ bigW) (hdg : decode cc pc = .ok (.getfield index, 3)) (kk : W p l e R s m args below meth c H locs cells slots Q (F0 m (pc + 3) ls (.int sy :: rest))) : W p l e R s m args below meth c H locs cells slots Q (F0 m pc ls (.ref m0 :: rest)) :=
  va_get (D := D) (ci := 1) (C := "FloatUnitModel") (T := TM) (N := 16) hx hb hts uwM hown hw.2.1 hw.1 0 rfl rfl 9 (by decide) (hts _ (List.mem_cons_of_mem _ hlink)) (fun _ h => h) rfl hdg kk
theorem mo_p_signY (hx : p.tables.exec = Jvm.exec) (hb : c.code = cc) (hts : ∀ w ∈ (w0 :: bigW), w.before args s = true) (hown : s.vm.findClass own = some m.cls) (hw : MOw D cI cL m0 ra rb rc ((md, fl, er, kx, ky, sx, sy, px, py), (fx, fy), (pr, bi), row, oth, rg) s H) (hS : va_S (mA m0 ra rb rc) H0 H locs) (hlink : Cond.fieldLink own index "FloatUnitModel" "signY" "I" ∈ bigW) {v : Int32} (hdg : decode cc pc = .ok (.putfield index, 3)) (kk : ∀ (H1 : Heap) (locs1 : List Loc), MOw D cI cL m0 ra rb rc ((md, fl, er, kx, ky, sx, v, px, py), (fx, fy), (pr, bi), row, oth, rg) s H1 → va_S (mA m0 ra rb rc) H0 H1 locs1 → W p l e R s m args below meth c H1 locs1 cells slots Q (F0 m (pc + 3) ls rest)) : W p l e R s m args below meth c H locs cells slots Q (F0 m pc ls (.int v :: .ref m0 :: rest)) :=
  va_put (D := D) (ci := 1) (C := "FloatUnitModel") (T := TM) (N := 16) (ty := .int) hx hb hts uwM tyM tyM_ok nmM hown hw.2.1 hw.1 hw.2.2 hS 0 rfl rfl 9 (by decide) (hts _ (List.mem_cons_of_mem _ hlink)) (fun _ h => h) rfl (by decide +kernel) rfl rfl (Nat.le_of_ble_eq_true rfl) hdg (fun H1 locs1 hP hD hS => kk H1 locs1 ⟨hP, hw.2.1, hD⟩ hS)
theorem mo_g_powerX (hx : p.tables.exec = Jvm.exec) (hb : c.code = cc) (hts : ∀ w ∈ (w0 :: bigW), w.before args s = true) (hown : s.vm.findClass own = some m.cls) (hw : MOw D cI cL m0 ra rb rc ((md, fl, er, kx, ky, sx, sy, px, py), (fx, fy), (pr, bi), row, oth, rg) s H) (hlink : Cond.fieldLink own index "FloatUnitModel" "powerX" "I" ∈ bigW) (hdg : decode cc pc = .ok (.getfield index, 3)) (kk : W p l e R s m args below meth c H locs cells slots Q (F0 m (pc + 3) ls (.int px :: rest))) : W p l e R s m args below meth c H locs cells slots Q (F0 m pc ls (.ref m0 :: rest)) :=
  va_get (D := D) (ci := 1) (C := "FloatUnitModel") (T := TM) (N := 16) hx hb hts uwM hown hw.2.1 hw.1 0 rfl rfl 10 (by decide) (hts _ (List.mem_cons_of_mem _ hlink)) (fun _ h => h) rfl hdg kk
theorem mo_p_powerX (hx : p.tables.exec = Jvm.exec) (hb : c.code = cc) (hts : ∀ w ∈ (w0 :: bigW), w.before args s = true) (hown : s.vm.findClass own = some m.cls) (hw : MOw D cI cL m0 ra rb rc ((md, fl, er, kx, ky, sx, sy, px, py), (fx, fy), (pr, bi), row, oth, rg) s H) (hS : va_S (mA m0 ra rb rc) H0 H locs) (hlink : Cond.fieldLink own index "FloatUnitModel" "powerX" "I" ∈ bigW) {v : Int32} (hdg : decode cc pc = .ok (.putfield index, 3)) (kk : ∀ (H1 : Heap) (locs1 : List Loc), MOw D cI cL m0 ra rb rc ((md, fl, er, kx, ky, sx, sy, v, py), (fx, fy), (pr, bi), row, oth, rg) s H1 → va_S (mA m0 ra rb rc) H0 H1 locs1 → W p l e R s m args below meth c H1 locs1 cells slots Q (F0 m (pc + 3) ls rest)) : W p l e R s m args below meth c H locs cells slots Q (F0 m pc ls (.int v :: .ref m0 :: rest)) :=
  va_put (D := D) (ci := 1) (C := "FloatUnitModel") (T := TM) (N := 16) (ty := .int) hx hb hts uwM tyM tyM_ok nmM hown hw.2.1 hw.1 hw.2.2 hS 0 rfl rfl 10 (by decide) (hts _ (List.mem_cons_of_mem _ hlink)) (fun _ h => h) rfl (by decide +kernel) rfl rfl (Nat.le_of_ble_eq_true rfl) hdg (fun H1 locs1 hP hD hS => kk H1 locs1 ⟨hP, hw.2.1, hD⟩ hS)
theorem mo_g_powerY (hx : p.tables.exec = Jvm.exec) (hb : c.code = cc) (hts : ∀ w ∈ (w0 :: bigW), w.before args s = true) (hown : s.vm.findClass own = some m.cls) (hw : MOw D cI cL m0 ra rb rc ((md, fl, er, kx, ky, sx, sy, px, py), (fx, fy), (pr, bi), row, oth, rg) s H) (hlink : Cond.fieldLink own index "FloatUnitModel" "powerY" "I" ∈ bigW) (hdg : decode cc pc = .ok (.getfield index, 3)) (kk : W p l e R s m args below meth c H locs cells slots Q (F0 m (pc + 3) ls (.int py :: rest))) : W p l e R s m args below meth c H locs cells slots Q (F0 m pc ls (.ref m0 :: rest)) :=
  va_get (D := D) (ci := 1) (C := "FloatUnitModel") (T := TM) (N := 16) hx hb hts uwM hown hw.2.1 hw.1 0 rfl rfl 11 (by decide) (hts _ (List.mem_cons_of_mem _ hlink)) (fun _ h => h) rfl hdg kk
theorem mo_p_powerY (hx : p.tables.exec = Jvm.exec) (hb : c.code = cc) (hts : ∀ w ∈ (w0 :: bigW), w.before args s = true) (hown : s.vm.findClass own = some m.cls) (hw : MOw D cI cL m0 ra rb rc ((md, fl, er, kx, ky, sx, sy, px, py), (fx, fy), (pr, bi), row, oth, rg) s H) (hS : va_S (mA m0 ra rb rc) H0 H locs) (hlink : Cond.fieldLink own index "FloatUnitModel" "powerY" "I" ∈ bigW) {v : Int32} (hdg : decode cc pc = .ok (.putfield index, 3)) (kk : ∀ (H1 : Heap) (locs1 : List Loc), MOw D cI cL m0 ra rb rc ((md, fl, er, kx, ky, sx, sy, px, v), (fx, fy), (pr, bi), row, oth, rg) s H1 → va_S (mA m0 ra rb rc) H0 H1 locs1 → W p l e R s m args below meth c H1 locs1 cells slots Q (F0 m (pc + 3) ls rest)) : W p l e R s m args below meth c H locs cells slots Q (F0 m pc ls (.int v :: .ref m0 :: rest)) :=
  va_put (D := D) (ci := 1) (C := "FloatUnitModel") (T := TM) (N := 16) (ty := .int) hx hb hts uwM tyM tyM_ok nmM hown hw.2.1 hw.1 hw.2.2 hS 0 rfl rfl 11 (by decide) (hts _ (List.mem_cons_of_mem _ hlink)) (fun _ h => h) rfl (by decide +kernel) rfl rfl (Nat.le_of_ble_eq_true rfl) hdg (fun H1 locs1 hP hD hS => kk H1 locs1 ⟨hP, hw.2.1, hD⟩ hS)
theorem mo_g_partX (hx : p.tables.exec = Jvm.exec) (hb : c.code = cc) (hts : ∀ w ∈ (w0 :: bigW), w.before args s = true) (hown : s.vm.findClass own = some m.cls) (hw : MOw D cI cL m0 ra rb rc ((md, fl, er, kx, ky, sx, sy, px, py), (fx, fy), (pr, bi), row, oth, rg) s H) (hlink : Cond.fieldLink own index "FloatUnitModel" "partX" "J" ∈ bigW) (hdg : decode cc pc = .ok (.getfield index, 3)) (kk : W p l e R s m args below meth c H locs cells slots Q (F0 m (pc + 3) ls (.long fx :: rest))) : W p l e R s m args below meth c H locs cells slots Q (F0 m pc ls (.ref m0 :: rest)) :=
  va_get (D := D) (ci := 1) (C := "FloatUnitModel") (T := TM) (N := 16) hx hb hts uwM hown hw.2.1 hw.1 0 rfl rfl 12 (by decide) (hts _ (List.mem_cons_of_mem _ hlink)) (fun _ h => h) rfl hdg kk
theorem mo_p_partX (hx : p.tables.exec = Jvm.exec) (hb : c.code = cc) (hts : ∀ w ∈ (w0 :: bigW), w.before args s = true) (hown : s.vm.findClass own = some m.cls) (hw : MOw D cI cL m0 ra rb rc ((md, fl, er, kx, ky, sx, sy, px, py), (fx, fy), (pr, bi), row, oth, rg) s H) (hS : va_S (mA m0 ra rb rc) H0 H locs) (hlink : Cond.fieldLink own index "FloatUnitModel" "partX" "J" ∈ bigW) {v : Int64} (hdg : decode cc pc = .ok (.putfield index, 3)) (kk : ∀ (H1 : Heap) (locs1 : List Loc), MOw D cI cL m0 ra rb rc ((md, fl, er, kx, ky, sx, sy, px, py), (v, fy), (pr, bi), row, oth, rg) s H1 → va_S (mA m0 ra rb rc) H0 H1 locs1 → W p l e R s m args below meth c H1 locs1 cells slots Q (F0 m (pc + 3) ls rest)) : W p l e R s m args below meth c H locs cells slots Q (F0 m pc ls (.long v :: .ref m0 :: rest)) :=
  va_put (D := D) (ci := 1) (C := "FloatUnitModel") (T := TM) (N := 16) (ty := .long) hx hb hts uwM tyM tyM_ok nmM hown hw.2.1 hw.1 hw.2.2 hS 0 rfl rfl 12 (by decide) (hts _ (List.mem_cons_of_mem _ hlink)) (fun _ h => h) rfl (by decide +kernel) rfl rfl (Nat.le_of_ble_eq_true rfl) hdg (fun H1 locs1 hP hD hS => kk H1 locs1 ⟨hP, hw.2.1, hD⟩ hS)
theorem mo_g_partY (hx : p.tables.exec = Jvm.exec) (hb : c.code = cc) (hts : ∀ w ∈ (w0 :: bigW), w.before args s = true) (hown : s.vm.findClass own = some m.cls) (hw : MOw D cI cL m0 ra rb rc ((md, fl, er, kx, ky, sx, sy, px, py), (fx, fy), (pr, bi), row, oth, rg) s H) (hlink : Cond.fieldLink own index "FloatUnitModel" "partY" "J" ∈ bigW) (hdg : decode cc pc = .ok (.getfield index, 3)) (kk : W p l e R s m args below meth c H locs cells slots Q (F0 m (pc + 3) ls (.long fy :: rest))) : W p l e R s m args below meth c H locs cells slots Q (F0 m pc ls (.ref m0 :: rest)) :=
  va_get (D := D) (ci := 1) (C := "FloatUnitModel") (T := TM) (N := 16) hx hb hts uwM hown hw.2.1 hw.1 0 rfl rfl 13 (by decide) (hts _ (List.mem_cons_of_mem _ hlink)) (fun _ h => h) rfl hdg kk
theorem mo_p_partY (hx : p.tables.exec = Jvm.exec) (hb : c.code = cc) (hts : ∀ w ∈ (w0 :: bigW), w.before args s = true) (hown : s.vm.findClass own = some m.cls) (hw : MOw D cI cL m0 ra rb rc ((md, fl, er, kx, ky, sx, sy, px, py), (fx, fy), (pr, bi), row, oth, rg) s H) (hS : va_S (mA m0 ra rb rc) H0 H locs) (hlink : Cond.fieldLink own index "FloatUnitModel" "partY" "J" ∈ bigW) {v : Int64} (hdg : decode cc pc = .ok (.putfield index, 3)) (kk : ∀ (H1 : Heap) (locs1 : List Loc), MOw D cI cL m0 ra rb rc ((md, fl, er, kx, ky, sx, sy, px, py), (fx, v), (pr, bi), row, oth, rg) s H1 → va_S (mA m0 ra rb rc) H0 H1 locs1 → W p l e R s m args below meth c H1 locs1 cells slots Q (F0 m (pc + 3) ls rest)) : W p l e R s m args below meth c H locs cells slots Q (F0 m pc ls (.long v :: .ref m0 :: rest)) :=
  va_put (D := D) (ci := 1) (C := "FloatUnitModel") (T := TM) (N := 16) (ty := .long) hx hb hts uwM tyM tyM_ok nmM hown hw.2.1 hw.1 hw.2.2 hS 0 rfl rfl 13 (by decide) (hts _ (List.mem_cons_of_mem _ hlink)) (fun _ h => h) rfl (by decide +kernel) rfl rfl (Nat.le_of_ble_eq_true rfl) hdg (fun H1 locs1 hP hD hS => kk H1 locs1 ⟨hP, hw.2.1, hD⟩ hS)
theorem mo_g_precision (hx : p.tables.exec = Jvm.exec) (hb : c.code = cc) (hts : ∀ w ∈ (w0 :: bigW), w.before args s = true) (hown : s.vm.findClass own = some m.cls) (hw : MOw D cI cL m0 ra rb rc ((md, fl, er, kx, ky, sx, sy, px, py), (fx, fy), (pr, bi), row, oth, rg) s H) (hlink : Cond.fieldLink own index "FloatUnitModel" "precision" "I" ∈ bigW) (hdg : decode cc pc = .ok (.getfield index, 3)) (kk : W p l e R s m args below meth c H locs cells slots Q (F0 m (pc + 3) ls (.int pr :: rest))) : W p l e R s m args below meth c H locs cells slots Q (F0 m pc ls (.ref m0 :: rest)) :=
  va_get (D := D) (ci := 1) (C := "FloatUnitModel") (T := TM) (N := 16) hx hb hts uwM hown hw.2.1 hw.1 0 rfl rfl 14 (by decide) (hts _ (List.mem_cons_of_mem _ hlink)) (fun _ h => h) rfl hdg kk
theorem mo_p_precision (hx : p.tables.exec = Jvm.exec) (hb : c.code = cc) (hts : ∀ w ∈ (w0 :: bigW), w.before args s = true) (hown : s.vm.findClass own = some m.cls) (hw : MOw D cI cL m0 ra rb rc ((md, fl, er, kx, ky, sx, sy, px, py), (fx, fy), (pr, bi), row, oth, rg) s H) (hS : va_S (mA m0 ra rb rc) H0 H locs) (hlink : Cond.fieldLink own index "FloatUnitModel" "precision" "I" ∈ bigW) {v : Int32} (hdg : decode cc pc = .ok (.putfield index, 3)) (kk : ∀ (H1 : Heap) (locs1 : List Loc), MOw D cI cL m0 ra rb rc ((md, fl, er, kx, ky, sx, sy, px, py), (fx, fy), (v, bi), row, oth, rg) s H1 → va_S (mA m0 ra rb rc) H0 H1 locs1 → W p l e R s m args below meth c H1 locs1 cells slots Q (F0 m (pc + 3) ls rest)) : W p l e R s m args below meth c H locs cells slots Q (F0 m pc ls (.int v :: .ref m0 :: rest)) :=
  va_put (D := D) (ci := 1) (C := "FloatUnitModel") (T := TM) (N := 16) (ty := .int) hx hb hts uwM tyM tyM_ok nmM hown hw.2.1 hw.1 hw.2.2 hS 0 rfl rfl 14 (by decide) (hts _ (List.mem_cons_of_mem _ hlink)) (fun _ h => h) rfl (by decide +kernel) rfl rfl (Nat.le_of_ble_eq_true rfl) hdg (fun H1 locs1 hP hD hS => kk H1 locs1 ⟨hP, hw.2.1, hD⟩ hS)
theorem mo_g_bias (hx : p.tables.exec = Jvm.exec) (hb : c.code = cc) (hts : ∀ w ∈ (w0 :: bigW), w.before args s = true) (hown : s.vm.findClass own = some m.cls) (hw : MOw D cI cL m0 ra rb rc ((md, fl, er, kx, ky, sx, sy, px, py), (fx, fy), (pr, bi), row, oth, rg) s H) (hlink : Cond.fieldLink own index "FloatUnitModel" "bias" "I" ∈ bigW) (hdg : decode cc pc = .ok (.getfield index, 3)) (kk : W p l e R s m args below meth c H locs cells slots Q (F0 m (pc + 3) ls (.int bi :: rest))) : W p l e R s m args below meth c H locs cells slots Q (F0 m pc ls (.ref m0 :: rest)) :=
  va_get (D := D) (ci := 1) (C := "FloatUnitModel") (T := TM) (N := 16) hx hb hts uwM hown hw.2.1 hw.1 0 rfl rfl 15 (by decide) (hts _ (List.mem_cons_of_mem _ hlink)) (fun _ h => h) rfl hdg kk
theorem mo_p_bias (hx : p.tables.exec = Jvm.exec) (hb : c.code = cc) (hts : ∀ w ∈ (w0 :: bigW), w.before args s = true) (hown : s.vm.findClass own = some m.cls) (hw : MOw D cI cL m0 ra rb rc ((md, fl, er, kx, ky, sx, sy, px, py), (fx, fy), (pr, bi), row, oth, rg) s H) (hS : va_S (mA m0 ra rb rc) H0 H locs) (hlink : Cond.fieldLink own index "FloatUnitModel" "bias" "I" ∈ bigW) {v : Int32} (hdg : decode cc pc = .ok (.putfield index, 3)) (kk : ∀ (H1 : Heap) (locs1 : List Loc), MOw D cI cL m0 ra rb rc ((md, fl, er, kx, ky, sx, sy, px, py), (fx, fy), (pr, v), row, oth, rg) s H1 → va_S (mA m0 ra rb rc) H0 H1 locs1 → W p l e R s m args below meth c H1 locs1 cells slots Q (F0 m (pc + 3) ls rest)) : W p l e R s m args below meth c H locs cells slots Q (F0 m pc ls (.int v :: .ref m0 :: rest)) :=
  va_put (D := D) (ci := 1) (C := "FloatUnitModel") (T := TM) (N := 16) (ty := .int) hx hb hts uwM tyM tyM_ok nmM hown hw.2.1 hw.1 hw.2.2 hS 0 rfl rfl 15 (by decide) (hts _ (List.mem_cons_of_mem _ hlink)) (fun _ h => h) rfl (by decide +kernel) rfl rfl (Nat.le_of_ble_eq_true rfl) hdg (fun H1 locs1 hP hD hS => kk H1 locs1 ⟨hP, hw.2.1, hD⟩ hS)
theorem mo_rl (hx : p.tables.exec = Jvm.exec) (hb : c.code = cc) (hw : MOw D cI cL m0 ra rb rc ((md, fl, er, kx, ky, sx, sy, px, py), (fx, fy), (pr, bi), row, oth, rg) s H) {i : Int32} (hin : vp_in i 2200) (hdg : decode cc pc = .ok (.iaload, 1)) (kk : W p l e R s m args below meth c H locs cells slots Q (F0 m (pc + 1) ls (.int (row i.toNatClampNeg) :: rest))) : W p l e R s m args below meth c H locs cells slots Q (F0 m pc ls (.int i :: .ref ra :: rest)) :=
  va_iald (D := D) (cl := clW) hx hb hw.2.1 hw.1 1 0 rfl rfl hin hdg kk
theorem mo_rs (hx : p.tables.exec = Jvm.exec) (hb : c.code = cc) (hw : MOw D cI cL m0 ra rb rc ((md, fl, er, kx, ky, sx, sy, px, py), (fx, fy), (pr, bi), row, oth, rg) s H) (hS : va_S (mA m0 ra rb rc) H0 H locs) {i x : Int32} (hin : vp_in i 2200) (hdg : decode cc pc = .ok (.iastore, 1)) (kk : ∀ (H1 : Heap) (locs1 : List Loc), MOw D cI cL m0 ra rb rc ((md, fl, er, kx, ky, sx, sy, px, py), (fx, fy), (pr, bi), (upd row i.toNatClampNeg x), oth, rg) s H1 → va_S (mA m0 ra rb rc) H0 H1 locs1 → W p l e R s m args below meth c H1 locs1 cells slots Q (F0 m (pc + 1) ls rest)) : W p l e R s m args below meth c H locs cells slots Q (F0 m pc ls (.int x :: .int i :: .ref ra :: rest)) :=
  va_iast (D := D) (cl := clW) hx hb hw.2.1 hw.1 hw.2.2 hS 1 0 rfl rfl hin hdg (fun H1 locs1 hP hD hS => kk H1 locs1 ⟨hP, hw.2.1, hD⟩ hS)
theorem mo_rn (hx : p.tables.exec = Jvm.exec) (hb : c.code = cc) (hw : MOw D cI cL m0 ra rb rc ((md, fl, er, kx, ky, sx, sy, px, py), (fx, fy), (pr, bi), row, oth, rg) s H) (hdg : decode cc pc = .ok (.arraylength, 1)) (kk : W p l e R s m args below meth c H locs cells slots Q (F0 m (pc + 1) ls (.int (nI 2200) :: rest))) : W p l e R s m args below meth c H locs cells slots Q (F0 m pc ls (.ref ra :: rest)) :=
  va_alen (D := D) (cl := clW) hx hb hw.2.1 hw.1 1 0 rfl rfl rfl hdg kk
theorem mo_rc {f2 : Nat → Int32} (hw : MOw D cI cL m0 ra rb rc ((md, fl, er, kx, ky, sx, sy, px, py), (fx, fy), (pr, bi), row, oth, rg) s H) (h : ∀ j, j < 2200 → row j = f2 j) : MOw D cI cL m0 ra rb rc ((md, fl, er, kx, ky, sx, sy, px, py), (fx, fy), (pr, bi), f2, oth, rg) s H := by
  refine ⟨fun k q hk => ?_, hw.2.1, fun i j a b ha hb => ?_, fun k q hk => ?_⟩
  · have e : vp_cell cI (2200, .inl f2) = vp_cell cI (2200, .inl row) := arrV_congr (N := 2200) (f := fun j => .int (f2 j)) (g := fun j => .int (row j)) (fun j hj => congrArg Value.int (h j hj).symm)
    rcases k with _ | _ | _ | _ | k
    · exact hw.1 0 q hk
    · cases hk; exact (hw.1 1 _ rfl).trans (congrArg some e.symm)
    · exact hw.1 2 q hk
    · exact hw.1 3 q hk
    · cases hk
  · rcases i with _ | _ | _ | _ | i <;> rcases j with _ | _ | _ | _ | j <;> first | (cases ha; done) | (cases hb; done) | (cases ha; cases hb; intro hab; first | rfl | exact hw.2.2.1 _ _ _ _ (show (MOc m0 ra rb rc cI cL ((md, fl, er, kx, ky, sx, sy, px, py), (fx, fy), (pr, bi), row, oth, rg))[_]? = some _ from rfl) (show (MOc m0 ra rb rc cI cL ((md, fl, er, kx, ky, sx, sy, px, py), (fx, fy), (pr, bi), row, oth, rg))[_]? = some _ from rfl) hab)
  · rcases k with _ | _ | _ | _ | k
    · exact hw.2.2.2 0 q hk
    · cases hk; exact Or.inr (Or.inl rfl)
    · cases hk; exact Or.inr (Or.inr (Or.inl rfl))
    · exact hw.2.2.2 3 q hk
    · cases hk
theorem mo_ol (hx : p.tables.exec = Jvm.exec) (hb : c.code = cc) (hw : MOw D cI cL m0 ra rb rc ((md, fl, er, kx, ky, sx, sy, px, py), (fx, fy), (pr, bi), row, oth, rg) s H) {i : Int32} (hin : vp_in i 2200) (hdg : decode cc pc = .ok (.iaload, 1)) (kk : W p l e R s m args below meth c H locs cells slots Q (F0 m (pc + 1) ls (.int (oth i.toNatClampNeg) :: rest))) : W p l e R s m args below meth c H locs cells slots Q (F0 m pc ls (.int i :: .ref rb :: rest)) :=
  va_iald (D := D) (cl := clW) hx hb hw.2.1 hw.1 2 0 rfl rfl hin hdg kk
theorem mo_os (hx : p.tables.exec = Jvm.exec) (hb : c.code = cc) (hw : MOw D cI cL m0 ra rb rc ((md, fl, er, kx, ky, sx, sy, px, py), (fx, fy), (pr, bi), row, oth, rg) s H) (hS : va_S (mA m0 ra rb rc) H0 H locs) {i x : Int32} (hin : vp_in i 2200) (hdg : decode cc pc = .ok (.iastore, 1)) (kk : ∀ (H1 : Heap) (locs1 : List Loc), MOw D cI cL m0 ra rb rc ((md, fl, er, kx, ky, sx, sy, px, py), (fx, fy), (pr, bi), row, (upd oth i.toNatClampNeg x), rg) s H1 → va_S (mA m0 ra rb rc) H0 H1 locs1 → W p l e R s m args below meth c H1 locs1 cells slots Q (F0 m (pc + 1) ls rest)) : W p l e R s m args below meth c H locs cells slots Q (F0 m pc ls (.int x :: .int i :: .ref rb :: rest)) :=
  va_iast (D := D) (cl := clW) hx hb hw.2.1 hw.1 hw.2.2 hS 2 0 rfl rfl hin hdg (fun H1 locs1 hP hD hS => kk H1 locs1 ⟨hP, hw.2.1, hD⟩ hS)
theorem mo_on (hx : p.tables.exec = Jvm.exec) (hb : c.code = cc) (hw : MOw D cI cL m0 ra rb rc ((md, fl, er, kx, ky, sx, sy, px, py), (fx, fy), (pr, bi), row, oth, rg) s H) (hdg : decode cc pc = .ok (.arraylength, 1)) (kk : W p l e R s m args below meth c H locs cells slots Q (F0 m (pc + 1) ls (.int (nI 2200) :: rest))) : W p l e R s m args below meth c H locs cells slots Q (F0 m pc ls (.ref rb :: rest)) :=
  va_alen (D := D) (cl := clW) hx hb hw.2.1 hw.1 2 0 rfl rfl rfl hdg kk
theorem mo_oc {f2 : Nat → Int32} (hw : MOw D cI cL m0 ra rb rc ((md, fl, er, kx, ky, sx, sy, px, py), (fx, fy), (pr, bi), row, oth, rg) s H) (h : ∀ j, j < 2200 → oth j = f2 j) : MOw D cI cL m0 ra rb rc ((md, fl, er, kx, ky, sx, sy, px, py), (fx, fy), (pr, bi), row, f2, rg) s H := by
  refine ⟨fun k q hk => ?_, hw.2.1, fun i j a b ha hb => ?_, fun k q hk => ?_⟩
  · have e : vp_cell cI (2200, .inl f2) = vp_cell cI (2200, .inl oth) := arrV_congr (N := 2200) (f := fun j => .int (f2 j)) (g := fun j => .int (oth j)) (fun j hj => congrArg Value.int (h j hj).symm)
    rcases k with _ | _ | _ | _ | k
    · exact hw.1 0 q hk
    · exact hw.1 1 q hk
    · cases hk; exact (hw.1 2 _ rfl).trans (congrArg some e.symm)
    · exact hw.1 3 q hk
    · cases hk
  · rcases i with _ | _ | _ | _ | i <;> rcases j with _ | _ | _ | _ | j <;> first | (cases ha; done) | (cases hb; done) | (cases ha; cases hb; intro hab; first | rfl | exact hw.2.2.1 _ _ _ _ (show (MOc m0 ra rb rc cI cL ((md, fl, er, kx, ky, sx, sy, px, py), (fx, fy), (pr, bi), row, oth, rg))[_]? = some _ from rfl) (show (MOc m0 ra rb rc cI cL ((md, fl, er, kx, ky, sx, sy, px, py), (fx, fy), (pr, bi), row, oth, rg))[_]? = some _ from rfl) hab)
  · rcases k with _ | _ | _ | _ | k
    · exact hw.2.2.2 0 q hk
    · cases hk; exact Or.inr (Or.inl rfl)
    · cases hk; exact Or.inr (Or.inr (Or.inl rfl))
    · exact hw.2.2.2 3 q hk
    · cases hk
theorem mo_ld (hx : p.tables.exec = Jvm.exec) (hb : c.code = cc) (hw : MOw D cI cL m0 ra rb rc ((md, fl, er, kx, ky, sx, sy, px, py), (fx, fy), (pr, bi), row, oth, rg) s H) {i : Int32} (hin : vp_in i 16) (hdg : decode cc pc = .ok (.laload, 1)) (kk : W p l e R s m args below meth c H locs cells slots Q (F0 m (pc + 1) ls (.long (rg i.toNatClampNeg) :: rest))) : W p l e R s m args below meth c H locs cells slots Q (F0 m pc ls (.int i :: .ref rc :: rest)) :=
  va_lald (D := D) (cl := clW) hx hb hw.2.1 hw.1 3 1 rfl rfl hin hdg kk
theorem mo_st (hx : p.tables.exec = Jvm.exec) (hb : c.code = cc) (hw : MOw D cI cL m0 ra rb rc ((md, fl, er, kx, ky, sx, sy, px, py), (fx, fy), (pr, bi), row, oth, rg) s H) (hS : va_S (mA m0 ra rb rc) H0 H locs) {i : Int32} {x : Int64} (hin : vp_in i 16) (hdg : decode cc pc = .ok (.lastore, 1)) (kk : ∀ (H1 : Heap) (locs1 : List Loc), MOw D cI cL m0 ra rb rc ((md, fl, er, kx, ky, sx, sy, px, py), (fx, fy), (pr, bi), row, oth, (vp_updL rg i.toNatClampNeg x)) s H1 → va_S (mA m0 ra rb rc) H0 H1 locs1 → W p l e R s m args below meth c H1 locs1 cells slots Q (F0 m (pc + 1) ls rest)) : W p l e R s m args below meth c H locs cells slots Q (F0 m pc ls (.long x :: .int i :: .ref rc :: rest)) :=
  va_last (D := D) (cl := clW) hx hb hw.2.1 hw.1 hw.2.2 hS 3 1 rfl rfl hin hdg (fun H1 locs1 hP hD hS => kk H1 locs1 ⟨hP, hw.2.1, hD⟩ hS)
theorem mo_go {Qa : State → Outcome → State → Prop} (hr : va_Run p l e R s m args below meth c H locs cells slots 0 0 (F0 m pc ls st) rest Qa (mA m0 ra rb rc)) (hq : ∀ st oc t, Qa st oc t → oc = .returned ov ∧ MOw D cI cL m0 ra rb rc S1 t t.heap ∧ va_F (mA m0 ra rb rc) st t) (hS : va_S (mA m0 ra rb rc) H0 H locs)
    (kk : ∀ (H1 : Heap) (locs1 : List Loc), MOw D cI cL m0 ra rb rc S1 s H1 → va_S (mA m0 ra rb rc) H0 H1 locs1 → W p l e R s m args below meth c H1 locs1 cells slots Q (F0 m (pc + 3) ls (ov.toList ++ rest))) : W p l e R s m args below meth c H locs cells slots Q (F0 m pc ls st) := by
  intro T hT X
  obtain ⟨v, st₀, t, T', L, g0, X', hL, e1, e2, hqa, sg⟩ := hr T hT X
  obtain ⟨hv, hw, hz, hk⟩ := hq _ _ _ hqa
  cases hv
  rw [g0] at hz hk
  have ha : s.vm.Alike t.vm := by rw [← e2]; exact X'.warmed.alike
  obtain ⟨t2, a1, b1⟩ := kk T'.heap (locs ++ L) (by rw [e1]; exact mow_moved ha.symm hw)
    ⟨Nat.le_trans hS.1 (by rw [e1]; exact hz), fun q h1 h2 => by rw [e1, hk q (Nat.lt_of_lt_of_le h1 hS.1) h2]; exact hS.2.1 q h1 h2, fun q hq => by
      rcases List.mem_append.mp hq with h | h
      · exact hS.2.2 q h
      · exact hL q h⟩ T' rfl X'
  exact ⟨t2, sg t2 a1, b1⟩
theorem mo_recv (hw : MOw D cI cL m0 ra rb rc S s H) : ∃ cell : Cell, H[m0]? = some cell ∧ cell.vm.isStatics = false ∧ s.vm.findClass "FloatUnitModel" = some cell.cls := by
  obtain ⟨⟨a1, a2, a3, a4, a5, a6, a7, a8, a9⟩, ⟨b1, b2⟩, ⟨c1, c2⟩, d1, d2, d3⟩ := S
  exact va_recv hw.2.1 hw.1 (ci := 1) (q := ("FloatUnitModel", TM, 16)) rfl (q0 := 0) rfl
theorem mo_V (F : CallFix p m c cc nL s args Ts own) (hM : MoM l D cI cL m0 ra rb rc y ws rm As S ov S1) (cw : CallW R s args own "FloatUnitModel" index y bytes maxL ret ws rm 0 0 n) (hw : MOw D cI cL m0 ra rb rc S s H) (hS : va_S (mA m0 ra rb rc) s.heap H locs)
    (hn : As.length = n) (hsize : ls.size = nL) (hstack : st = As.reverse ++ .ref m0 :: rest) (hW : (rest.map fun v => v.category).sum ≤ 8) (hdg : decode cc pc = .ok (.invokevirtual index, 3)) (hf : cells ≤ R.cells ∧ slots ≤ R.slots)
    (kk : ∀ (H1 : Heap) (locs1 : List Loc), MOw D cI cL m0 ra rb rc S1 s H1 → va_S (mA m0 ra rb rc) s.heap H1 locs1 → W p l e R s m args below meth c H1 locs1 cells slots Q (F0 m (pc + 3) ls (ov.toList ++ rest))) : W p l e R s m args below meth c H locs cells slots Q (F0 m pc ls st) :=
  mo_go (va_runV (g := F0 m pc ls st) (mc := 0) (ms := 0) F hM cw
    ⟨fun a U g mk q => ⟨q.1, mow_moved (u := U) (U := U.calling g mk a) (Vm.Alike.refl U.vm) q.2⟩, mo_recv hw,
      fun U hU hWm => ⟨rfl, by show MOw D cI cL m0 ra rb rc S U U.heap; rw [hU]; exact mow_moved hWm.alike hw⟩⟩ rfl hn hsize hstack (lv_room hW) hdg hf) (fun _ _ _ h => h) hS kk
/-- a static method that looks at its arguments alone -/
def PuS (l : Launch) (y : MethodName) (ws : List Cond) (rm : Room) (av : List Value) (v : Value) : Prop :=
  ∀ Hc : Heap, Met l y ws rm (va_Pc av (fun U => U.heap = Hc)) (fun _ _ oc t => oc = .returned (some v) ∧ t.heap = Hc) 0 0 nA
theorem ps_S {v : Value} (F : CallFix p m c cc nL s args Ts own) (hM : PuS l y ws rm As v) (cw : CallB R s args own index y bytes maxL ret ws rm 0 0 n ∧ (Cond.static y).before args s = true)
    (hn : As.length = n) (hsize : ls.size = nL) (hstack : st = As.reverse ++ rest) (hW : (rest.map fun v => v.category).sum ≤ 8) (hdg : decode cc pc = .ok (.invokestatic index, 3)) (hf : cells ≤ R.cells ∧ slots ≤ R.slots)
    (kk : W p l e R s m args below meth c H locs cells slots Q (F0 m (pc + 3) ls (v :: rest))) : W p l e R s m args below meth c H locs cells slots Q (F0 m pc ls st) :=
  pu_go (va_runS (g := F0 m pc ls st) (mc := 0) (ms := 0) F (hM H) cw ⟨fun a U g mk q => ⟨q.1, q.2⟩, fun U hU hWm => ⟨rfl, hU⟩⟩ rfl hn hsize hstack (lv_room hW) hdg hf) kk
end MO
section MOof
variable {l : Launch} {D : va_G} {cI cL : ClassId} {m0 ra rb rc : Nat} {y : MethodName} {ws ws' : List Cond} {rm : Room} {av : List Value} {S S1 : MS} {cc : ByteArray} {maxL : Nat}
theorem mo_ofL {r : Int64} (hy : plainName y.cls = true) (hw : ws = Cond.code y cc maxL (some .long) :: ws') (hn : (lg_sl (.ref m0 :: av)).length ≤ maxL)
    (body : ∀ (p : Program) (e : Env) (s : State) (m : MethodId) (args : Array Value) (below : List Frame) (meth : Method) (c : Code) (Q : State → Prop), p.tables.exec = Jvm.exec → c.code = cc → c.maxLocals = maxL → s.vm.findClass y.cls = some m.cls → (∀ w ∈ ws, w.before args s = true) → ∀ (H : Heap) (locs : List Loc), va_S (mA m0 ra rb rc) s.heap H locs → MOw D cI cL m0 ra rb rc S s H →
      (∀ (pc : Nat) (ls : Array Slot) (v : Int64) (S2 : MS) (H : Heap) (locs : List Loc), v = r → S2 = S1 → MOw D cI cL m0 ra rb rc S2 s H → va_S (mA m0 ra rb rc) s.heap H locs → decode cc pc = .ok (.lreturn, 1) → W p l e rm s m args below meth c H locs 0 0 Q (F0 m pc ls [.long v])) → ∀ ls : Array Slot, lv_has ls maxL (lv_args 0 (.ref m0 :: av)) → W p l e rm s m args below meth c H locs 0 0 Q (F0 m 0 ls [])) :
    MoM l D cI cL m0 ra rb rc y ws rm av S (some (.long r)) S1 := by
  refine Met.ofW (cc := cc) (maxL := maxL) (ret := (some .long)) hy hw ?_
  intro p e s m args below meth c s₁ B hml hv
  obtain ⟨rfl, hh⟩ := hv
  rw [lg_entry_eq]
  exact body p e s m _ below meth c _ B.exec B.bytes hml (findClass_of_methodNamed B.named) (atoms_spec B.pre) s.heap [] va_S.rf hh (fun pc ls v S2 H locs hv e1 hw hS hd => by subst hv e1; exact W.lret B.exec B.bytes B.returns (fun t ht hW => ⟨rfl, by rw [ht]; exact mow_moved hW.alike hw, hS.F ht⟩) hS.2.2 hd B.notSynchronized) _ (lv_entry _ hn)
theorem ps_ofL {r : Int64} (hy : plainName y.cls = true) (hw : ws = Cond.code y cc maxL (some .long) :: ws') (hn : (lg_sl av).length ≤ maxL)
    (body : ∀ (p : Program) (e : Env) (s : State) (m : MethodId) (args : Array Value) (below : List Frame) (meth : Method) (c : Code) (Q : State → Prop), p.tables.exec = Jvm.exec → c.code = cc → c.maxLocals = maxL → s.vm.findClass y.cls = some m.cls → (∀ w ∈ ws, w.before args s = true) →
      (∀ (pc : Nat) (ls : Array Slot) (v : Int64), v = r → decode cc pc = .ok (.lreturn, 1) → W p l e rm s m args below meth c s.heap [] 0 0 Q (F0 m pc ls [.long v])) → ∀ ls : Array Slot, lv_has ls maxL (lv_args 0 av) → W p l e rm s m args below meth c s.heap [] 0 0 Q (F0 m 0 ls [])) :
    PuS l y ws rm av ((.long r)) := by
  intro Hc
  refine Met.ofW (cc := cc) (maxL := maxL) (ret := (some .long)) hy hw ?_
  intro p e s m args below meth c s₁ B hml hv
  obtain ⟨rfl, hh⟩ := hv
  subst hh
  rw [lg_entry_eq]
  exact body p e s m _ below meth c _ B.exec B.bytes hml (findClass_of_methodNamed B.named) (atoms_spec B.pre) (fun pc ls v hv hd => by subst hv; exact W.lret B.exec B.bytes B.returns (fun t ht hW => ⟨rfl, ht⟩) (fun q hq => nomatch hq) hd B.notSynchronized) _ (lv_entry av hn)
theorem mo_ofI {r : Int32} (hy : plainName y.cls = true) (hw : ws = Cond.code y cc maxL (some .int) :: ws') (hn : (lg_sl (.ref m0 :: av)).length ≤ maxL)
    (body : ∀ (p : Program) (e : Env) (s : State) (m : MethodId) (args : Array Value) (below : List Frame) (meth : Method) (c : Code) (Q : State → Prop), p.tables.exec = Jvm.exec → c.code = cc → c.maxLocals = maxL → s.vm.findClass y.cls = some m.cls → (∀ w ∈ ws, w.before args s = true) → ∀ (H : Heap) (locs : List Loc), va_S (mA m0 ra rb rc) s.heap H locs → MOw D cI cL m0 ra rb rc S s H →
      (∀ (pc : Nat) (ls : Array Slot) (v : Int32) (S2 : MS) (H : Heap) (locs : List Loc), v = r → S2 = S1 → MOw D cI cL m0 ra rb rc S2 s H → va_S (mA m0 ra rb rc) s.heap H locs → decode cc pc = .ok (.ireturn, 1) → W p l e rm s m args below meth c H locs 0 0 Q (F0 m pc ls [.int v])) → ∀ ls : Array Slot, lv_has ls maxL (lv_args 0 (.ref m0 :: av)) → W p l e rm s m args below meth c H locs 0 0 Q (F0 m 0 ls [])) :
    MoM l D cI cL m0 ra rb rc y ws rm av S (some (.int r)) S1 := by
  refine Met.ofW (cc := cc) (maxL := maxL) (ret := (some .int)) hy hw ?_
  intro p e s m args below meth c s₁ B hml hv
  obtain ⟨rfl, hh⟩ := hv
  rw [lg_entry_eq]
  exact body p e s m _ below meth c _ B.exec B.bytes hml (findClass_of_methodNamed B.named) (atoms_spec B.pre) s.heap [] va_S.rf hh (fun pc ls v S2 H locs hv e1 hw hS hd => by subst hv e1; exact W.iret B.exec B.bytes B.returns (fun t ht hW => ⟨rfl, by rw [ht]; exact mow_moved hW.alike hw, hS.F ht⟩) hS.2.2 hd B.notSynchronized) _ (lv_entry _ hn)
theorem ps_ofI {r : Int32} (hy : plainName y.cls = true) (hw : ws = Cond.code y cc maxL (some .int) :: ws') (hn : (lg_sl av).length ≤ maxL)
    (body : ∀ (p : Program) (e : Env) (s : State) (m : MethodId) (args : Array Value) (below : List Frame) (meth : Method) (c : Code) (Q : State → Prop), p.tables.exec = Jvm.exec → c.code = cc → c.maxLocals = maxL → s.vm.findClass y.cls = some m.cls → (∀ w ∈ ws, w.before args s = true) →
      (∀ (pc : Nat) (ls : Array Slot) (v : Int32), v = r → decode cc pc = .ok (.ireturn, 1) → W p l e rm s m args below meth c s.heap [] 0 0 Q (F0 m pc ls [.int v])) → ∀ ls : Array Slot, lv_has ls maxL (lv_args 0 av) → W p l e rm s m args below meth c s.heap [] 0 0 Q (F0 m 0 ls [])) :
    PuS l y ws rm av ((.int r)) := by
  intro Hc
  refine Met.ofW (cc := cc) (maxL := maxL) (ret := (some .int)) hy hw ?_
  intro p e s m args below meth c s₁ B hml hv
  obtain ⟨rfl, hh⟩ := hv
  subst hh
  rw [lg_entry_eq]
  exact body p e s m _ below meth c _ B.exec B.bytes hml (findClass_of_methodNamed B.named) (atoms_spec B.pre) (fun pc ls v hv hd => by subst hv; exact W.iret B.exec B.bytes B.returns (fun t ht hW => ⟨rfl, ht⟩) (fun q hq => nomatch hq) hd B.notSynchronized) _ (lv_entry av hn)
theorem mo_ofZ {r : Bool} (hy : plainName y.cls = true) (hw : ws = Cond.code y cc maxL (some .boolean) :: ws') (hn : (lg_sl (.ref m0 :: av)).length ≤ maxL)
    (body : ∀ (p : Program) (e : Env) (s : State) (m : MethodId) (args : Array Value) (below : List Frame) (meth : Method) (c : Code) (Q : State → Prop), p.tables.exec = Jvm.exec → c.code = cc → c.maxLocals = maxL → s.vm.findClass y.cls = some m.cls → (∀ w ∈ ws, w.before args s = true) → ∀ (H : Heap) (locs : List Loc), va_S (mA m0 ra rb rc) s.heap H locs → MOw D cI cL m0 ra rb rc S s H →
      (∀ (pc : Nat) (ls : Array Slot) (v : Int32) (S2 : MS) (H : Heap) (locs : List Loc), v = bI r → S2 = S1 → MOw D cI cL m0 ra rb rc S2 s H → va_S (mA m0 ra rb rc) s.heap H locs → decode cc pc = .ok (.ireturn, 1) → W p l e rm s m args below meth c H locs 0 0 Q (F0 m pc ls [.int v])) → ∀ ls : Array Slot, lv_has ls maxL (lv_args 0 (.ref m0 :: av)) → W p l e rm s m args below meth c H locs 0 0 Q (F0 m 0 ls [])) :
    MoM l D cI cL m0 ra rb rc y ws rm av S (some (.int (bI r))) S1 := by
  refine Met.ofW (cc := cc) (maxL := maxL) (ret := (some .boolean)) hy hw ?_
  intro p e s m args below meth c s₁ B hml hv
  obtain ⟨rfl, hh⟩ := hv
  rw [lg_entry_eq]
  exact body p e s m _ below meth c _ B.exec B.bytes hml (findClass_of_methodNamed B.named) (atoms_spec B.pre) s.heap [] va_S.rf hh (fun pc ls v S2 H locs hv e1 hw hS hd => by subst hv e1; exact W.zret B.exec B.bytes B.returns (bI_narrow r) (fun t ht hW => ⟨rfl, by rw [ht]; exact mow_moved hW.alike hw, hS.F ht⟩) hS.2.2 hd B.notSynchronized) _ (lv_entry _ hn)
theorem ps_ofZ {r : Bool} (hy : plainName y.cls = true) (hw : ws = Cond.code y cc maxL (some .boolean) :: ws') (hn : (lg_sl av).length ≤ maxL)
    (body : ∀ (p : Program) (e : Env) (s : State) (m : MethodId) (args : Array Value) (below : List Frame) (meth : Method) (c : Code) (Q : State → Prop), p.tables.exec = Jvm.exec → c.code = cc → c.maxLocals = maxL → s.vm.findClass y.cls = some m.cls → (∀ w ∈ ws, w.before args s = true) →
      (∀ (pc : Nat) (ls : Array Slot) (v : Int32), v = bI r → decode cc pc = .ok (.ireturn, 1) → W p l e rm s m args below meth c s.heap [] 0 0 Q (F0 m pc ls [.int v])) → ∀ ls : Array Slot, lv_has ls maxL (lv_args 0 av) → W p l e rm s m args below meth c s.heap [] 0 0 Q (F0 m 0 ls [])) :
    PuS l y ws rm av ((.int (bI r))) := by
  intro Hc
  refine Met.ofW (cc := cc) (maxL := maxL) (ret := (some .boolean)) hy hw ?_
  intro p e s m args below meth c s₁ B hml hv
  obtain ⟨rfl, hh⟩ := hv
  subst hh
  rw [lg_entry_eq]
  exact body p e s m _ below meth c _ B.exec B.bytes hml (findClass_of_methodNamed B.named) (atoms_spec B.pre) (fun pc ls v hv hd => by subst hv; exact W.zret B.exec B.bytes B.returns (bI_narrow r) (fun t ht hW => ⟨rfl, ht⟩) (fun q hq => nomatch hq) hd B.notSynchronized) _ (lv_entry av hn)
theorem mo_ofV (hy : plainName y.cls = true) (hw : ws = Cond.code y cc maxL none :: ws') (hn : (lg_sl (.ref m0 :: av)).length ≤ maxL)
    (body : ∀ (p : Program) (e : Env) (s : State) (m : MethodId) (args : Array Value) (below : List Frame) (meth : Method) (c : Code) (Q : State → Prop), p.tables.exec = Jvm.exec → c.code = cc → c.maxLocals = maxL → s.vm.findClass y.cls = some m.cls → (∀ w ∈ ws, w.before args s = true) → ∀ (H : Heap) (locs : List Loc), va_S (mA m0 ra rb rc) s.heap H locs → MOw D cI cL m0 ra rb rc S s H →
      (∀ (pc : Nat) (ls : Array Slot) (S2 : MS) (H : Heap) (locs : List Loc), S2 = S1 → MOw D cI cL m0 ra rb rc S2 s H → va_S (mA m0 ra rb rc) s.heap H locs → decode cc pc = .ok (.return_, 1) → W p l e rm s m args below meth c H locs 0 0 Q (F0 m pc ls [])) → ∀ ls : Array Slot, lv_has ls maxL (lv_args 0 (.ref m0 :: av)) → W p l e rm s m args below meth c H locs 0 0 Q (F0 m 0 ls [])) :
    MoM l D cI cL m0 ra rb rc y ws rm av S none S1 := by
  refine Met.ofW (cc := cc) (maxL := maxL) (ret := none) hy hw ?_
  intro p e s m args below meth c s₁ B hml hv
  obtain ⟨rfl, hh⟩ := hv
  rw [lg_entry_eq]
  exact body p e s m _ below meth c _ B.exec B.bytes hml (findClass_of_methodNamed B.named) (atoms_spec B.pre) s.heap [] va_S.rf hh (fun pc ls S2 H locs e1 hw hS hd => by subst e1; exact W.vret B.exec B.bytes B.returns (fun t ht hW => ⟨rfl, by rw [ht]; exact mow_moved hW.alike hw, hS.F ht⟩) hS.2.2 hd B.notSynchronized) _ (lv_entry _ hn)
end MOof
end
section
/-! The reference: its simple methods (by program). -/
def C_M_in (k1 : Int32) (k2 : Int32) : Bool :=
  if k1 < 0 then
    false
  else
    if k2 < k1 then
      false
    else
      true
abbrev rmM_in : Room := { frames := 0, cells := 0, slots := 0, locals := 0 }
theorem cwM_in {R : Room} {s : State} {args : Array Value} {w0 : Cond} {idx : Nat} (hts : ∀ w ∈ (w0 :: bigW), w.before args s = true) (hl : Cond.methodLink "FloatUnitModel" idx yM_in ∈ bigW) (hR : rmM_in.frames + 1 ≤ R.frames ∧ 8 + (2 + 11) + rmM_in.locals ≤ R.locals) : CallB R s args "FloatUnitModel" idx yM_in cM_in 2 (some .boolean) (wsM yM_in cM_in 2 (some .boolean)) rmM_in 0 0 2 ∧ (Cond.static yM_in).before args s = true :=
  cwS 2 hts (big_S hl w_415 w_2 w_416) rfl rfl rfl ⟨rfl, by decide, by decide, by decide +kernel⟩ hR
set_option maxRecDepth 100000 in
set_option maxHeartbeats 8000000 in
theorem c_M_in (l : Launch) (k1 : Int32) (k2 : Int32) : PuS l yM_in (wsM yM_in cM_in 2 (some .boolean)) rmM_in [.int k1, .int k2] (.int (bI (C_M_in k1 k2))) := by
  refine ps_ofZ (cc := cM_in) (maxL := 2) (by decide) rfl (Nat.le_of_ble_eq_true rfl) ?_
  intro p e s m args below meth c Q hx hb hml hown hts hret ls hl
  have hl : lv_has ls 2 [(0, .int k1), (1, .int k2)] := hl
  refine lv_iload_n (pc := 0) hx hb dM_in_0 rfl (lv_at hl 0 rfl) ?_
  refine lv_if_lt (tgt := 13) (pc := 1) hx hb dM_in_1 (by decide) (fun h1 => ?_) (fun h1 => ?_)
  · skip
    refine lv_iconst (v := 0) (pc := 13) hx hb dM_in_13 (by decide) ?_
    have he9 := (show false = C_M_in k1 k2 from by rw [C_M_in, if_pos h1])
    exact hret _ _ _ (congrArg bI he9) dM_in_14
  · skip
    refine lv_iload_n (pc := 4) hx hb dM_in_4 rfl (lv_at hl 0 rfl) ?_
    refine lv_iload_n (pc := 5) hx hb dM_in_5 rfl (lv_at hl 1 rfl) ?_
    refine lv_icmp_gt (tgt := 13) (pc := 6) hx hb dM_in_6 (by decide) (fun h2 => ?_) (fun h2 => ?_)
    · skip
      refine lv_iconst (v := 0) (pc := 13) hx hb dM_in_13 (by decide) ?_
      have he9 := (show false = C_M_in k1 k2 from by rw [C_M_in, if_neg h1, if_pos h2])
      exact hret _ _ _ (congrArg bI he9) dM_in_14
    · skip
      refine lv_iconst (v := 1) (pc := 9) hx hb dM_in_9 (by decide) ?_
      refine lv_goto (tgt := 14) (pc := 10) hx hb dM_in_10 (by decide) ?_
      have he9 := (show true = C_M_in k1 k2 from by rw [C_M_in, if_neg h1, if_neg h2])
      exact hret _ _ _ (congrArg bI he9) dM_in_14
def C_M_bit (x1 : Int64) (k2 : Int32) : Int32 :=
  if k2 < 0 then
    0
  else
    if k2 ≤ 62 then
      ((jShr x1 k2) &&& 1).toInt32
    else
      0
abbrev rmM_bit : Room := { frames := 0, cells := 0, slots := 0, locals := 0 }
theorem cwM_bit {R : Room} {s : State} {args : Array Value} {w0 : Cond} {idx : Nat} (hts : ∀ w ∈ (w0 :: bigW), w.before args s = true) (hl : Cond.methodLink "FloatUnitModel" idx yM_bit ∈ bigW) (hR : rmM_bit.frames + 1 ≤ R.frames ∧ 8 + (3 + 11) + rmM_bit.locals ≤ R.locals) : CallB R s args "FloatUnitModel" idx yM_bit cM_bit 3 (some .int) (wsM yM_bit cM_bit 3 (some .int)) rmM_bit 0 0 2 ∧ (Cond.static yM_bit).before args s = true :=
  cwS 2 hts (big_S hl w_503 w_2 w_504) rfl rfl rfl ⟨rfl, by decide, by decide, by decide +kernel⟩ hR
set_option maxRecDepth 100000 in
set_option maxHeartbeats 8000000 in
theorem c_M_bit (l : Launch) (x1 : Int64) (k2 : Int32) : PuS l yM_bit (wsM yM_bit cM_bit 3 (some .int)) rmM_bit [.long x1, .int k2] (.int (C_M_bit x1 k2)) := by
  refine ps_ofI (cc := cM_bit) (maxL := 3) (by decide) rfl (Nat.le_of_ble_eq_true rfl) ?_
  intro p e s m args below meth c Q hx hb hml hown hts hret ls hl
  have hl : lv_has ls 3 [(0, .long x1), (2, .int k2)] := hl
  refine lv_iload_n (pc := 0) hx hb dM_bit_0 rfl (lv_at hl 1 rfl) ?_
  refine lv_if_lt (tgt := 10) (pc := 1) hx hb dM_bit_1 (by decide) (fun h1 => ?_) (fun h1 => ?_)
  · skip
    refine lv_iconst (v := 0) (pc := 10) hx hb dM_bit_10 (by decide) ?_
    refine lv_goto (tgt := 20) (pc := 11) hx hb dM_bit_11 (by decide) ?_
    have he9 := (show 0 = C_M_bit x1 k2 from by rw [C_M_bit, if_pos h1])
    exact hret _ _ _ he9 dM_bit_20
  · skip
    refine lv_iload_n (pc := 4) hx hb dM_bit_4 rfl (lv_at hl 1 rfl) ?_
    refine lv_bipush (v := 62) (pc := 5) hx hb dM_bit_5 (by decide) ?_
    refine lv_icmp_le (tgt := 14) (pc := 7) hx hb dM_bit_7 (by decide) (fun h2 => ?_) (fun h2 => ?_)
    · skip
      refine lv_lload_n (pc := 14) hx hb dM_bit_14 rfl (lv_at hl 0 rfl) ?_
      refine lv_iload_n (pc := 15) hx hb dM_bit_15 rfl (lv_at hl 1 rfl) ?_
      refine lv_lshr (v := jShr x1 k2) (pc := 16) hx hb dM_bit_16 rfl ?_
      refine lv_lconst (v := 1) (pc := 17) hx hb dM_bit_17 (by decide) ?_
      refine lv_land (pc := 18) hx hb dM_bit_18 ?_
      refine lv_l2i (v := ((jShr x1 k2) &&& 1).toInt32) (pc := 19) hx hb dM_bit_19 rfl ?_
      have he9 := (show ((jShr x1 k2) &&& 1).toInt32 = C_M_bit x1 k2 from by rw [C_M_bit, if_neg h1, if_pos h2])
      exact hret _ _ _ he9 dM_bit_20
    · skip
      refine lv_iconst (v := 0) (pc := 10) hx hb dM_bit_10 (by decide) ?_
      refine lv_goto (tgt := 20) (pc := 11) hx hb dM_bit_11 (by decide) ?_
      have he9 := (show 0 = C_M_bit x1 k2 from by rw [C_M_bit, if_neg h1, if_neg h2])
      exact hret _ _ _ he9 dM_bit_20
abbrev rmM_fails : Room := { frames := 0, cells := 0, slots := 0, locals := 0 }
theorem cwM_fails {R : Room} {s : State} {args : Array Value} {w0 : Cond} {own : String} {idx : Nat} (hts : ∀ w ∈ (w0 :: bigW), w.before args s = true) (hl : Cond.methodLink own idx yM_fails ∈ bigW) (hR : rmM_fails.frames + 1 ≤ R.frames ∧ 8 + (2 + 11) + rmM_fails.locals ≤ R.locals) : CallW R s args own "FloatUnitModel" idx yM_fails cM_fails 2 (some .boolean) (wsM yM_fails cM_fails 2 (some .boolean)) rmM_fails 0 0 1 :=
  cwV 1 hts (big_V hl w_419 sel_M_fails w_2 w_420) rfl rfl rfl ⟨rfl, by decide, by decide, by decide +kernel⟩ hR
set_option maxRecDepth 100000 in
theorem c_M_fails (l : Launch) (D : va_G) (cI cL : ClassId) (m0 ra rb rc : Nat) (md fl er kx ky sx sy px py : Int32) (fx fy : Int64) (pr bi : Int32) (row oth : Nat → Int32) (rg : Nat → Int64) (z1 : Bool) : MoM l D cI cL m0 ra rb rc yM_fails (wsM yM_fails cM_fails 2 (some .boolean)) rmM_fails [.int (bI z1)] ((md, fl, er, kx, ky, sx, sy, px, py), (fx, fy), (pr, bi), row, oth, rg) (some (.int (bI z1))) ((md, fl, (bI z1), kx, ky, sx, sy, px, py), (fx, fy), (pr, bi), row, oth, rg) := by
  refine mo_ofZ (cc := cM_fails) (maxL := 2) (by decide) rfl (Nat.le_of_ble_eq_true rfl) ?_
  intro p e s m args below meth c Q hx hb hml hown hts H locs hS hw hret ls hl
  have hl : lv_has ls 2 [(0, .ref m0), (1, .int (bI z1))] := hl
  refine lv_aload_n (pc := 0) hx hb dM_fails_0 rfl (lv_at hl 0 rfl) ?_
  refine lv_iload_n (pc := 1) hx hb dM_fails_1 rfl (lv_at hl 1 rfl) ?_
  have K : ∀ v : Int32, v = bI z1 → W p l e rmM_fails s m args below meth c H locs 0 0 Q (F0 m 10 ls [.int v, .ref m0]) := by
    intro v hv
    refine mo_p_err (pc := 10) hx hb hts hown hw hS w_361 dM_fails_10 (fun H locs hw hS => ?_)
    refine lv_iload_n (pc := 13) hx hb dM_fails_13 rfl (lv_at hl 1 rfl) ?_
    exact hret _ _ _ _ _ _ rfl (by rw [hv]) hw hS dM_fails_14
  refine lv_if_eq (tgt := 9) (pc := 2) hx hb dM_fails_2 (by decide) (fun h => ?_) (fun h => ?_)
  · refine lv_iconst (v := 0) (pc := 9) hx hb dM_fails_9 (by decide) ?_
    exact K 0 h.symm
  · refine lv_iconst (v := 1) (pc := 5) hx hb dM_fails_5 (by decide) ?_
    refine lv_goto (tgt := 10) (pc := 6) hx hb dM_fails_6 (by decide) ?_
    exact K 1 (by rw [(bI_1 z1).1 h]; rfl)
def C_M_thrown (er : Int32) : Int32 :=
  er
abbrev rmM_thrown : Room := { frames := 0, cells := 0, slots := 0, locals := 0 }
theorem cwM_thrown {R : Room} {s : State} {args : Array Value} {w0 : Cond} {own : String} {idx : Nat} (hts : ∀ w ∈ (w0 :: bigW), w.before args s = true) (hl : Cond.methodLink own idx yM_thrown ∈ bigW) (hR : rmM_thrown.frames + 1 ≤ R.frames ∧ 8 + (1 + 11) + rmM_thrown.locals ≤ R.locals) : CallW R s args own "FloatUnitModel" idx yM_thrown cM_thrown 1 (some .int) (wsM yM_thrown cM_thrown 1 (some .int)) rmM_thrown 0 0 0 :=
  cwV 0 hts (big_V hl w_407 w_408 w_2 w_409) rfl rfl rfl ⟨rfl, by decide, by decide, by decide +kernel⟩ hR
set_option maxRecDepth 100000 in
set_option maxHeartbeats 8000000 in
theorem c_M_thrown (l : Launch) (D : va_G) (cI cL : ClassId) (m0 ra rb rc : Nat) (md fl er kx ky sx sy px py : Int32) (fx fy : Int64) (pr bi : Int32) (row oth : Nat → Int32) (rg : Nat → Int64) : MoM l D cI cL m0 ra rb rc yM_thrown (wsM yM_thrown cM_thrown 1 (some .int)) rmM_thrown [] ((md, fl, er, kx, ky, sx, sy, px, py), (fx, fy), (pr, bi), row, oth, rg) (some (.int (C_M_thrown er))) ((md, fl, er, kx, ky, sx, sy, px, py), (fx, fy), (pr, bi), row, oth, rg) := by
  refine mo_ofI (cc := cM_thrown) (maxL := 1) (by decide) rfl (Nat.le_of_ble_eq_true rfl) ?_
  intro p e s m args below meth c Q hx hb hml hown hts H locs hS hw hret ls hl
  have hl : lv_has ls 1 [(0, .ref m0)] := hl
  refine lv_aload_n (pc := 0) hx hb dM_thrown_0 rfl (lv_at hl 0 rfl) ?_
  refine mo_g_err (pc := 1) hx hb hts hown hw w_361 dM_thrown_1 ?_
  have he9 := (show er = C_M_thrown er from by rw [C_M_thrown])
  exact hret _ _ _ _ _ _ he9 rfl hw hS dM_thrown_4
theorem min_in {k : Int32} (h : ¬ (C_M_in k 15) = false) : vp_in k 16 := by
  unfold C_M_in at h
  rw [vp_in_iff]
  obtain ⟨z, hz, rfl⟩ := iI_of k
  rw [iI_toInt hz]
  have e0 : (0 : Int32) = iI 0 := rfl
  have e15 : (15 : Int32) = iI 15 := rfl
  rw [e0, e15] at h
  have a1 := iI_lt hz (b := 0) ⟨by decide, by decide⟩
  have a2 := iI_lt (a := 15) ⟨by decide, by decide⟩ hz
  by_cases g : z < 0
  · exact absurd (if_pos (a1.2 g)) h
  · by_cases g2 : 15 < z
    · exact absurd (by rw [if_neg (fun q => g (a1.1 q)), if_pos (a2.2 g2)]) h
    · omega
def C_M_format (z1 : Bool) : Int32 × Int32 :=
  if z1 = false then
    (53, 1023)
  else
    (24, 127)
abbrev rmM_format : Room := { frames := 0, cells := 0, slots := 0, locals := 0 }
theorem cwM_format {R : Room} {s : State} {args : Array Value} {w0 : Cond} {own : String} {idx : Nat} (hts : ∀ w ∈ (w0 :: bigW), w.before args s = true) (hl : Cond.methodLink own idx yM_format ∈ bigW) (hR : rmM_format.frames + 1 ≤ R.frames ∧ 8 + (2 + 11) + rmM_format.locals ≤ R.locals) : CallW R s args own "FloatUnitModel" idx yM_format cM_format 2 none (wsM yM_format cM_format 2 none) rmM_format 0 0 1 :=
  cwV 1 hts (big_V hl w_439 sel_M_format w_2 w_440) rfl rfl rfl ⟨rfl, by decide, by decide, by decide +kernel⟩ hR
set_option maxRecDepth 100000 in
set_option maxHeartbeats 8000000 in
theorem c_M_format (l : Launch) (D : va_G) (cI cL : ClassId) (m0 ra rb rc : Nat) (md fl er kx ky sx sy px py : Int32) (fx fy : Int64) (pr bi : Int32) (row oth : Nat → Int32) (rg : Nat → Int64) (z1 : Bool) : MoM l D cI cL m0 ra rb rc yM_format (wsM yM_format cM_format 2 none) rmM_format [.int (bI z1)] ((md, fl, er, kx, ky, sx, sy, px, py), (fx, fy), (pr, bi), row, oth, rg) none ((md, fl, er, kx, ky, sx, sy, px, py), (fx, fy), (((C_M_format z1).1), ((C_M_format z1).2)), row, oth, rg) := by
  refine mo_ofV (cc := cM_format) (maxL := 2) (by decide) rfl (Nat.le_of_ble_eq_true rfl) ?_
  intro p e s m args below meth c Q hx hb hml hown hts H locs hS hw hret ls hl
  have hl : lv_has ls 2 [(0, .ref m0), (1, .int (bI z1))] := hl
  refine lv_aload_n (pc := 0) hx hb dM_format_0 rfl (lv_at hl 0 rfl) ?_
  refine lv_iload_n (pc := 1) hx hb dM_format_1 rfl (lv_at hl 1 rfl) ?_
  refine lv_if_eq (tgt := 10) (pc := 2) hx hb dM_format_2 (by decide) (fun h1 => ?_) (fun h1 => ?_)
  · skip
    have h1 : z1 = false := (bI_0 _).1 h1
    refine lv_bipush (v := 53) (pc := 10) hx hb dM_format_10 (by decide) ?_
    refine mo_p_precision (pc := 12) hx hb hts hown hw hS w_370 dM_format_12 (fun H locs hw hS => ?_)
    refine lv_aload_n (pc := 15) hx hb dM_format_15 rfl (lv_at hl 0 rfl) ?_
    refine lv_iload_n (pc := 16) hx hb dM_format_16 rfl (lv_at hl 1 rfl) ?_
    refine lv_if_eq (tgt := 25) (pc := 17) hx hb dM_format_17 (by decide) (fun h2 => ?_) (fun h2 => ?_)
    · skip
      refine lv_sipush (v := 1023) (pc := 25) hx hb dM_format_25 (by decide) ?_
      refine mo_p_bias (pc := 28) hx hb hts hown hw hS w_371 dM_format_28 (fun H locs hw hS => ?_)
      have he9 := (show (53, 1023) = C_M_format z1 from by rw [C_M_format, if_pos h1])
      exact hret _ _ _ _ _ (by rw [← he9]) hw hS dM_format_31
    · exact absurd h1 (fun q => h2 ((bI_0 _).2 q))
  · skip
    have h1 : ¬ (z1 = false) := fun q => h1 ((bI_0 _).2 q)
    refine lv_bipush (v := 24) (pc := 5) hx hb dM_format_5 (by decide) ?_
    refine lv_goto (tgt := 12) (pc := 7) hx hb dM_format_7 (by decide) ?_
    refine mo_p_precision (pc := 12) hx hb hts hown hw hS w_370 dM_format_12 (fun H locs hw hS => ?_)
    refine lv_aload_n (pc := 15) hx hb dM_format_15 rfl (lv_at hl 0 rfl) ?_
    refine lv_iload_n (pc := 16) hx hb dM_format_16 rfl (lv_at hl 1 rfl) ?_
    refine lv_if_eq (tgt := 25) (pc := 17) hx hb dM_format_17 (by decide) (fun h3 => ?_) (fun h3 => ?_)
    · exact absurd ((bI_0 _).1 h3) h1
    · skip
      refine lv_bipush (v := 127) (pc := 20) hx hb dM_format_20 (by decide) ?_
      refine lv_goto (tgt := 28) (pc := 22) hx hb dM_format_22 (by decide) ?_
      refine mo_p_bias (pc := 28) hx hb hts hown hw hS w_371 dM_format_28 (fun H locs hw hS => ?_)
      have he9 := (show (24, 127) = C_M_format z1 from by rw [C_M_format, if_neg h1])
      exact hret _ _ _ _ _ (by rw [← he9]) hw hS dM_format_31
def C_M_made (pr : Int32) (k1 : Int32) (x2 : Int64) (x3 : Int64) : Int64 :=
  if pr = 24 then
    ((jShl k1.toInt64 (pr + 7)) ||| (jShl x2 (pr - 1))) ||| x3
  else
    ((jShl k1.toInt64 (pr + 10)) ||| (jShl x2 (pr - 1))) ||| x3
abbrev rmM_made : Room := { frames := 0, cells := 0, slots := 0, locals := 0 }
theorem cwM_made {R : Room} {s : State} {args : Array Value} {w0 : Cond} {own : String} {idx : Nat} (hts : ∀ w ∈ (w0 :: bigW), w.before args s = true) (hl : Cond.methodLink own idx yM_made ∈ bigW) (hR : rmM_made.frames + 1 ≤ R.frames ∧ 8 + (6 + 11) + rmM_made.locals ≤ R.locals) : CallW R s args own "FloatUnitModel" idx yM_made cM_made 6 (some .long) (wsM yM_made cM_made 6 (some .long)) rmM_made 0 0 3 :=
  cwV 3 hts (big_V hl w_455 sel_M_made w_2 w_456) rfl rfl rfl ⟨rfl, by decide, by decide, by decide +kernel⟩ hR
set_option maxRecDepth 100000 in
set_option maxHeartbeats 8000000 in
theorem c_M_made (l : Launch) (D : va_G) (cI cL : ClassId) (m0 ra rb rc : Nat) (md fl er kx ky sx sy px py : Int32) (fx fy : Int64) (pr bi : Int32) (row oth : Nat → Int32) (rg : Nat → Int64) (k1 : Int32) (x2 : Int64) (x3 : Int64) : MoM l D cI cL m0 ra rb rc yM_made (wsM yM_made cM_made 6 (some .long)) rmM_made [.int k1, .long x2, .long x3] ((md, fl, er, kx, ky, sx, sy, px, py), (fx, fy), (pr, bi), row, oth, rg) (some (.long (C_M_made pr k1 x2 x3))) ((md, fl, er, kx, ky, sx, sy, px, py), (fx, fy), (pr, bi), row, oth, rg) := by
  refine mo_ofL (cc := cM_made) (maxL := 6) (by decide) rfl (Nat.le_of_ble_eq_true rfl) ?_
  intro p e s m args below meth c Q hx hb hml hown hts H locs hS hw hret ls hl
  have hl : lv_has ls 6 [(0, .ref m0), (1, .int k1), (2, .long x2), (4, .long x3)] := hl
  refine lv_iload_n (pc := 0) hx hb dM_made_0 rfl (lv_at hl 1 rfl) ?_
  refine lv_i2l (v := k1.toInt64) (pc := 1) hx hb dM_made_1 rfl ?_
  refine lv_aload_n (pc := 2) hx hb dM_made_2 rfl (lv_at hl 0 rfl) ?_
  refine mo_g_precision (pc := 3) hx hb hts hown hw w_370 dM_made_3 ?_
  refine lv_aload_n (pc := 6) hx hb dM_made_6 rfl (lv_at hl 0 rfl) ?_
  refine mo_g_precision (pc := 7) hx hb hts hown hw w_370 dM_made_7 ?_
  refine lv_bipush (v := 24) (pc := 10) hx hb dM_made_10 (by decide) ?_
  refine lv_icmp_ne (tgt := 20) (pc := 12) hx hb dM_made_12 (by decide) (fun h1 => ?_) (fun h1 => ?_)
  · skip
    refine lv_bipush (v := 10) (pc := 20) hx hb dM_made_20 (by decide) ?_
    refine lv_iadd (pc := 22) hx hb dM_made_22 ?_
    refine lv_lshl (v := jShl k1.toInt64 (pr + 10)) (pc := 23) hx hb dM_made_23 rfl ?_
    refine lv_lload_n (pc := 24) hx hb dM_made_24 rfl (lv_at hl 2 rfl) ?_
    refine lv_aload_n (pc := 25) hx hb dM_made_25 rfl (lv_at hl 0 rfl) ?_
    refine mo_g_precision (pc := 26) hx hb hts hown hw w_370 dM_made_26 ?_
    refine lv_iconst (v := 1) (pc := 29) hx hb dM_made_29 (by decide) ?_
    refine lv_isub (pc := 30) hx hb dM_made_30 ?_
    refine lv_lshl (v := jShl x2 (pr - 1)) (pc := 31) hx hb dM_made_31 rfl ?_
    refine lv_lor (pc := 32) hx hb dM_made_32 ?_
    refine lv_lload (pc := 33) hx hb dM_made_33 (lv_at hl 3 rfl) ?_
    refine lv_lor (pc := 35) hx hb dM_made_35 ?_
    have he9 := (show ((jShl k1.toInt64 (pr + 10)) ||| (jShl x2 (pr - 1))) ||| x3 = C_M_made pr k1 x2 x3 from by rw [C_M_made, if_neg h1])
    exact hret _ _ _ _ _ _ he9 rfl hw hS dM_made_36
  · skip
    refine lv_bipush (v := 7) (pc := 15) hx hb dM_made_15 (by decide) ?_
    refine lv_goto (tgt := 22) (pc := 17) hx hb dM_made_17 (by decide) ?_
    refine lv_iadd (pc := 22) hx hb dM_made_22 ?_
    refine lv_lshl (v := jShl k1.toInt64 (pr + 7)) (pc := 23) hx hb dM_made_23 rfl ?_
    refine lv_lload_n (pc := 24) hx hb dM_made_24 rfl (lv_at hl 2 rfl) ?_
    refine lv_aload_n (pc := 25) hx hb dM_made_25 rfl (lv_at hl 0 rfl) ?_
    refine mo_g_precision (pc := 26) hx hb hts hown hw w_370 dM_made_26 ?_
    refine lv_iconst (v := 1) (pc := 29) hx hb dM_made_29 (by decide) ?_
    refine lv_isub (pc := 30) hx hb dM_made_30 ?_
    refine lv_lshl (v := jShl x2 (pr - 1)) (pc := 31) hx hb dM_made_31 rfl ?_
    refine lv_lor (pc := 32) hx hb dM_made_32 ?_
    refine lv_lload (pc := 33) hx hb dM_made_33 (lv_at hl 3 rfl) ?_
    refine lv_lor (pc := 35) hx hb dM_made_35 ?_
    have he9 := (show ((jShl k1.toInt64 (pr + 7)) ||| (jShl x2 (pr - 1))) ||| x3 = C_M_made pr k1 x2 x3 from by rw [C_M_made, if_pos h1])
    exact hret _ _ _ _ _ _ he9 rfl hw hS dM_made_36
def C_M_none (pr : Int32) (bi : Int32) : Int64 :=
  C_M_made pr 0 (((2 * bi) + 1).toInt64) (jShl 1 (pr - 2))
abbrev rmM_none : Room := { frames := 1, cells := 0, slots := 0, locals := 25 }
theorem cwM_none {R : Room} {s : State} {args : Array Value} {w0 : Cond} {own : String} {idx : Nat} (hts : ∀ w ∈ (w0 :: bigW), w.before args s = true) (hl : Cond.methodLink own idx yM_none ∈ bigW) (hR : rmM_none.frames + 1 ≤ R.frames ∧ 8 + (1 + 11) + rmM_none.locals ≤ R.locals) : CallW R s args own "FloatUnitModel" idx yM_none cM_none 1 (some .long) (wsM yM_none cM_none 1 (some .long)) rmM_none 0 0 0 :=
  cwV 0 hts (big_V hl w_451 sel_M_none w_2 w_452) rfl rfl rfl ⟨rfl, by decide, by decide, by decide +kernel⟩ hR
set_option maxRecDepth 100000 in
set_option maxHeartbeats 8000000 in
theorem c_M_none (l : Launch) (D : va_G) (cI cL : ClassId) (m0 ra rb rc : Nat) (md fl er kx ky sx sy px py : Int32) (fx fy : Int64) (pr bi : Int32) (row oth : Nat → Int32) (rg : Nat → Int64) : MoM l D cI cL m0 ra rb rc yM_none (wsM yM_none cM_none 1 (some .long)) rmM_none [] ((md, fl, er, kx, ky, sx, sy, px, py), (fx, fy), (pr, bi), row, oth, rg) (some (.long (C_M_none pr bi))) ((md, fl, er, kx, ky, sx, sy, px, py), (fx, fy), (pr, bi), row, oth, rg) := by
  refine mo_ofL (cc := cM_none) (maxL := 1) (by decide) rfl (Nat.le_of_ble_eq_true rfl) ?_
  intro p e s m args below meth c Q hx hb hml hown hts H locs hS hw hret ls hl
  have hl : lv_has ls 1 [(0, .ref m0)] := hl
  refine lv_aload_n (pc := 0) hx hb dM_none_0 rfl (lv_at hl 0 rfl) ?_
  refine lv_iconst (v := 0) (pc := 1) hx hb dM_none_1 (by decide) ?_
  refine lv_iconst (v := 2) (pc := 2) hx hb dM_none_2 (by decide) ?_
  refine lv_aload_n (pc := 3) hx hb dM_none_3 rfl (lv_at hl 0 rfl) ?_
  refine mo_g_bias (pc := 4) hx hb hts hown hw w_371 dM_none_4 ?_
  refine lv_imul (pc := 7) hx hb dM_none_7 ?_
  refine lv_iconst (v := 1) (pc := 8) hx hb dM_none_8 (by decide) ?_
  refine lv_iadd (pc := 9) hx hb dM_none_9 ?_
  refine lv_i2l (v := ((2 * bi) + 1).toInt64) (pc := 10) hx hb dM_none_10 rfl ?_
  refine lv_lconst (v := 1) (pc := 11) hx hb dM_none_11 (by decide) ?_
  refine lv_aload_n (pc := 12) hx hb dM_none_12 rfl (lv_at hl 0 rfl) ?_
  refine mo_g_precision (pc := 13) hx hb hts hown hw w_370 dM_none_13 ?_
  refine lv_iconst (v := 2) (pc := 16) hx hb dM_none_16 (by decide) ?_
  refine lv_isub (pc := 17) hx hb dM_none_17 ?_
  refine lv_lshl (v := jShl 1 (pr - 2)) (pc := 18) hx hb dM_none_18 rfl ?_
  refine mo_V (pc := 19) (rest := []) ⟨hx, hb, hml, hown, hts⟩ (c_M_made l D cI cL m0 ra rb rc md fl er kx ky sx sy px py fx fy pr bi row oth rg 0 (((2 * bi) + 1).toInt64) (jShl 1 (pr - 2))) (cwM_made hts w_453 ⟨by decide, by decide⟩) hw hS rfl hl.1 rfl (Nat.le_of_ble_eq_true rfl) dM_none_19 ⟨Nat.zero_le _, Nat.zero_le _⟩ (fun H locs hw hS => ?_)
  refine W.eq (g2 := F0 m 22 ls [.long (C_M_made pr 0 (((2 * bi) + 1).toInt64) (jShl 1 (pr - 2)))]) rfl ?_
  have he9 := (show C_M_made pr 0 (((2 * bi) + 1).toInt64) (jShl 1 (pr - 2)) = C_M_none pr bi from by rw [C_M_none])
  exact hret _ _ _ _ _ _ he9 rfl hw hS dM_none_22
def C_M_endless (pr : Int32) (bi : Int32) (k1 : Int32) : Int64 :=
  C_M_made pr k1 (((2 * bi) + 1).toInt64) 0
abbrev rmM_endless : Room := { frames := 1, cells := 0, slots := 0, locals := 25 }
theorem cwM_endless {R : Room} {s : State} {args : Array Value} {w0 : Cond} {own : String} {idx : Nat} (hts : ∀ w ∈ (w0 :: bigW), w.before args s = true) (hl : Cond.methodLink own idx yM_endless ∈ bigW) (hR : rmM_endless.frames + 1 ≤ R.frames ∧ 8 + (2 + 11) + rmM_endless.locals ≤ R.locals) : CallW R s args own "FloatUnitModel" idx yM_endless cM_endless 2 (some .long) (wsM yM_endless cM_endless 2 (some .long)) rmM_endless 0 0 1 :=
  cwV 1 hts (big_V hl w_467 sel_M_endless w_2 w_468) rfl rfl rfl ⟨rfl, by decide, by decide, by decide +kernel⟩ hR
set_option maxRecDepth 100000 in
set_option maxHeartbeats 8000000 in
theorem c_M_endless (l : Launch) (D : va_G) (cI cL : ClassId) (m0 ra rb rc : Nat) (md fl er kx ky sx sy px py : Int32) (fx fy : Int64) (pr bi : Int32) (row oth : Nat → Int32) (rg : Nat → Int64) (k1 : Int32) : MoM l D cI cL m0 ra rb rc yM_endless (wsM yM_endless cM_endless 2 (some .long)) rmM_endless [.int k1] ((md, fl, er, kx, ky, sx, sy, px, py), (fx, fy), (pr, bi), row, oth, rg) (some (.long (C_M_endless pr bi k1))) ((md, fl, er, kx, ky, sx, sy, px, py), (fx, fy), (pr, bi), row, oth, rg) := by
  refine mo_ofL (cc := cM_endless) (maxL := 2) (by decide) rfl (Nat.le_of_ble_eq_true rfl) ?_
  intro p e s m args below meth c Q hx hb hml hown hts H locs hS hw hret ls hl
  have hl : lv_has ls 2 [(0, .ref m0), (1, .int k1)] := hl
  refine lv_aload_n (pc := 0) hx hb dM_endless_0 rfl (lv_at hl 0 rfl) ?_
  refine lv_iload_n (pc := 1) hx hb dM_endless_1 rfl (lv_at hl 1 rfl) ?_
  refine lv_iconst (v := 2) (pc := 2) hx hb dM_endless_2 (by decide) ?_
  refine lv_aload_n (pc := 3) hx hb dM_endless_3 rfl (lv_at hl 0 rfl) ?_
  refine mo_g_bias (pc := 4) hx hb hts hown hw w_371 dM_endless_4 ?_
  refine lv_imul (pc := 7) hx hb dM_endless_7 ?_
  refine lv_iconst (v := 1) (pc := 8) hx hb dM_endless_8 (by decide) ?_
  refine lv_iadd (pc := 9) hx hb dM_endless_9 ?_
  refine lv_i2l (v := ((2 * bi) + 1).toInt64) (pc := 10) hx hb dM_endless_10 rfl ?_
  refine lv_lconst (v := 0) (pc := 11) hx hb dM_endless_11 (by decide) ?_
  refine mo_V (pc := 12) (rest := []) ⟨hx, hb, hml, hown, hts⟩ (c_M_made l D cI cL m0 ra rb rc md fl er kx ky sx sy px py fx fy pr bi row oth rg k1 (((2 * bi) + 1).toInt64) 0) (cwM_made hts w_453 ⟨by decide, by decide⟩) hw hS rfl hl.1 rfl (Nat.le_of_ble_eq_true rfl) dM_endless_12 ⟨Nat.zero_le _, Nat.zero_le _⟩ (fun H locs hw hS => ?_)
  refine W.eq (g2 := F0 m 15 ls [.long (C_M_made pr k1 (((2 * bi) + 1).toInt64) 0)]) rfl ?_
  have he9 := (show C_M_made pr k1 (((2 * bi) + 1).toInt64) 0 = C_M_endless pr bi k1 from by rw [C_M_endless])
  exact hret _ _ _ _ _ _ he9 rfl hw hS dM_endless_15
def C_M_invalid (fl : Int32) (pr : Int32) (bi : Int32) : Int64 × Int32 :=
  (C_M_none pr bi, fl ||| 16)
abbrev rmM_invalid : Room := { frames := 2, cells := 0, slots := 0, locals := 45 }
theorem cwM_invalid {R : Room} {s : State} {args : Array Value} {w0 : Cond} {own : String} {idx : Nat} (hts : ∀ w ∈ (w0 :: bigW), w.before args s = true) (hl : Cond.methodLink own idx yM_invalid ∈ bigW) (hR : rmM_invalid.frames + 1 ≤ R.frames ∧ 8 + (1 + 11) + rmM_invalid.locals ≤ R.locals) : CallW R s args own "FloatUnitModel" idx yM_invalid cM_invalid 1 (some .long) (wsM yM_invalid cM_invalid 1 (some .long)) rmM_invalid 0 0 0 :=
  cwV 0 hts (big_V hl w_463 sel_M_invalid w_2 w_464) rfl rfl rfl ⟨rfl, by decide, by decide, by decide +kernel⟩ hR
set_option maxRecDepth 100000 in
set_option maxHeartbeats 8000000 in
theorem c_M_invalid (l : Launch) (D : va_G) (cI cL : ClassId) (m0 ra rb rc : Nat) (md fl er kx ky sx sy px py : Int32) (fx fy : Int64) (pr bi : Int32) (row oth : Nat → Int32) (rg : Nat → Int64) : MoM l D cI cL m0 ra rb rc yM_invalid (wsM yM_invalid cM_invalid 1 (some .long)) rmM_invalid [] ((md, fl, er, kx, ky, sx, sy, px, py), (fx, fy), (pr, bi), row, oth, rg) (some (.long ((C_M_invalid fl pr bi).1))) ((md, ((C_M_invalid fl pr bi).2), er, kx, ky, sx, sy, px, py), (fx, fy), (pr, bi), row, oth, rg) := by
  refine mo_ofL (cc := cM_invalid) (maxL := 1) (by decide) rfl (Nat.le_of_ble_eq_true rfl) ?_
  intro p e s m args below meth c Q hx hb hml hown hts H locs hS hw hret ls hl
  have hl : lv_has ls 1 [(0, .ref m0)] := hl
  refine lv_aload_n (pc := 0) hx hb dM_invalid_0 rfl (lv_at hl 0 rfl) ?_
  refine lv_dup (pc := 1) hx hb dM_invalid_1 rfl ?_
  refine mo_g_flags (pc := 2) hx hb hts hown hw w_360 dM_invalid_2 ?_
  refine lv_bipush (v := 16) (pc := 5) hx hb dM_invalid_5 (by decide) ?_
  refine lv_ior (pc := 7) hx hb dM_invalid_7 ?_
  refine mo_p_flags (pc := 8) hx hb hts hown hw hS w_360 dM_invalid_8 (fun H locs hw hS => ?_)
  refine lv_aload_n (pc := 11) hx hb dM_invalid_11 rfl (lv_at hl 0 rfl) ?_
  refine mo_V (pc := 12) (rest := []) ⟨hx, hb, hml, hown, hts⟩ (c_M_none l D cI cL m0 ra rb rc md (fl ||| 16) er kx ky sx sy px py fx fy pr bi row oth rg ) (cwM_none hts w_449 ⟨by decide, by decide⟩) hw hS rfl hl.1 rfl (Nat.le_of_ble_eq_true rfl) dM_invalid_12 ⟨Nat.zero_le _, Nat.zero_le _⟩ (fun H locs hw hS => ?_)
  refine W.eq (g2 := F0 m 15 ls [.long (C_M_none pr bi)]) rfl ?_
  have he9 := (show (C_M_none pr bi, fl ||| 16) = C_M_invalid fl pr bi from by rw [C_M_invalid])
  exact hret _ _ _ _ _ _ (congrArg Prod.fst he9) (by rw [← he9]) hw hS dM_invalid_15
def C_M_take_130 (kx9 : Int32) (sx9 : Int32) (pr : Int32) (bi : Int32) (u5 : Int32) (v1 : Int64) : Int32 × Int32 × Int32 × Int64 :=
  if u5 = 0 then
    (kx9, sx9, (1 - bi) - (pr - 1), v1)
  else
    (kx9, sx9, (u5 - bi) - (pr - 1), v1)
def C_M_take_105 (sx9 : Int32) (pr : Int32) (bi : Int32) (u5 : Int32) (u6 : Int64) (v1 : Int32) : Int32 × Int32 × Int32 × Int64 :=
  if u5 = 0 then
    C_M_take_130 v1 sx9 pr bi u5 u6
  else
    C_M_take_130 v1 sx9 pr bi u5 (u6 + (jShl 1 (pr - 1)))
def C_M_take_23 (pr : Int32) (bi : Int32) (u2 : Int64) (u4 : Int32) : Int32 × Int32 × Int32 × Int64 :=
  if ((2 * bi) + 1) ≤ (((jUshr u2 (pr - 1)).toInt32) &&& (((1 : Int32) <<< (u4 &&& 31)) - 1)) then
    if (u2 &&& ((jShl 1 (pr - 1)) - 1)) = 0 then
      C_M_take_105 (((jUshr u2 ((pr - 1) + u4)).toInt32) &&& 1) pr bi (((jUshr u2 (pr - 1)).toInt32) &&& (((1 : Int32) <<< (u4 &&& 31)) - 1)) (u2 &&& ((jShl 1 (pr - 1)) - 1)) 1
    else
      C_M_take_105 (((jUshr u2 ((pr - 1) + u4)).toInt32) &&& 1) pr bi (((jUshr u2 (pr - 1)).toInt32) &&& (((1 : Int32) <<< (u4 &&& 31)) - 1)) (u2 &&& ((jShl 1 (pr - 1)) - 1)) 0
  else
    C_M_take_105 (((jUshr u2 ((pr - 1) + u4)).toInt32) &&& 1) pr bi (((jUshr u2 (pr - 1)).toInt32) &&& (((1 : Int32) <<< (u4 &&& 31)) - 1)) (u2 &&& ((jShl 1 (pr - 1)) - 1)) 2
def C_M_take (pr : Int32) (bi : Int32) (rg : Nat → Int64) (k1 : Int32) : Int32 × Int32 × Int32 × Int64 :=
  if pr = 24 then
    C_M_take_23 pr bi (rg k1.toNatClampNeg) 8
  else
    C_M_take_23 pr bi (rg k1.toNatClampNeg) 11
abbrev rmM_take : Room := { frames := 0, cells := 0, slots := 0, locals := 0 }
theorem cwM_take {R : Room} {s : State} {args : Array Value} {w0 : Cond} {own : String} {idx : Nat} (hts : ∀ w ∈ (w0 :: bigW), w.before args s = true) (hl : Cond.methodLink own idx yM_take ∈ bigW) (hR : rmM_take.frames + 1 ≤ R.frames ∧ 8 + (8 + 11) + rmM_take.locals ≤ R.locals) : CallW R s args own "FloatUnitModel" idx yM_take cM_take 8 none (wsM yM_take cM_take 8 none) rmM_take 0 0 1 :=
  cwV 1 hts (big_V hl w_447 sel_M_take w_2 w_448) rfl rfl rfl ⟨rfl, by decide, by decide, by decide +kernel⟩ hR
set_option maxRecDepth 100000 in
set_option maxHeartbeats 8000000 in
theorem c_M_take (l : Launch) (D : va_G) (cI cL : ClassId) (m0 ra rb rc : Nat) (md fl er kx ky sx sy px py : Int32) (fx fy : Int64) (pr bi : Int32) (row oth : Nat → Int32) (rg : Nat → Int64) (k1 : Int32) (h_k1 : vp_in k1 16) : MoM l D cI cL m0 ra rb rc yM_take (wsM yM_take cM_take 8 none) rmM_take [.int k1] ((md, fl, er, kx, ky, sx, sy, px, py), (fx, fy), (pr, bi), row, oth, rg) none ((md, fl, er, ((C_M_take pr bi rg k1).1), ky, ((C_M_take pr bi rg k1).2.1), sy, ((C_M_take pr bi rg k1).2.2.1), py), (((C_M_take pr bi rg k1).2.2.2), fy), (pr, bi), row, oth, rg) := by
  refine mo_ofV (cc := cM_take) (maxL := 8) (by decide) rfl (Nat.le_of_ble_eq_true rfl) ?_
  intro p e s m args below meth c Q hx hb hml hown hts H locs hS hw hret ls hl
  have hl : lv_has ls 8 [(0, .ref m0), (1, .int k1)] := hl
  have J130 : ∀ (kx9 : Int32) (sx9 : Int32) (px9 : Int32) (fx9 : Int64) (u5 : Int32) (v1 : Int64) (ls : Array Slot) (H : Heap) (locs : List Loc), lv_has ls 8 [(0, .ref m0), (5, .int u5)] → MOw D cI cL m0 ra rb rc ((md, fl, er, kx9, ky, sx9, sy, px9, py), (fx9, fy), (pr, bi), row, oth, rg) s H → va_S (mA m0 ra rb rc) s.heap H locs → C_M_take_130 kx9 sx9 pr bi u5 v1 = C_M_take pr bi rg k1 → W p l e rmM_take s m args below meth c H locs 0 0 Q (F0 m 130 ls [.long v1, .ref m0]) := by
    intro kx9 sx9 px9 fx9 u5 v1 ls H locs hl hw hS he
    refine mo_p_partX (pc := 130) hx hb hts hown hw hS w_368 dM_take_130 (fun H locs hw hS => ?_)
    refine lv_aload_n (pc := 133) hx hb dM_take_133 rfl (lv_at hl 0 rfl) ?_
    refine lv_iload (pc := 134) hx hb dM_take_134 (lv_at hl 1 rfl) ?_
    refine lv_if_ne (tgt := 143) (pc := 136) hx hb dM_take_136 (by decide) (fun h301 => ?_) (fun h301 => ?_)
    · skip
      refine lv_iload (pc := 143) hx hb dM_take_143 (lv_at hl 1 rfl) ?_
      refine lv_aload_n (pc := 145) hx hb dM_take_145 rfl (lv_at hl 0 rfl) ?_
      refine mo_g_bias (pc := 146) hx hb hts hown hw w_371 dM_take_146 ?_
      refine lv_isub (pc := 149) hx hb dM_take_149 ?_
      refine lv_aload_n (pc := 150) hx hb dM_take_150 rfl (lv_at hl 0 rfl) ?_
      refine mo_g_precision (pc := 151) hx hb hts hown hw w_370 dM_take_151 ?_
      refine lv_iconst (v := 1) (pc := 154) hx hb dM_take_154 (by decide) ?_
      refine lv_isub (pc := 155) hx hb dM_take_155 ?_
      refine lv_isub (pc := 156) hx hb dM_take_156 ?_
      refine mo_p_powerX (pc := 157) hx hb hts hown hw hS w_366 dM_take_157 (fun H locs hw hS => ?_)
      have he9 := (show (kx9, sx9, (u5 - bi) - (pr - 1), v1) = C_M_take_130 kx9 sx9 pr bi u5 v1 from by rw [C_M_take_130, if_neg h301]).trans he
      exact hret _ _ _ _ _ (by rw [← he9]) hw hS dM_take_160
    · skip
      refine lv_iconst (v := 1) (pc := 139) hx hb dM_take_139 (by decide) ?_
      refine lv_goto (tgt := 145) (pc := 140) hx hb dM_take_140 (by decide) ?_
      refine lv_aload_n (pc := 145) hx hb dM_take_145 rfl (lv_at hl 0 rfl) ?_
      refine mo_g_bias (pc := 146) hx hb hts hown hw w_371 dM_take_146 ?_
      refine lv_isub (pc := 149) hx hb dM_take_149 ?_
      refine lv_aload_n (pc := 150) hx hb dM_take_150 rfl (lv_at hl 0 rfl) ?_
      refine mo_g_precision (pc := 151) hx hb hts hown hw w_370 dM_take_151 ?_
      refine lv_iconst (v := 1) (pc := 154) hx hb dM_take_154 (by decide) ?_
      refine lv_isub (pc := 155) hx hb dM_take_155 ?_
      refine lv_isub (pc := 156) hx hb dM_take_156 ?_
      refine mo_p_powerX (pc := 157) hx hb hts hown hw hS w_366 dM_take_157 (fun H locs hw hS => ?_)
      have he9 := (show (kx9, sx9, (1 - bi) - (pr - 1), v1) = C_M_take_130 kx9 sx9 pr bi u5 v1 from by rw [C_M_take_130, if_pos h301]).trans he
      exact hret _ _ _ _ _ (by rw [← he9]) hw hS dM_take_160
  have J105 : ∀ (kx9 : Int32) (sx9 : Int32) (px9 : Int32) (fx9 : Int64) (u5 : Int32) (u6 : Int64) (v1 : Int32) (ls : Array Slot) (H : Heap) (locs : List Loc), lv_has ls 8 [(0, .ref m0), (5, .int u5), (6, .long u6)] → MOw D cI cL m0 ra rb rc ((md, fl, er, kx9, ky, sx9, sy, px9, py), (fx9, fy), (pr, bi), row, oth, rg) s H → va_S (mA m0 ra rb rc) s.heap H locs → C_M_take_105 sx9 pr bi u5 u6 v1 = C_M_take pr bi rg k1 → W p l e rmM_take s m args below meth c H locs 0 0 Q (F0 m 105 ls [.int v1, .ref m0]) := by
    intro kx9 sx9 px9 fx9 u5 u6 v1 ls H locs hl hw hS he
    refine mo_p_kindX (pc := 105) hx hb hts hown hw hS w_362 dM_take_105 (fun H locs hw hS => ?_)
    refine lv_aload_n (pc := 108) hx hb dM_take_108 rfl (lv_at hl 0 rfl) ?_
    refine lv_iload (pc := 109) hx hb dM_take_109 (lv_at hl 1 rfl) ?_
    refine lv_if_ne (tgt := 119) (pc := 111) hx hb dM_take_111 (by decide) (fun h201 => ?_) (fun h201 => ?_)
    · skip
      refine lv_lload (pc := 119) hx hb dM_take_119 (lv_at hl 2 rfl) ?_
      refine lv_lconst (v := 1) (pc := 121) hx hb dM_take_121 (by decide) ?_
      refine lv_aload_n (pc := 122) hx hb dM_take_122 rfl (lv_at hl 0 rfl) ?_
      refine mo_g_precision (pc := 123) hx hb hts hown hw w_370 dM_take_123 ?_
      refine lv_iconst (v := 1) (pc := 126) hx hb dM_take_126 (by decide) ?_
      refine lv_isub (pc := 127) hx hb dM_take_127 ?_
      refine lv_lshl (v := jShl 1 (pr - 1)) (pc := 128) hx hb dM_take_128 rfl ?_
      refine lv_ladd (pc := 129) hx hb dM_take_129 ?_
      exact J130 v1 sx9 px9 fx9 u5 (u6 + (jShl 1 (pr - 1))) ls _ _ (lv_sub hl [0, 1] rfl) hw hS ((show C_M_take_130 v1 sx9 pr bi u5 (u6 + (jShl 1 (pr - 1))) = C_M_take_105 sx9 pr bi u5 u6 v1 from by rw [C_M_take_105, if_neg h201]).trans he)
    · skip
      refine lv_lload (pc := 114) hx hb dM_take_114 (lv_at hl 2 rfl) ?_
      refine lv_goto (tgt := 130) (pc := 116) hx hb dM_take_116 (by decide) ?_
      exact J130 v1 sx9 px9 fx9 u5 u6 ls _ _ (lv_sub hl [0, 1] rfl) hw hS ((show C_M_take_130 v1 sx9 pr bi u5 u6 = C_M_take_105 sx9 pr bi u5 u6 v1 from by rw [C_M_take_105, if_pos h201]).trans he)
  have J23 : ∀ (kx9 : Int32) (sx9 : Int32) (px9 : Int32) (fx9 : Int64) (u2 : Int64) (u4 : Int32) (ls : Array Slot) (H : Heap) (locs : List Loc), lv_has ls 8 [(0, .ref m0), (2, .long u2)] → MOw D cI cL m0 ra rb rc ((md, fl, er, kx9, ky, sx9, sy, px9, py), (fx9, fy), (pr, bi), row, oth, rg) s H → va_S (mA m0 ra rb rc) s.heap H locs → C_M_take_23 pr bi u2 u4 = C_M_take pr bi rg k1 → W p l e rmM_take s m args below meth c H locs 0 0 Q (F0 m 23 ls [.int u4]) := by
    intro kx9 sx9 px9 fx9 u2 u4 ls H locs hl hw hS he
    refine lv_istore (lv' := [(4, .int u4), (0, .ref m0), (2, .long u2)]) (pc := 23) hx hb dM_take_23 hl (by decide) rfl (fun ls hl => ?_)
    refine lv_lload_n (pc := 25) hx hb dM_take_25 rfl (lv_at hl 2 rfl) ?_
    refine lv_aload_n (pc := 26) hx hb dM_take_26 rfl (lv_at hl 1 rfl) ?_
    refine mo_g_precision (pc := 27) hx hb hts hown hw w_370 dM_take_27 ?_
    refine lv_iconst (v := 1) (pc := 30) hx hb dM_take_30 (by decide) ?_
    refine lv_isub (pc := 31) hx hb dM_take_31 ?_
    refine lv_lushr (v := jUshr u2 (pr - 1)) (pc := 32) hx hb dM_take_32 rfl ?_
    refine lv_l2i (v := (jUshr u2 (pr - 1)).toInt32) (pc := 33) hx hb dM_take_33 rfl ?_
    refine lv_iconst (v := 1) (pc := 34) hx hb dM_take_34 (by decide) ?_
    refine lv_iload (pc := 35) hx hb dM_take_35 (lv_at hl 0 rfl) ?_
    refine lv_ishl (pc := 37) hx hb dM_take_37 ?_
    refine lv_iconst (v := 1) (pc := 38) hx hb dM_take_38 (by decide) ?_
    refine lv_isub (pc := 39) hx hb dM_take_39 ?_
    refine lv_iand (pc := 40) hx hb dM_take_40 ?_
    refine lv_istore (lv' := [(5, .int (((jUshr u2 (pr - 1)).toInt32) &&& (((1 : Int32) <<< (u4 &&& 31)) - 1))), (4, .int u4), (0, .ref m0), (2, .long u2)]) (pc := 41) hx hb dM_take_41 hl (by decide) rfl (fun ls hl => ?_)
    refine lv_lload_n (pc := 43) hx hb dM_take_43 rfl (lv_at hl 3 rfl) ?_
    refine lv_lconst (v := 1) (pc := 44) hx hb dM_take_44 (by decide) ?_
    refine lv_aload_n (pc := 45) hx hb dM_take_45 rfl (lv_at hl 2 rfl) ?_
    refine mo_g_precision (pc := 46) hx hb hts hown hw w_370 dM_take_46 ?_
    refine lv_iconst (v := 1) (pc := 49) hx hb dM_take_49 (by decide) ?_
    refine lv_isub (pc := 50) hx hb dM_take_50 ?_
    refine lv_lshl (v := jShl 1 (pr - 1)) (pc := 51) hx hb dM_take_51 rfl ?_
    refine lv_lconst (v := 1) (pc := 52) hx hb dM_take_52 (by decide) ?_
    refine lv_lsub (pc := 53) hx hb dM_take_53 ?_
    refine lv_land (pc := 54) hx hb dM_take_54 ?_
    refine lv_lstore (lv' := [(6, .long (u2 &&& ((jShl 1 (pr - 1)) - 1))), (5, .int (((jUshr u2 (pr - 1)).toInt32) &&& (((1 : Int32) <<< (u4 &&& 31)) - 1))), (4, .int u4), (0, .ref m0), (2, .long u2)]) (pc := 55) hx hb dM_take_55 hl (by decide) rfl (fun ls hl => ?_)
    refine lv_aload_n (pc := 57) hx hb dM_take_57 rfl (lv_at hl 3 rfl) ?_
    refine lv_lload_n (pc := 58) hx hb dM_take_58 rfl (lv_at hl 4 rfl) ?_
    refine lv_aload_n (pc := 59) hx hb dM_take_59 rfl (lv_at hl 3 rfl) ?_
    refine mo_g_precision (pc := 60) hx hb hts hown hw w_370 dM_take_60 ?_
    refine lv_iconst (v := 1) (pc := 63) hx hb dM_take_63 (by decide) ?_
    refine lv_isub (pc := 64) hx hb dM_take_64 ?_
    refine lv_iload (pc := 65) hx hb dM_take_65 (lv_at hl 2 rfl) ?_
    refine lv_iadd (pc := 67) hx hb dM_take_67 ?_
    refine lv_lushr (v := jUshr u2 ((pr - 1) + u4)) (pc := 68) hx hb dM_take_68 rfl ?_
    refine lv_l2i (v := (jUshr u2 ((pr - 1) + u4)).toInt32) (pc := 69) hx hb dM_take_69 rfl ?_
    refine lv_iconst (v := 1) (pc := 70) hx hb dM_take_70 (by decide) ?_
    refine lv_iand (pc := 71) hx hb dM_take_71 ?_
    refine mo_p_signX (pc := 72) hx hb hts hown hw hS w_364 dM_take_72 (fun H locs hw hS => ?_)
    refine lv_aload_n (pc := 75) hx hb dM_take_75 rfl (lv_at hl 3 rfl) ?_
    refine lv_iload (pc := 76) hx hb dM_take_76 (lv_at hl 1 rfl) ?_
    refine lv_iconst (v := 2) (pc := 78) hx hb dM_take_78 (by decide) ?_
    refine lv_aload_n (pc := 79) hx hb dM_take_79 rfl (lv_at hl 3 rfl) ?_
    refine mo_g_bias (pc := 80) hx hb hts hown hw w_371 dM_take_80 ?_
    refine lv_imul (pc := 83) hx hb dM_take_83 ?_
    refine lv_iconst (v := 1) (pc := 84) hx hb dM_take_84 (by decide) ?_
    refine lv_iadd (pc := 85) hx hb dM_take_85 ?_
    refine lv_icmp_ge (tgt := 93) (pc := 86) hx hb dM_take_86 (by decide) (fun h101 => ?_) (fun h101 => ?_)
    · skip
      refine lv_lload (pc := 93) hx hb dM_take_93 (lv_at hl 0 rfl) ?_
      refine lv_lconst (v := 0) (pc := 95) hx hb dM_take_95 (by decide) ?_
      refine W.lcmp (pc := 96) hx hb dM_take_96 ?_
      refine lv_if_ne (tgt := 104) (pc := 97) hx hb dM_take_97 (by decide) (fun h102 => ?_) (fun h102 => ?_)
      · skip
        have h102 : ¬ ((u2 &&& ((jShl 1 (pr - 1)) - 1)) = 0) := fun q => h102 ((lg_cmp_eq _ _).2 q)
        refine lv_iconst (v := 0) (pc := 104) hx hb dM_take_104 (by decide) ?_
        exact J105 kx9 (((jUshr u2 ((pr - 1) + u4)).toInt32) &&& 1) px9 fx9 (((jUshr u2 (pr - 1)).toInt32) &&& (((1 : Int32) <<< (u4 &&& 31)) - 1)) (u2 &&& ((jShl 1 (pr - 1)) - 1)) 0 ls _ _ (lv_sub hl [3, 1, 0] rfl) hw hS ((show C_M_take_105 (((jUshr u2 ((pr - 1) + u4)).toInt32) &&& 1) pr bi (((jUshr u2 (pr - 1)).toInt32) &&& (((1 : Int32) <<< (u4 &&& 31)) - 1)) (u2 &&& ((jShl 1 (pr - 1)) - 1)) 0 = C_M_take_23 pr bi u2 u4 from by rw [C_M_take_23, if_pos h101, if_neg h102]).trans he)
      · skip
        have h102 : (u2 &&& ((jShl 1 (pr - 1)) - 1)) = 0 := (lg_cmp_eq _ _).1 h102
        refine lv_iconst (v := 1) (pc := 100) hx hb dM_take_100 (by decide) ?_
        refine lv_goto (tgt := 105) (pc := 101) hx hb dM_take_101 (by decide) ?_
        exact J105 kx9 (((jUshr u2 ((pr - 1) + u4)).toInt32) &&& 1) px9 fx9 (((jUshr u2 (pr - 1)).toInt32) &&& (((1 : Int32) <<< (u4 &&& 31)) - 1)) (u2 &&& ((jShl 1 (pr - 1)) - 1)) 1 ls _ _ (lv_sub hl [3, 1, 0] rfl) hw hS ((show C_M_take_105 (((jUshr u2 ((pr - 1) + u4)).toInt32) &&& 1) pr bi (((jUshr u2 (pr - 1)).toInt32) &&& (((1 : Int32) <<< (u4 &&& 31)) - 1)) (u2 &&& ((jShl 1 (pr - 1)) - 1)) 1 = C_M_take_23 pr bi u2 u4 from by rw [C_M_take_23, if_pos h101, if_pos h102]).trans he)
    · skip
      refine lv_iconst (v := 2) (pc := 89) hx hb dM_take_89 (by decide) ?_
      refine lv_goto (tgt := 105) (pc := 90) hx hb dM_take_90 (by decide) ?_
      exact J105 kx9 (((jUshr u2 ((pr - 1) + u4)).toInt32) &&& 1) px9 fx9 (((jUshr u2 (pr - 1)).toInt32) &&& (((1 : Int32) <<< (u4 &&& 31)) - 1)) (u2 &&& ((jShl 1 (pr - 1)) - 1)) 2 ls _ _ (lv_sub hl [3, 1, 0] rfl) hw hS ((show C_M_take_105 (((jUshr u2 ((pr - 1) + u4)).toInt32) &&& 1) pr bi (((jUshr u2 (pr - 1)).toInt32) &&& (((1 : Int32) <<< (u4 &&& 31)) - 1)) (u2 &&& ((jShl 1 (pr - 1)) - 1)) 2 = C_M_take_23 pr bi u2 u4 from by rw [C_M_take_23, if_neg h101]).trans he)
  refine lv_aload_n (pc := 0) hx hb dM_take_0 rfl (lv_at hl 0 rfl) ?_
  refine mo_g_registers (pc := 1) hx hb hts hown hw w_358 dM_take_1 ?_
  refine lv_iload_n (pc := 4) hx hb dM_take_4 rfl (lv_at hl 1 rfl) ?_
  refine mo_ld (pc := 5) hx hb hw h_k1 dM_take_5 ?_
  refine lv_lstore_n (lv' := [(2, .long (rg k1.toNatClampNeg)), (0, .ref m0), (1, .int k1)]) (pc := 6) hx hb dM_take_6 rfl hl (by decide) rfl (fun ls hl => ?_)
  refine lv_aload_n (pc := 7) hx hb dM_take_7 rfl (lv_at hl 1 rfl) ?_
  refine mo_g_precision (pc := 8) hx hb hts hown hw w_370 dM_take_8 ?_
  refine lv_bipush (v := 24) (pc := 11) hx hb dM_take_11 (by decide) ?_
  refine lv_icmp_ne (tgt := 21) (pc := 13) hx hb dM_take_13 (by decide) (fun h1 => ?_) (fun h1 => ?_)
  · skip
    refine lv_bipush (v := 11) (pc := 21) hx hb dM_take_21 (by decide) ?_
    exact J23 kx sx px fx (rg k1.toNatClampNeg) 11 ls _ _ (lv_sub hl [1, 0] rfl) hw hS ((show C_M_take_23 pr bi (rg k1.toNatClampNeg) 11 = C_M_take pr bi rg k1 from by rw [C_M_take, if_neg h1]))
  · skip
    refine lv_bipush (v := 8) (pc := 16) hx hb dM_take_16 (by decide) ?_
    refine lv_goto (tgt := 23) (pc := 18) hx hb dM_take_18 (by decide) ?_
    exact J23 kx sx px fx (rg k1.toNatClampNeg) 8 ls _ _ (lv_sub hl [1, 0] rfl) hw hS ((show C_M_take_23 pr bi (rg k1.toNatClampNeg) 8 = C_M_take pr bi rg k1 from by rw [C_M_take, if_pos h1]))
def C_M_takeBoth (pr : Int32) (bi : Int32) (rg : Nat → Int64) (k1 : Int32) (k2 : Int32) : Int32 × Int32 × Int32 × Int32 × Int32 × Int32 × Int64 × Int64 :=
  ((C_M_take pr bi rg k1).1, (C_M_take pr bi rg k2).1, (C_M_take pr bi rg k1).2.1, (C_M_take pr bi rg k2).2.1, (C_M_take pr bi rg k1).2.2.1, (C_M_take pr bi rg k2).2.2.1, (C_M_take pr bi rg k1).2.2.2, (C_M_take pr bi rg k2).2.2.2)
abbrev rmM_takeBoth : Room := { frames := 1, cells := 0, slots := 0, locals := 27 }
theorem cwM_takeBoth {R : Room} {s : State} {args : Array Value} {w0 : Cond} {own : String} {idx : Nat} (hts : ∀ w ∈ (w0 :: bigW), w.before args s = true) (hl : Cond.methodLink own idx yM_takeBoth ∈ bigW) (hR : rmM_takeBoth.frames + 1 ≤ R.frames ∧ 8 + (3 + 11) + rmM_takeBoth.locals ≤ R.locals) : CallW R s args own "FloatUnitModel" idx yM_takeBoth cM_takeBoth 3 none (wsM yM_takeBoth cM_takeBoth 3 none) rmM_takeBoth 0 0 2 :=
  cwV 2 hts (big_V hl w_443 sel_M_takeBoth w_2 w_444) rfl rfl rfl ⟨rfl, by decide, by decide, by decide +kernel⟩ hR
set_option maxRecDepth 100000 in
set_option maxHeartbeats 8000000 in
theorem c_M_takeBoth (l : Launch) (D : va_G) (cI cL : ClassId) (m0 ra rb rc : Nat) (md fl er kx ky sx sy px py : Int32) (fx fy : Int64) (pr bi : Int32) (row oth : Nat → Int32) (rg : Nat → Int64) (k1 : Int32) (k2 : Int32) (h_k1 : vp_in k1 16) (h_k2 : vp_in k2 16) : MoM l D cI cL m0 ra rb rc yM_takeBoth (wsM yM_takeBoth cM_takeBoth 3 none) rmM_takeBoth [.int k1, .int k2] ((md, fl, er, kx, ky, sx, sy, px, py), (fx, fy), (pr, bi), row, oth, rg) none ((md, fl, er, ((C_M_takeBoth pr bi rg k1 k2).1), ((C_M_takeBoth pr bi rg k1 k2).2.1), ((C_M_takeBoth pr bi rg k1 k2).2.2.1), ((C_M_takeBoth pr bi rg k1 k2).2.2.2.1), ((C_M_takeBoth pr bi rg k1 k2).2.2.2.2.1), ((C_M_takeBoth pr bi rg k1 k2).2.2.2.2.2.1)), (((C_M_takeBoth pr bi rg k1 k2).2.2.2.2.2.2.1), ((C_M_takeBoth pr bi rg k1 k2).2.2.2.2.2.2.2)), (pr, bi), row, oth, rg) := by
  refine mo_ofV (cc := cM_takeBoth) (maxL := 3) (by decide) rfl (Nat.le_of_ble_eq_true rfl) ?_
  intro p e s m args below meth c Q hx hb hml hown hts H locs hS hw hret ls hl
  have hl : lv_has ls 3 [(0, .ref m0), (1, .int k1), (2, .int k2)] := hl
  refine lv_aload_n (pc := 0) hx hb dM_takeBoth_0 rfl (lv_at hl 0 rfl) ?_
  refine lv_iload_n (pc := 1) hx hb dM_takeBoth_1 rfl (lv_at hl 2 rfl) ?_
  refine mo_V (pc := 2) (rest := []) ⟨hx, hb, hml, hown, hts⟩ (c_M_take l D cI cL m0 ra rb rc md fl er kx ky sx sy px py fx fy pr bi row oth rg k2 h_k2) (cwM_take hts w_445 ⟨by decide, by decide⟩) hw hS rfl hl.1 rfl (Nat.le_of_ble_eq_true rfl) dM_takeBoth_2 ⟨Nat.zero_le _, Nat.zero_le _⟩ (fun H locs hw hS => ?_)
  refine W.eq (g2 := F0 m 5 ls []) rfl ?_
  refine lv_aload_n (pc := 5) hx hb dM_takeBoth_5 rfl (lv_at hl 0 rfl) ?_
  refine lv_aload_n (pc := 6) hx hb dM_takeBoth_6 rfl (lv_at hl 0 rfl) ?_
  refine mo_g_kindX (pc := 7) hx hb hts hown hw w_362 dM_takeBoth_7 ?_
  refine mo_p_kindY (pc := 10) hx hb hts hown hw hS w_363 dM_takeBoth_10 (fun H locs hw hS => ?_)
  refine lv_aload_n (pc := 13) hx hb dM_takeBoth_13 rfl (lv_at hl 0 rfl) ?_
  refine lv_aload_n (pc := 14) hx hb dM_takeBoth_14 rfl (lv_at hl 0 rfl) ?_
  refine mo_g_signX (pc := 15) hx hb hts hown hw w_364 dM_takeBoth_15 ?_
  refine mo_p_signY (pc := 18) hx hb hts hown hw hS w_365 dM_takeBoth_18 (fun H locs hw hS => ?_)
  refine lv_aload_n (pc := 21) hx hb dM_takeBoth_21 rfl (lv_at hl 0 rfl) ?_
  refine lv_aload_n (pc := 22) hx hb dM_takeBoth_22 rfl (lv_at hl 0 rfl) ?_
  refine mo_g_partX (pc := 23) hx hb hts hown hw w_368 dM_takeBoth_23 ?_
  refine mo_p_partY (pc := 26) hx hb hts hown hw hS w_369 dM_takeBoth_26 (fun H locs hw hS => ?_)
  refine lv_aload_n (pc := 29) hx hb dM_takeBoth_29 rfl (lv_at hl 0 rfl) ?_
  refine lv_aload_n (pc := 30) hx hb dM_takeBoth_30 rfl (lv_at hl 0 rfl) ?_
  refine mo_g_powerX (pc := 31) hx hb hts hown hw w_366 dM_takeBoth_31 ?_
  refine mo_p_powerY (pc := 34) hx hb hts hown hw hS w_367 dM_takeBoth_34 (fun H locs hw hS => ?_)
  refine lv_aload_n (pc := 37) hx hb dM_takeBoth_37 rfl (lv_at hl 0 rfl) ?_
  refine lv_iload_n (pc := 38) hx hb dM_takeBoth_38 rfl (lv_at hl 1 rfl) ?_
  refine mo_V (pc := 39) (rest := []) ⟨hx, hb, hml, hown, hts⟩ (c_M_take l D cI cL m0 ra rb rc md fl er ((C_M_take pr bi rg k2).1) ((C_M_take pr bi rg k2).1) ((C_M_take pr bi rg k2).2.1) ((C_M_take pr bi rg k2).2.1) ((C_M_take pr bi rg k2).2.2.1) ((C_M_take pr bi rg k2).2.2.1) ((C_M_take pr bi rg k2).2.2.2) ((C_M_take pr bi rg k2).2.2.2) pr bi row oth rg k1 h_k1) (cwM_take hts w_445 ⟨by decide, by decide⟩) hw hS rfl hl.1 rfl (Nat.le_of_ble_eq_true rfl) dM_takeBoth_39 ⟨Nat.zero_le _, Nat.zero_le _⟩ (fun H locs hw hS => ?_)
  refine W.eq (g2 := F0 m 42 ls []) rfl ?_
  have he9 := (show ((C_M_take pr bi rg k1).1, (C_M_take pr bi rg k2).1, (C_M_take pr bi rg k1).2.1, (C_M_take pr bi rg k2).2.1, (C_M_take pr bi rg k1).2.2.1, (C_M_take pr bi rg k2).2.2.1, (C_M_take pr bi rg k1).2.2.2, (C_M_take pr bi rg k2).2.2.2) = C_M_takeBoth pr bi rg k1 k2 from by rw [C_M_takeBoth])
  exact hret _ _ _ _ _ (by rw [← he9]) hw hS dM_takeBoth_42
def C_M_put (rg : Nat → Int64) (k1 : Int32) (x2 : Int64) : Int64 × Int32 × (Nat → Int64) :=
  if (C_M_in k1 15) = false then
    (0, bI true, rg)
  else
    (rg k1.toNatClampNeg, bI false, vp_updL rg k1.toNatClampNeg x2)
abbrev rmM_put : Room := { frames := 1, cells := 0, slots := 0, locals := 21 }
theorem cwM_put {R : Room} {s : State} {args : Array Value} {w0 : Cond} {own : String} {idx : Nat} (hts : ∀ w ∈ (w0 :: bigW), w.before args s = true) (hl : Cond.methodLink own idx yM_put ∈ bigW) (hR : rmM_put.frames + 1 ≤ R.frames ∧ 8 + (6 + 11) + rmM_put.locals ≤ R.locals) : CallW R s args own "FloatUnitModel" idx yM_put cM_put 6 (some .long) (wsM yM_put cM_put 6 (some .long)) rmM_put 0 0 2 :=
  cwV 2 hts (big_V hl w_411 w_412 w_2 w_413) rfl rfl rfl ⟨rfl, by decide, by decide, by decide +kernel⟩ hR
set_option maxRecDepth 100000 in
set_option maxHeartbeats 8000000 in
theorem c_M_put (l : Launch) (D : va_G) (cI cL : ClassId) (m0 ra rb rc : Nat) (md fl er kx ky sx sy px py : Int32) (fx fy : Int64) (pr bi : Int32) (row oth : Nat → Int32) (rg : Nat → Int64) (k1 : Int32) (x2 : Int64) : MoM l D cI cL m0 ra rb rc yM_put (wsM yM_put cM_put 6 (some .long)) rmM_put [.int k1, .long x2] ((md, fl, er, kx, ky, sx, sy, px, py), (fx, fy), (pr, bi), row, oth, rg) (some (.long ((C_M_put rg k1 x2).1))) ((md, fl, ((C_M_put rg k1 x2).2.1), kx, ky, sx, sy, px, py), (fx, fy), (pr, bi), row, oth, ((C_M_put rg k1 x2).2.2)) := by
  refine mo_ofL (cc := cM_put) (maxL := 6) (by decide) rfl (Nat.le_of_ble_eq_true rfl) ?_
  intro p e s m args below meth c Q hx hb hml hown hts H locs hS hw hret ls hl
  have hl : lv_has ls 6 [(0, .ref m0), (1, .int k1), (2, .long x2)] := hl
  refine lv_aload_n (pc := 0) hx hb dM_put_0 rfl (lv_at hl 0 rfl) ?_
  refine lv_iload_n (pc := 1) hx hb dM_put_1 rfl (lv_at hl 1 rfl) ?_
  refine lv_bipush (v := 15) (pc := 2) hx hb dM_put_2 (by decide) ?_
  refine ps_S (pc := 4) (rest := [.ref m0]) ⟨hx, hb, hml, hown, hts⟩ (c_M_in l k1 15) (cwM_in hts w_414 ⟨by decide, by decide⟩) rfl hl.1 rfl (Nat.le_of_ble_eq_true rfl) dM_put_4 ⟨Nat.zero_le _, Nat.zero_le _⟩ ?_
  refine lv_if_ne (tgt := 14) (pc := 7) hx hb dM_put_7 (by decide) (fun h1 => ?_) (fun h1 => ?_)
  · skip
    have h1 : ¬ ((C_M_in k1 15) = false) := fun q => h1 ((bI_0 _).2 q)
    refine lv_iconst (v := 0) (pc := 14) hx hb dM_put_14 (by decide) ?_
    refine mo_V (pc := 15) (rest := []) ⟨hx, hb, hml, hown, hts⟩ (c_M_fails l D cI cL m0 ra rb rc md fl er kx ky sx sy px py fx fy pr bi row oth rg false) (cwM_fails hts w_417 ⟨by decide, by decide⟩) hw hS rfl hl.1 rfl (Nat.le_of_ble_eq_true rfl) dM_put_15 ⟨Nat.zero_le _, Nat.zero_le _⟩ (fun H locs hw hS => ?_)
    refine W.eq (g2 := F0 m 18 ls [.int 0]) rfl ?_
    refine lv_if_eq (tgt := 23) (pc := 18) hx hb dM_put_18 (by decide) (fun h2 => ?_) (fun h2 => ?_)
    · skip
      refine lv_aload_n (pc := 23) hx hb dM_put_23 rfl (lv_at hl 0 rfl) ?_
      refine mo_g_registers (pc := 24) hx hb hts hown hw w_358 dM_put_24 ?_
      refine lv_iload_n (pc := 27) hx hb dM_put_27 rfl (lv_at hl 1 rfl) ?_
      refine mo_ld (pc := 28) hx hb hw (min_in h1) dM_put_28 ?_
      refine lv_lstore (lv' := [(4, .long (rg k1.toNatClampNeg)), (0, .ref m0), (1, .int k1), (2, .long x2)]) (pc := 29) hx hb dM_put_29 hl (by decide) rfl (fun ls hl => ?_)
      refine lv_aload_n (pc := 31) hx hb dM_put_31 rfl (lv_at hl 1 rfl) ?_
      refine mo_g_registers (pc := 32) hx hb hts hown hw w_358 dM_put_32 ?_
      refine lv_iload_n (pc := 35) hx hb dM_put_35 rfl (lv_at hl 2 rfl) ?_
      refine lv_lload_n (pc := 36) hx hb dM_put_36 rfl (lv_at hl 3 rfl) ?_
      refine mo_st (pc := 37) hx hb hw hS (min_in h1) dM_put_37 (fun H locs hw hS => ?_)
      refine lv_lload (pc := 38) hx hb dM_put_38 (lv_at hl 0 rfl) ?_
      have he9 := (show (rg k1.toNatClampNeg, bI false, vp_updL rg k1.toNatClampNeg x2) = C_M_put rg k1 x2 from by rw [C_M_put, if_neg h1])
      exact hret _ _ _ _ _ _ (congrArg Prod.fst he9) (by rw [← he9]) hw hS dM_put_40
    · exact absurd h2 (by decide)
  · skip
    have h1 : (C_M_in k1 15) = false := (bI_0 _).1 h1
    refine lv_iconst (v := 1) (pc := 10) hx hb dM_put_10 (by decide) ?_
    refine lv_goto (tgt := 15) (pc := 11) hx hb dM_put_11 (by decide) ?_
    refine mo_V (pc := 15) (rest := []) ⟨hx, hb, hml, hown, hts⟩ (c_M_fails l D cI cL m0 ra rb rc md fl er kx ky sx sy px py fx fy pr bi row oth rg true) (cwM_fails hts w_417 ⟨by decide, by decide⟩) hw hS rfl hl.1 rfl (Nat.le_of_ble_eq_true rfl) dM_put_15 ⟨Nat.zero_le _, Nat.zero_le _⟩ (fun H locs hw hS => ?_)
    refine W.eq (g2 := F0 m 18 ls [.int 1]) rfl ?_
    refine lv_if_eq (tgt := 23) (pc := 18) hx hb dM_put_18 (by decide) (fun h3 => ?_) (fun h3 => ?_)
    · exact absurd h3 (by decide)
    · skip
      refine lv_lconst (v := 0) (pc := 21) hx hb dM_put_21 (by decide) ?_
      have he9 := (show (0, bI true, rg) = C_M_put rg k1 x2 from by rw [C_M_put, if_pos h1])
      exact hret _ _ _ _ _ _ (congrArg Prod.fst he9) (by rw [← he9]) hw hS dM_put_22
def C_M_bits (rg : Nat → Int64) (k1 : Int32) : Int64 × Int32 :=
  if (C_M_in k1 15) = false then
    (0, bI true)
  else
    (rg k1.toNatClampNeg, bI false)
abbrev rmM_bits : Room := { frames := 1, cells := 0, slots := 0, locals := 21 }
theorem cwM_bits {R : Room} {s : State} {args : Array Value} {w0 : Cond} {own : String} {idx : Nat} (hts : ∀ w ∈ (w0 :: bigW), w.before args s = true) (hl : Cond.methodLink own idx yM_bits ∈ bigW) (hR : rmM_bits.frames + 1 ≤ R.frames ∧ 8 + (2 + 11) + rmM_bits.locals ≤ R.locals) : CallW R s args own "FloatUnitModel" idx yM_bits cM_bits 2 (some .long) (wsM yM_bits cM_bits 2 (some .long)) rmM_bits 0 0 1 :=
  cwV 1 hts (big_V hl w_422 w_423 w_2 w_424) rfl rfl rfl ⟨rfl, by decide, by decide, by decide +kernel⟩ hR
set_option maxRecDepth 100000 in
set_option maxHeartbeats 8000000 in
theorem c_M_bits (l : Launch) (D : va_G) (cI cL : ClassId) (m0 ra rb rc : Nat) (md fl er kx ky sx sy px py : Int32) (fx fy : Int64) (pr bi : Int32) (row oth : Nat → Int32) (rg : Nat → Int64) (k1 : Int32) : MoM l D cI cL m0 ra rb rc yM_bits (wsM yM_bits cM_bits 2 (some .long)) rmM_bits [.int k1] ((md, fl, er, kx, ky, sx, sy, px, py), (fx, fy), (pr, bi), row, oth, rg) (some (.long ((C_M_bits rg k1).1))) ((md, fl, ((C_M_bits rg k1).2), kx, ky, sx, sy, px, py), (fx, fy), (pr, bi), row, oth, rg) := by
  refine mo_ofL (cc := cM_bits) (maxL := 2) (by decide) rfl (Nat.le_of_ble_eq_true rfl) ?_
  intro p e s m args below meth c Q hx hb hml hown hts H locs hS hw hret ls hl
  have hl : lv_has ls 2 [(0, .ref m0), (1, .int k1)] := hl
  refine lv_aload_n (pc := 0) hx hb dM_bits_0 rfl (lv_at hl 0 rfl) ?_
  refine lv_iload_n (pc := 1) hx hb dM_bits_1 rfl (lv_at hl 1 rfl) ?_
  refine lv_bipush (v := 15) (pc := 2) hx hb dM_bits_2 (by decide) ?_
  refine ps_S (pc := 4) (rest := [.ref m0]) ⟨hx, hb, hml, hown, hts⟩ (c_M_in l k1 15) (cwM_in hts w_414 ⟨by decide, by decide⟩) rfl hl.1 rfl (Nat.le_of_ble_eq_true rfl) dM_bits_4 ⟨Nat.zero_le _, Nat.zero_le _⟩ ?_
  refine lv_if_ne (tgt := 14) (pc := 7) hx hb dM_bits_7 (by decide) (fun h1 => ?_) (fun h1 => ?_)
  · skip
    have h1 : ¬ ((C_M_in k1 15) = false) := fun q => h1 ((bI_0 _).2 q)
    refine lv_iconst (v := 0) (pc := 14) hx hb dM_bits_14 (by decide) ?_
    refine mo_V (pc := 15) (rest := []) ⟨hx, hb, hml, hown, hts⟩ (c_M_fails l D cI cL m0 ra rb rc md fl er kx ky sx sy px py fx fy pr bi row oth rg false) (cwM_fails hts w_417 ⟨by decide, by decide⟩) hw hS rfl hl.1 rfl (Nat.le_of_ble_eq_true rfl) dM_bits_15 ⟨Nat.zero_le _, Nat.zero_le _⟩ (fun H locs hw hS => ?_)
    refine W.eq (g2 := F0 m 18 ls [.int 0]) rfl ?_
    refine lv_if_eq (tgt := 25) (pc := 18) hx hb dM_bits_18 (by decide) (fun h2 => ?_) (fun h2 => ?_)
    · skip
      refine lv_aload_n (pc := 25) hx hb dM_bits_25 rfl (lv_at hl 0 rfl) ?_
      refine mo_g_registers (pc := 26) hx hb hts hown hw w_358 dM_bits_26 ?_
      refine lv_iload_n (pc := 29) hx hb dM_bits_29 rfl (lv_at hl 1 rfl) ?_
      refine mo_ld (pc := 30) hx hb hw (min_in h1) dM_bits_30 ?_
      have he9 := (show (rg k1.toNatClampNeg, bI false) = C_M_bits rg k1 from by rw [C_M_bits, if_neg h1])
      exact hret _ _ _ _ _ _ (congrArg Prod.fst he9) (by rw [← he9]) hw hS dM_bits_31
    · exact absurd h2 (by decide)
  · skip
    have h1 : (C_M_in k1 15) = false := (bI_0 _).1 h1
    refine lv_iconst (v := 1) (pc := 10) hx hb dM_bits_10 (by decide) ?_
    refine lv_goto (tgt := 15) (pc := 11) hx hb dM_bits_11 (by decide) ?_
    refine mo_V (pc := 15) (rest := []) ⟨hx, hb, hml, hown, hts⟩ (c_M_fails l D cI cL m0 ra rb rc md fl er kx ky sx sy px py fx fy pr bi row oth rg true) (cwM_fails hts w_417 ⟨by decide, by decide⟩) hw hS rfl hl.1 rfl (Nat.le_of_ble_eq_true rfl) dM_bits_15 ⟨Nat.zero_le _, Nat.zero_le _⟩ (fun H locs hw hS => ?_)
    refine W.eq (g2 := F0 m 18 ls [.int 1]) rfl ?_
    refine lv_if_eq (tgt := 25) (pc := 18) hx hb dM_bits_18 (by decide) (fun h3 => ?_) (fun h3 => ?_)
    · exact absurd h3 (by decide)
    · skip
      refine lv_lconst (v := 0) (pc := 21) hx hb dM_bits_21 (by decide) ?_
      refine lv_goto (tgt := 31) (pc := 22) hx hb dM_bits_22 (by decide) ?_
      have he9 := (show (0, bI true) = C_M_bits rg k1 from by rw [C_M_bits, if_pos h1])
      exact hret _ _ _ _ _ _ (congrArg Prod.fst he9) (by rw [← he9]) hw hS dM_bits_31
def C_M_mode (md : Int32) (k1 : Int32) : Int32 × Int32 × Int32 :=
  if (C_M_in k1 3) = false then
    (0, md, bI true)
  else
    (md, k1, bI false)
abbrev rmM_mode : Room := { frames := 1, cells := 0, slots := 0, locals := 21 }
theorem cwM_mode {R : Room} {s : State} {args : Array Value} {w0 : Cond} {own : String} {idx : Nat} (hts : ∀ w ∈ (w0 :: bigW), w.before args s = true) (hl : Cond.methodLink own idx yM_mode ∈ bigW) (hR : rmM_mode.frames + 1 ≤ R.frames ∧ 8 + (3 + 11) + rmM_mode.locals ≤ R.locals) : CallW R s args own "FloatUnitModel" idx yM_mode cM_mode 3 (some .int) (wsM yM_mode cM_mode 3 (some .int)) rmM_mode 0 0 1 :=
  cwV 1 hts (big_V hl w_426 w_427 w_2 w_428) rfl rfl rfl ⟨rfl, by decide, by decide, by decide +kernel⟩ hR
set_option maxRecDepth 100000 in
set_option maxHeartbeats 8000000 in
theorem c_M_mode (l : Launch) (D : va_G) (cI cL : ClassId) (m0 ra rb rc : Nat) (md fl er kx ky sx sy px py : Int32) (fx fy : Int64) (pr bi : Int32) (row oth : Nat → Int32) (rg : Nat → Int64) (k1 : Int32) : MoM l D cI cL m0 ra rb rc yM_mode (wsM yM_mode cM_mode 3 (some .int)) rmM_mode [.int k1] ((md, fl, er, kx, ky, sx, sy, px, py), (fx, fy), (pr, bi), row, oth, rg) (some (.int ((C_M_mode md k1).1))) ((((C_M_mode md k1).2.1), fl, ((C_M_mode md k1).2.2), kx, ky, sx, sy, px, py), (fx, fy), (pr, bi), row, oth, rg) := by
  refine mo_ofI (cc := cM_mode) (maxL := 3) (by decide) rfl (Nat.le_of_ble_eq_true rfl) ?_
  intro p e s m args below meth c Q hx hb hml hown hts H locs hS hw hret ls hl
  have hl : lv_has ls 3 [(0, .ref m0), (1, .int k1)] := hl
  refine lv_aload_n (pc := 0) hx hb dM_mode_0 rfl (lv_at hl 0 rfl) ?_
  refine lv_iload_n (pc := 1) hx hb dM_mode_1 rfl (lv_at hl 1 rfl) ?_
  refine lv_iconst (v := 3) (pc := 2) hx hb dM_mode_2 (by decide) ?_
  refine ps_S (pc := 3) (rest := [.ref m0]) ⟨hx, hb, hml, hown, hts⟩ (c_M_in l k1 3) (cwM_in hts w_414 ⟨by decide, by decide⟩) rfl hl.1 rfl (Nat.le_of_ble_eq_true rfl) dM_mode_3 ⟨Nat.zero_le _, Nat.zero_le _⟩ ?_
  refine lv_if_ne (tgt := 13) (pc := 6) hx hb dM_mode_6 (by decide) (fun h1 => ?_) (fun h1 => ?_)
  · skip
    have h1 : ¬ ((C_M_in k1 3) = false) := fun q => h1 ((bI_0 _).2 q)
    refine lv_iconst (v := 0) (pc := 13) hx hb dM_mode_13 (by decide) ?_
    refine mo_V (pc := 14) (rest := []) ⟨hx, hb, hml, hown, hts⟩ (c_M_fails l D cI cL m0 ra rb rc md fl er kx ky sx sy px py fx fy pr bi row oth rg false) (cwM_fails hts w_417 ⟨by decide, by decide⟩) hw hS rfl hl.1 rfl (Nat.le_of_ble_eq_true rfl) dM_mode_14 ⟨Nat.zero_le _, Nat.zero_le _⟩ (fun H locs hw hS => ?_)
    refine W.eq (g2 := F0 m 17 ls [.int 0]) rfl ?_
    refine lv_if_eq (tgt := 22) (pc := 17) hx hb dM_mode_17 (by decide) (fun h2 => ?_) (fun h2 => ?_)
    · skip
      refine lv_aload_n (pc := 22) hx hb dM_mode_22 rfl (lv_at hl 0 rfl) ?_
      refine mo_g_mode (pc := 23) hx hb hts hown hw w_359 dM_mode_23 ?_
      refine lv_istore_n (lv' := [(2, .int md), (0, .ref m0), (1, .int k1)]) (pc := 26) hx hb dM_mode_26 rfl hl (by decide) rfl (fun ls hl => ?_)
      refine lv_aload_n (pc := 27) hx hb dM_mode_27 rfl (lv_at hl 1 rfl) ?_
      refine lv_iload_n (pc := 28) hx hb dM_mode_28 rfl (lv_at hl 2 rfl) ?_
      refine mo_p_mode (pc := 29) hx hb hts hown hw hS w_359 dM_mode_29 (fun H locs hw hS => ?_)
      refine lv_iload_n (pc := 32) hx hb dM_mode_32 rfl (lv_at hl 0 rfl) ?_
      have he9 := (show (md, k1, bI false) = C_M_mode md k1 from by rw [C_M_mode, if_neg h1])
      exact hret _ _ _ _ _ _ (congrArg Prod.fst he9) (by rw [← he9]) hw hS dM_mode_33
    · exact absurd h2 (by decide)
  · skip
    have h1 : (C_M_in k1 3) = false := (bI_0 _).1 h1
    refine lv_iconst (v := 1) (pc := 9) hx hb dM_mode_9 (by decide) ?_
    refine lv_goto (tgt := 14) (pc := 10) hx hb dM_mode_10 (by decide) ?_
    refine mo_V (pc := 14) (rest := []) ⟨hx, hb, hml, hown, hts⟩ (c_M_fails l D cI cL m0 ra rb rc md fl er kx ky sx sy px py fx fy pr bi row oth rg true) (cwM_fails hts w_417 ⟨by decide, by decide⟩) hw hS rfl hl.1 rfl (Nat.le_of_ble_eq_true rfl) dM_mode_14 ⟨Nat.zero_le _, Nat.zero_le _⟩ (fun H locs hw hS => ?_)
    refine W.eq (g2 := F0 m 17 ls [.int 1]) rfl ?_
    refine lv_if_eq (tgt := 22) (pc := 17) hx hb dM_mode_17 (by decide) (fun h3 => ?_) (fun h3 => ?_)
    · exact absurd h3 (by decide)
    · skip
      refine lv_iconst (v := 0) (pc := 20) hx hb dM_mode_20 (by decide) ?_
      have he9 := (show (0, md, bI true) = C_M_mode md k1 from by rw [C_M_mode, if_pos h1])
      exact hret _ _ _ _ _ _ (congrArg Prod.fst he9) (by rw [← he9]) hw hS dM_mode_21
def C_M_flags (fl : Int32) (k1 : Int32) : Int32 × Int32 × Int32 :=
  (fl, fl &&& (k1 ^^^ (-1)), 0)
abbrev rmM_flags : Room := { frames := 0, cells := 0, slots := 0, locals := 0 }
theorem cwM_flags {R : Room} {s : State} {args : Array Value} {w0 : Cond} {own : String} {idx : Nat} (hts : ∀ w ∈ (w0 :: bigW), w.before args s = true) (hl : Cond.methodLink own idx yM_flags ∈ bigW) (hR : rmM_flags.frames + 1 ≤ R.frames ∧ 8 + (3 + 11) + rmM_flags.locals ≤ R.locals) : CallW R s args own "FloatUnitModel" idx yM_flags cM_flags 3 (some .int) (wsM yM_flags cM_flags 3 (some .int)) rmM_flags 0 0 1 :=
  cwV 1 hts (big_V hl w_430 w_431 w_2 w_432) rfl rfl rfl ⟨rfl, by decide, by decide, by decide +kernel⟩ hR
set_option maxRecDepth 100000 in
set_option maxHeartbeats 8000000 in
theorem c_M_flags (l : Launch) (D : va_G) (cI cL : ClassId) (m0 ra rb rc : Nat) (md fl er kx ky sx sy px py : Int32) (fx fy : Int64) (pr bi : Int32) (row oth : Nat → Int32) (rg : Nat → Int64) (k1 : Int32) : MoM l D cI cL m0 ra rb rc yM_flags (wsM yM_flags cM_flags 3 (some .int)) rmM_flags [.int k1] ((md, fl, er, kx, ky, sx, sy, px, py), (fx, fy), (pr, bi), row, oth, rg) (some (.int ((C_M_flags fl k1).1))) ((md, ((C_M_flags fl k1).2.1), ((C_M_flags fl k1).2.2), kx, ky, sx, sy, px, py), (fx, fy), (pr, bi), row, oth, rg) := by
  refine mo_ofI (cc := cM_flags) (maxL := 3) (by decide) rfl (Nat.le_of_ble_eq_true rfl) ?_
  intro p e s m args below meth c Q hx hb hml hown hts H locs hS hw hret ls hl
  have hl : lv_has ls 3 [(0, .ref m0), (1, .int k1)] := hl
  refine lv_aload_n (pc := 0) hx hb dM_flags_0 rfl (lv_at hl 0 rfl) ?_
  refine lv_iconst (v := 0) (pc := 1) hx hb dM_flags_1 (by decide) ?_
  refine mo_p_err (pc := 2) hx hb hts hown hw hS w_361 dM_flags_2 (fun H locs hw hS => ?_)
  refine lv_aload_n (pc := 5) hx hb dM_flags_5 rfl (lv_at hl 0 rfl) ?_
  refine mo_g_flags (pc := 6) hx hb hts hown hw w_360 dM_flags_6 ?_
  refine lv_istore_n (lv' := [(2, .int fl), (0, .ref m0), (1, .int k1)]) (pc := 9) hx hb dM_flags_9 rfl hl (by decide) rfl (fun ls hl => ?_)
  refine lv_aload_n (pc := 10) hx hb dM_flags_10 rfl (lv_at hl 1 rfl) ?_
  refine lv_aload_n (pc := 11) hx hb dM_flags_11 rfl (lv_at hl 1 rfl) ?_
  refine mo_g_flags (pc := 12) hx hb hts hown hw w_360 dM_flags_12 ?_
  refine lv_iload_n (pc := 15) hx hb dM_flags_15 rfl (lv_at hl 2 rfl) ?_
  refine lv_iconst (v := (-1)) (pc := 16) hx hb dM_flags_16 (by decide) ?_
  refine lv_ixor (pc := 17) hx hb dM_flags_17 ?_
  refine lv_iand (pc := 18) hx hb dM_flags_18 ?_
  refine mo_p_flags (pc := 19) hx hb hts hown hw hS w_360 dM_flags_19 (fun H locs hw hS => ?_)
  refine lv_iload_n (pc := 22) hx hb dM_flags_22 rfl (lv_at hl 0 rfl) ?_
  have he9 := (show (fl, fl &&& (k1 ^^^ (-1)), 0) = C_M_flags fl k1 from by rw [C_M_flags])
  exact hret _ _ _ _ _ _ (congrArg Prod.fst he9) (by rw [← he9]) hw hS dM_flags_23
end
