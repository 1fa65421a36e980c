/-! put, bits, mode, flags answer alike. -/
theorem in15 {k : Int32} : C_M_in k 15 = true ↔ vp_in k 16 := by
  constructor
  · intro h
    exact min_in (by rw [h]; decide)
  · intro h
    have h2 := vp_in_iff.1 h
    rw [C_M_in, if_neg (fun g => by rw [Int32.lt_iff_toInt_lt] at g; have : (0 : Int32).toInt = 0 := rfl; omega), if_neg (fun g => by rw [Int32.lt_iff_toInt_lt] at g; have : (15 : Int32).toInt = 15 := rfl; omega)]
theorem in15f {k : Int32} (h : ¬ vp_in k 16) : C_M_in k 15 = false := by
  rcases hb : C_M_in k 15 with _ | _
  · rfl
  · exact absurd (in15.1 hb) h
theorem in3 {k : Int32} : C_M_in k 3 = true ↔ (¬ k < 0 ∧ k ≤ 3) := by
  rw [C_M_in]
  by_cases h1 : k < 0
  · simp [h1]
  · rw [if_neg h1]
    by_cases h2 : 3 < k
    · rw [if_pos h2]
      have : ¬ k ≤ 3 := fun g => by rw [Int32.le_iff_toInt_le] at g; rw [Int32.lt_iff_toInt_lt] at h2; omega
      simp [this]
    · rw [if_neg h2]
      have : k ≤ 3 := by rw [Int32.le_iff_toInt_le]; rw [Int32.lt_iff_toInt_lt] at h2; omega
      simp [h1, this]
theorem in3f {k : Int32} (h : ¬ (¬ k < 0 ∧ k ≤ 3)) : C_M_in k 3 = false := by
  rcases hb : C_M_in k 3 with _ | _
  · rfl
  · exact absurd (in3.1 hb) h
theorem upd0 (f : Nat → Int64) (v : Int64) : vp_updL f 0 v 0 = v := by simp [vp_updL]
theorem pr_put (l : Launch) (hlt : l.stackTraces = false) : PR_put l := by
  intro k x ad D cA cI cL h0 r0 o0 m0 ra rb rc md fl rg f S hk hc
  obtain ⟨⟨a1, a2, a3, a4, a5, a6, a7, a8, a9⟩, ⟨b1, b2⟩, ⟨c1, c2⟩, d1, d2, d3⟩ := S
  obtain ⟨rfl, rfl, rfl⟩ : a1 = md ∧ a2 = fl ∧ d3 = rg := hc
  by_cases hv : vp_in k 16
  · refine ⟨0, a1, a2, _, _, _, _, c_L_put l ad D cA h0 r0 o0 a1 a2 d3 f k x hv, c_M_put l D cI cL m0 ra rb rc a1 a2 a3 a4 a5 a6 a7 a8 a9 b1 b2 c1 c2 d1 d2 d3 k x, ?_, ?_, hk, rfl, rfl, ?_⟩ <;> (rw [C_M_put, in15.2 hv]) <;> first | rfl | (intro _; rw [upd0]; rfl)
  · refine ⟨1, a1, a2, d3, f, _, _, t_L_put l ad D cA h0 r0 o0 a1 a2 d3 f k x hlt hv, c_M_put l D cI cL m0 ra rb rc a1 a2 a3 a4 a5 a6 a7 a8 a9 b1 b2 c1 c2 d1 d2 d3 k x, ?_, fun h => absurd h (by decide), hk, rfl, rfl, ?_⟩ <;> (rw [C_M_put, in15f hv]) <;> rfl
theorem pr_bits (l : Launch) (hlt : l.stackTraces = false) : PR_bits l := by
  intro k ad D cA cI cL h0 r0 o0 m0 ra rb rc md fl rg f S hk hc
  obtain ⟨⟨a1, a2, a3, a4, a5, a6, a7, a8, a9⟩, ⟨b1, b2⟩, ⟨c1, c2⟩, d1, d2, d3⟩ := S
  obtain ⟨rfl, rfl, rfl⟩ : a1 = md ∧ a2 = fl ∧ d3 = rg := hc
  by_cases hv : vp_in k 16
  · refine ⟨0, a1, a2, _, _, _, _, c_L_bits l ad D cA h0 r0 o0 a1 a2 d3 f k hv, c_M_bits l D cI cL m0 ra rb rc a1 a2 a3 a4 a5 a6 a7 a8 a9 b1 b2 c1 c2 d1 d2 d3 k, ?_, ?_, hk, rfl, rfl, rfl⟩ <;> (rw [C_M_bits, in15.2 hv]) <;> first | rfl | (intro _; rw [upd0]; rfl)
  · refine ⟨1, a1, a2, d3, f, _, _, t_L_bits l ad D cA h0 r0 o0 a1 a2 d3 f k hlt hv, c_M_bits l D cI cL m0 ra rb rc a1 a2 a3 a4 a5 a6 a7 a8 a9 b1 b2 c1 c2 d1 d2 d3 k, ?_, fun h => absurd h (by decide), hk, rfl, rfl, rfl⟩ <;> (rw [C_M_bits, in15f hv]) <;> rfl
theorem pr_mode (l : Launch) (hlt : l.stackTraces = false) : PR_mode l := by
  intro k ad D cA cI cL h0 r0 o0 m0 ra rb rc md fl rg f S hk hc
  obtain ⟨⟨a1, a2, a3, a4, a5, a6, a7, a8, a9⟩, ⟨b1, b2⟩, ⟨c1, c2⟩, d1, d2, d3⟩ := S
  obtain ⟨rfl, rfl, rfl⟩ : a1 = md ∧ a2 = fl ∧ d3 = rg := hc
  by_cases hv : ¬ k < 0 ∧ k ≤ 3
  · refine ⟨0, k, a2, d3, _, _, _, c_L_mode l ad D cA h0 r0 o0 a1 a2 d3 f k hv.1 hv.2, c_M_mode l D cI cL m0 ra rb rc a1 a2 a3 a4 a5 a6 a7 a8 a9 b1 b2 c1 c2 d1 d2 d3 k, ?_, ?_, hv, ?_, rfl, rfl⟩ <;> (rw [C_M_mode, in3.2 hv]) <;> first | rfl | (intro _; rw [upd0]; rfl)
  · refine ⟨1, a1, a2, d3, f, _, _, t_L_mode l ad D cA h0 r0 o0 a1 a2 d3 f k hlt hv, c_M_mode l D cI cL m0 ra rb rc a1 a2 a3 a4 a5 a6 a7 a8 a9 b1 b2 c1 c2 d1 d2 d3 k, ?_, fun h => absurd h (by decide), hk, ?_, rfl, rfl⟩ <;> (rw [C_M_mode, in3f hv]) <;> rfl
theorem pr_flags (l : Launch) (_ : l.stackTraces = false) : PR_flags l := by
  intro k ad D cA cI cL h0 r0 m0 ra rb rc md fl rg S hk hc
  obtain ⟨⟨a1, a2, a3, a4, a5, a6, a7, a8, a9⟩, ⟨b1, b2⟩, ⟨c1, c2⟩, d1, d2, d3⟩ := S
  obtain ⟨rfl, rfl, rfl⟩ : a1 = md ∧ a2 = fl ∧ d3 = rg := hc
  exact ⟨_, _, _, c_U_flags l ad D cA h0 r0 a1 a2 d3 k, c_M_flags l D cI cL m0 ra rb rc a1 a2 a3 a4 a5 a6 a7 a8 a9 b1 b2 c1 c2 d1 d2 d3 k, rfl, rfl, rfl⟩
