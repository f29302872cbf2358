/-! Math and the Hill's reading methods -/
section
variable {y k : Nat} {ls : ML} {r : List Value} {h : MH} {g m : Nat} {L M : LT}
theorem c_floorMod {a w : Nat} (ha : a < 2 ^ 31) (hw : w < 2 ^ 31) (h0 : 0 < w) : m_call m_ev 161 y k [.int (nI a), .int (nI w)] ls r h = m_ev y k ls (.int (nI (a % w)) :: r) h := by
  refine cl_v ?_
  show m_ev 161 0 [some (.int (nI a)), some (.int (nI w)), none] [] h = _
  have hx : nI 0 ≤ nI (a ^^^ w) := nI_le (Nat.zero_le _) (Nat.xor_lt_two_pow ha hw)
  have hm := Nat.mod_lt a h0
  simp (disch := omega) only [b161_0, b161_8, b161_10, b161_14, nx_xorN, nI_remN, hx, if_true, nI_eq]
  (repeat' split) <;> first | rfl | (exfalso; omega)
theorem c_min {a b : Nat} (ha : a < 2 ^ 31) (hb : b < 2 ^ 31) : m_call m_ev 163 y k [.int (nI a), .int (nI b)] ls r h = m_ev y k ls (.int (nI (min a b)) :: r) h := by
  refine cl_v ?_
  show m_ev 163 0 [some (.int (nI a)), some (.int (nI b))] [] h = _
  simp (disch := omega) only [b163_0, b163_3, b163_5, nI_ltI]
  (repeat' split) <;> first | (rw [Nat.min_eq_right (by omega)]) | (rw [Nat.min_eq_left (by omega)])
theorem c_max {a b : Nat} (ha : a < 2 ^ 31) (hb : b < 2 ^ 31) : m_call m_ev 162 y k [.int (nI a), .int (nI b)] ls r h = m_ev y k ls (.int (nI (max a b)) :: r) h := by
  refine cl_v ?_
  show m_ev 162 0 [some (.int (nI a)), some (.int (nI b))] [] h = _
  simp (disch := omega) only [b162_0, b162_3, b162_5, nI_ltI]
  (repeat' split) <;> first | (rw [Nat.max_eq_right (by omega)]) | (rw [Nat.max_eq_left (by omega)])
/-- max(0, a - b) -/
theorem c_max0 {a b : Nat} (ha : a < 2 ^ 30) (hb : b < 2 ^ 30) : m_call m_ev 162 y k [.int (nI 0), .int (nI a - nI b)] ls r h = m_ev y k ls (.int (nI (a - b)) :: r) h := by
  refine cl_v ?_
  show m_ev 162 0 [some (.int (nI 0)), some (.int (nI a - nI b))] [] h = _
  simp only [b162_0, b162_3, b162_5]
  by_cases hab : b ≤ a
  · rw [nI_subN hab]
    by_cases h0 : a - b = 0
    · rw [h0]; simp
    · rw [if_pos (nI_lt (by omega) (by omega))]
  · rw [if_neg, show a - b = 0 by omega]
    intro q
    rw [Int32.lt_iff_toInt_lt, pk_sub_toInt ha hb, nI_toInt (by omega)] at q
    omega
theorem c_hasPlace (e : HiA h g L) (hP : L 7 4 ≤ 8) {j : Nat} (hj : j < L 7 4) : m_call m_ev 5 y k [.ref g, .int (nI j)] ls r h = m_ev y k ls (.int (nI 1) :: r) h := by
  refine cl_v ?_
  show m_ev 5 0 [some (.ref g), some (.int (nI j))] [] h = _
  simp (disch := omega) only [b5_0, b5_2, b5_6, b5_8, hiF e, Option.bind_some, nI_ltI, nI_leI]
  (repeat' split) <;> first | rfl | (exfalso; omega)
theorem c_hasPlace_no (e : HiA h g L) (hP : L 7 4 ≤ 8) {x : Int32} (hx : x < nI 0 ∨ nI (L 7 4) ≤ x) : m_call m_ev 5 y k [.ref g, .int x] ls r h = m_ev y k ls (.int (nI 0) :: r) h := by
  refine cl_v ?_
  show m_ev 5 0 [some (.ref g), some (.int x)] [] h = _
  simp (disch := omega) only [b5_0, b5_2, b5_6, b5_8, hiF e, Option.bind_some]
  (repeat' split) <;> first | rfl | (exfalso; rcases hx with q | q <;> contradiction)
theorem c_hasWay (e : HiA h g L) (hP : L 7 5 ≤ 10) {j : Nat} (hj : j < L 7 5) : m_call m_ev 6 y k [.ref g, .int (nI j)] ls r h = m_ev y k ls (.int (nI 1) :: r) h := by
  refine cl_v ?_
  show m_ev 6 0 [some (.ref g), some (.int (nI j))] [] h = _
  simp (disch := omega) only [b6_0, b6_2, b6_6, b6_9, b6_11, hiF e, Option.bind_some, nI_ltI, nI_leI]
  (repeat' split) <;> first | rfl | (exfalso; omega)
theorem c_hasWay_no (e : HiA h g L) (hP : L 7 5 ≤ 10) {x : Int32} (hx : x < nI 0 ∨ nI (L 7 5) ≤ x) : m_call m_ev 6 y k [.ref g, .int x] ls r h = m_ev y k ls (.int (nI 0) :: r) h := by
  refine cl_v ?_
  show m_ev 6 0 [some (.ref g), some (.int x)] [] h = _
  simp (disch := omega) only [b6_0, b6_2, b6_6, b6_9, b6_11, hiF e, Option.bind_some]
  (repeat' split) <;> first | rfl | (exfalso; rcases hx with q | q <;> contradiction)
theorem c_hasAsker (e : HiA h g L) (hP : L 7 6 ≤ 4) {j : Nat} (hj : j < L 7 6) : m_call m_ev 7 y k [.ref g, .int (nI j)] ls r h = m_ev y k ls (.int (nI 1) :: r) h := by
  refine cl_v ?_
  show m_ev 7 0 [some (.ref g), some (.int (nI j))] [] h = _
  simp (disch := omega) only [b7_0, b7_2, b7_6, b7_9, b7_11, hiF e, Option.bind_some, nI_ltI, nI_leI]
  (repeat' split) <;> first | rfl | (exfalso; omega)
theorem c_hasAsker_no (e : HiA h g L) (hP : L 7 6 ≤ 4) {x : Int32} (hx : x < nI 0 ∨ nI (L 7 6) ≤ x) : m_call m_ev 7 y k [.ref g, .int x] ls r h = m_ev y k ls (.int (nI 0) :: r) h := by
  refine cl_v ?_
  show m_ev 7 0 [some (.ref g), some (.int x)] [] h = _
  simp (disch := omega) only [b7_0, b7_2, b7_6, b7_9, b7_11, hiF e, Option.bind_some]
  (repeat' split) <;> first | rfl | (exfalso; rcases hx with q | q <;> contradiction)
theorem c_wordAt (e : HiA h g L) (hW : L 7 0 ≤ 12) {j : Nat} (hj : j < L 7 0) : m_call m_ev 8 y k [.ref g, .int (nI j)] ls r h = m_ev y k ls (.int (nI (L 0 j)) :: r) h := by
  refine cl_v ?_
  show m_ev 8 0 [some (.ref g), some (.int (nI j))] [] h = _
  simp (disch := omega) only [b8_0, b8_2, b8_6, b8_11, b8_16, hiF e, Option.bind_some, nI_ltI, nI_leI]
  (repeat' split) <;> first | rfl | (exfalso; omega)
theorem c_wordAt_no (e : HiA h g L) (hW : L 7 0 ≤ 12) {x : Int32} (hx : x < nI 0 ∨ nI (L 7 0) ≤ x) : m_call m_ev 8 y k [.ref g, .int x] ls r h = m_ev y k ls (.int (-4) :: r) h := by
  refine cl_v ?_
  show m_ev 8 0 [some (.ref g), some (.int x)] [] h = _
  simp (disch := omega) only [b8_0, b8_2, b8_6, b8_11, b8_16, hiF e, Option.bind_some]
  (repeat' split) <;> first | rfl | (exfalso; rcases hx with q | q <;> contradiction)
theorem c_spotAround (e : HiA h g L) (hW : 1 ≤ L 7 0 ∧ L 7 0 ≤ 12) {j : Nat} (hj : j < 2 ^ 31) : m_call m_ev 9 y k [.ref g, .int (nI j)] ls r h = m_ev y k ls (.int (nI (j % L 7 0)) :: r) h := by
  refine cl_v ?_
  show m_ev 9 0 [some (.ref g), some (.int (nI j))] [] h = _
  simp (disch := omega) only [b9_0, b9_4, b9_6, b9_10, hiF e, Option.bind_some, nI_leI, c_floorMod]
  (repeat' split) <;> first | rfl | (exfalso; omega)
theorem c_otherEnd (e : HiA h g L) (wf : WfH L) {w p : Nat} (hw : w < L 7 5) (hp : p < 2 ^ 31) : m_call m_ev 10 y k [.ref g, .int (nI w), .int (nI p)] ls r h = m_ev y k ls (.int (nO (otL L w p)) :: r) h := by
  obtain ⟨w1, w2, w3, w4, w5, w6, w7, w8, w9, w10, w11, w12, w13⟩ := wf
  obtain ⟨f1, f2, f3, f4, f5, f6⟩ := w11 w hw
  refine cl_v ?_
  show m_ev 10 0 [some (.ref g), some (.int (nI w)), some (.int (nI p))] [] h = _
  simp (disch := omega) only [b10_0, hiF e, if_true, c_hasWay e w10, b10_3, b10_4, b10_6, b10_12, b10_17, b10_23, b10_28, Option.bind_some, nI_eq, otL]
  (repeat' split) <;> first | rfl | (exfalso; omega)
theorem c_hoursBy (e : HiA h g L) (wf : WfH L) {w ho wd : Nat} (hw : w < L 7 5) (hho : ho < 2 ^ 31) (hwd : wd < 2 ^ 31) : m_call m_ev 11 y k [.ref g, .int (nI w), .int (nI ho), .int (nI wd)] ls r h = m_ev y k ls (.int (nO (hoL L w ho wd)) :: r) h := by
  obtain ⟨w1, w2, w3, w4, w5, w6, w7, w8, w9, w10, w11, w12, w13⟩ := wf
  obtain ⟨f1, f2, f3, f4, f5, f6⟩ := w11 w hw
  refine cl_v ?_
  show m_ev 11 0 [some (.ref g), some (.int (nI w)), some (.int (nI ho)), some (.int (nI wd))] [] h = _
  simp (disch := omega) only [b11_0, hiF e, if_true, c_hasWay e w10, b11_3, b11_4, b11_6, b11_11, b11_15, b11_20, b11_27, b11_31, b11_33, b11_38, b11_40, b11_45, b11_47, Option.bind_some, nI_eq, nI_remN, nI_mulN, hoL]
  (repeat' split) <;> first | rfl | (exfalso; omega)
end
