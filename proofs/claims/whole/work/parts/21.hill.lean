/-! Math and the Hill's reading methods -/
theorem s_floorMod (a w : Nat) (ha : a < 2 ^ 31) (hw : w < 2 ^ 31) (h0 : 0 < w) (h : MH) : m_ev 161 0 [some (.int (nI a)), some (.int (nI w)), none] [] h = some (some (.int (nI (a % w))), h) := by
  have hx : nI 0 ≤ nI a ^^^ nI w := by
    rw [nx_xor']
    exact nI_le (Nat.zero_le _) (Nat.xor_lt_two_pow ha hw)
  simp only [b161_0]
  sorry
theorem s_min (a b : Nat) (ha : a < 2 ^ 31) (hb : b < 2 ^ 31) (h : MH) : m_ev 163 0 [some (.int (nI a)), some (.int (nI b))] [] h = some (some (.int (nI (min a b))), h) := by
  simp (disch := omega) only [b163_0, b163_3, b163_5, nI_ltI]
  (repeat' split) <;> first | (rw [Nat.min_eq_right (by omega)]) | (rw [Nat.min_eq_left (by omega)])
theorem s_hasWay {h : MH} {g : Nat} {v : Nat → Int32} {n j : Nat} (e : h[g]? = some (kH g v)) (hn : v 12 = nI n) (h10 : n ≤ 10) (hj : j < n) : m_ev 6 0 [some (.ref g), some (.int (nI j))] [] h = some (some (.int (nI 1)), h) := by
  simp (disch := omega) only [b6_0, b6_2, b6_6, b6_9, b6_11, fi_e (k := 12) e rfl, Option.bind_some, hn, nI_ltI, nI_leI]
  (repeat' split) <;> first | rfl | (exfalso; omega)
theorem s_hasWay_no {h : MH} {g : Nat} {v : Nat → Int32} {n : Nat} {x : Int32} (e : h[g]? = some (kH g v)) (hn : v 12 = nI n) (h10 : n ≤ 10) (hx : x < nI 0 ∨ nI n ≤ x) : m_ev 6 0 [some (.ref g), some (.int x)] [] h = some (some (.int (nI 0)), h) := by
  simp (disch := omega) only [b6_0, b6_2, b6_6, b6_9, b6_11, fi_e (k := 12) e rfl, Option.bind_some, hn, nI_ltI, nI_leI]
  (repeat' split) <;> first | rfl | (exfalso; rcases hx with q | q <;> contradiction)
theorem s_wordAt {h : MH} {g : Nat} {v ri : Nat → Int32} {n j : Nat} (e : h[g]? = some (kH g v)) (e1 : h[g + 1]? = some (kI 12 ri)) (hn : v 7 = nI n) (h10 : n ≤ 12) (hj : j < n) : m_ev 8 0 [some (.ref g), some (.int (nI j))] [] h = some (some (.int (ri j)), h) := by
  simp (disch := omega) only [b8_0, b8_2, b8_6, b8_11, b8_16, fi_e (k := 7) e rfl, fr_e (k := 0) e rfl, Option.bind_some, hn, nI_ltI, nI_leI, al_e e1, ai_e e1]
  (repeat' split) <;> first | rfl | (exfalso; omega)
