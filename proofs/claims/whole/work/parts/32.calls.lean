/-! the calls: hills, hours -/
def AN (z : Nat) (as : List Value) (h : MH) (v : Int32) (h' : MH) : Prop := m_ev z 0 (m_ent (m_maxL z) as) [] h = some (some (.int v), h') ∧ Fr 0 72 h h'
theorem bad_c {x : Int32} {a b c : Nat} (hx : x < nI a ∨ nI b ≤ x) (hb : b = c + 1) (hab : a ≤ b) (hc : b < 2 ^ 31) : x < nI a ∨ (¬ x < nI a ∧ ¬ x ≤ nI c ∧ nI c < x) := by
  rcases hx with q | q
  · exact Or.inl q
  · have h1 : nI c < nI b := by rw [nI_ltI (by omega) (by omega)]; omega
    have h2 : nI c < x := Int32.lt_of_lt_of_le h1 q
    have h3 : nI a ≤ nI b := by rw [nI_leI (by omega) (by omega)]; exact hab
    refine Or.inr ⟨fun p => ?_, fun p => ?_, h2⟩
    · exact Int32.lt_irrefl (Int32.lt_of_lt_of_le p (Int32.le_trans h3 q))
    · exact Int32.lt_irrefl (Int32.lt_of_lt_of_le h2 p)
theorem cast_c : ∀ c : Nat, c < 128 → ((nI c).toUInt32 % 65536).toInt32 = nI c := by decide
section
variable {h h' : MH} {hl sp hp hk B : Nat} {L M T S : LT} {P K : Nat → LT}
-- write
theorem a_write_bad {x : Int32} (hx : x < nI 32 ∨ nI 127 ≤ x) : AN 59 [.ref 0, .int x] h (-1) h := by
  refine ⟨?_, Fr.rf _ _ _⟩
  show m_ev 59 0 [some (.ref 0), some (.int x)] [] h = _
  rcases bad_c hx rfl (by omega) (by omega) with q | ⟨q1, q2, _⟩
  · rw [b59_0, if_pos q, b59_6]
  · rw [b59_0, if_neg q1, b59_3, if_neg q2, b59_6]
theorem a_write_full (e : CA h hl sp L M T S hp P hk K) {c : Nat} (hc : 32 ≤ c ∧ c ≤ 126) (hT : T 1 0 = 200) : AN 59 [.ref 0, .int (nI c)] h (-3) h := by
  obtain ⟨c_sw, c_o, c_hi, c_spa, c_tx, c_sc, c_mo, c_tri, c_sh, c_ke, c_se, c_ou, c_ch⟩ := e
  refine ⟨?_, Fr.rf _ _ _⟩
  show m_ev 59 0 [some (.ref 0), some (.int (nI c))] [] h = _
  simp (disch := omega) only [b59_0, b59_3, b59_8, b59_13, b59_18, nI_ltI, nI_leI, if_neg (show ¬ c < 32 by omega), if_pos hc.2, oF c_o, Option.bind_some, txF c_tx, if_true, c_append_no c_tx hT]
theorem a_write (e : CA h hl sp L M T S hp P hk K) {c : Nat} (hc : 32 ≤ c ∧ c ≤ 126) (hT : T 1 0 < 200) : ∃ h', AN 59 [.ref 0, .int (nI c)] h (nI (T 1 0 + 1)) h' ∧ CA h' hl sp L M (apL T c) S hp P hk K := by
  have e' := e
  obtain ⟨c_sw, c_o, c_hi, c_spa, c_tx, c_sc, c_mo, c_tri, c_sh, c_ke, c_se, c_ou, c_ch⟩ := e'
  obtain ⟨h1, q1, e1, f1⟩ := c_append (y := 59) (k := 13) (ls := [some (.ref 0), some (.int (nI c))]) (r := []) c_tx hT (c := c) (by omega)
  refine ⟨h1, ⟨?_, f1.wd (by omega) (by omega)⟩, e.txX e1 f1⟩
  show m_ev 59 0 [some (.ref 0), some (.int (nI c))] [] h = _
  have n1 : ¬ nI 1 = nI 0 := by decide
  have ha : (apL T c) 1 0 = T 1 0 + 1 := uL_s _ _ _ _
  simp (disch := omega) only [b59_0, b59_3, b59_8, nI_ltI, nI_leI, if_neg (show ¬ c < 32 by omega), if_pos hc.2, oF c_o, Option.bind_some, txF c_tx, if_true, cast_c, q1, b59_13, n1, if_false, b59_14, oF (f1.at (b := 0) (by omega) c_o), txF e1, ha]
-- wipe
theorem a_wipe (e : CA h hl sp L M T S hp P hk K) : ∃ h', AN 60 [.ref 0] h (nI (T 1 0)) h' ∧ CA h' hl sp L M (uL T 1 0 0) S hp P hk K := by
  have e' := e
  obtain ⟨c_sw, c_o, c_hi, c_spa, c_tx, c_sc, c_mo, c_tri, c_sh, c_ke, c_se, c_ou, c_ch⟩ := e'
  obtain ⟨h1, q1, e1, f1⟩ := txW1 c_tx 0
  refine ⟨h1, ⟨?_, f1.wd (by omega) (by omega)⟩, e.txX e1 f1⟩
  show m_ev 60 0 [some (.ref 0), none] [] h = _
  simp only [b60_0, oF c_o, Option.bind_some, txF c_tx, q1]
-- fault
theorem Fr2.up {lo hi lo2 hi2 a b : Nat} (f : Fr2 lo hi lo2 hi2 h h') (h1 : a ≤ lo ∧ hi ≤ b) (h2 : a ≤ lo2 ∧ hi2 ≤ b) : Fr a b h h' := ⟨f.1, fun q hq => f.2 q (by omega) (by omega)⟩
theorem a_fault (e : CA h hl sp L M T S hp P hk K) (wt : WfT T) : ∃ h' L' C', AN 61 [.ref 0] h (nO (cop0 T L' C').1) h' ∧ CA h' hl sp L M T S hp P hk K := by
  have e' := e
  obtain ⟨c_sw, c_o, c_hi, ⟨L', c_spa⟩, c_tx, ⟨C', c_sc⟩, c_mo, c_tri, c_sh, c_ke, c_se, c_ou, c_ch⟩ := e'
  obtain ⟨h1, q1, e1, u1, f1⟩ := c_copyOut (y := 61) (k := 5) (ls := [some (.ref 0)]) (r := []) c_sc c_tx c_spa wt (by omega) (by omega) (by omega)
  refine ⟨h1, L', C', ⟨?_, f1.up (by omega) (by omega)⟩, e.scX e1 u1 f1⟩
  show m_ev 61 0 [some (.ref 0)] [] h = _
  simp only [b61_0, oF c_o, Option.bind_some, scF c_sc, if_true, q1, b61_5]
-- word
theorem a_word_bad {x : Int32} (hx : x < nI 0) : AN 63 [.ref 0, .int x] h (-1) h := by
  refine ⟨?_, Fr.rf _ _ _⟩
  show m_ev 63 0 [some (.ref 0), some (.int x)] [] h = _
  have : ¬ nI 0 ≤ x := fun p => Int32.lt_irrefl (Int32.lt_of_lt_of_le hx p)
  rw [b63_0, if_neg this, b63_2]
theorem a_word_none (e : CA h hl sp L M T S hp P hk K) (wf : WfH L) {x : Int32} (hx : nI (L 7 0) ≤ x) : AN 63 [.ref 0, .int x] h (-4) h := by
  obtain ⟨c_sw, c_o, c_hi, c_spa, c_tx, c_sc, c_mo, c_tri, c_sh, c_ke, c_se, c_ou, c_ch⟩ := e
  refine ⟨?_, Fr.rf _ _ _⟩
  show m_ev 63 0 [some (.ref 0), some (.int x)] [] h = _
  have : nI 0 ≤ x := Int32.le_trans (by have := wf.2.1; rw [nI_leI (by omega) (by omega)]; omega) hx
  simp only [b63_0, if_pos this, b63_4, oF c_o, Option.bind_some, hiF c_hi, if_true, c_wordAt_no c_hi wf.2.1 (Or.inr hx), b63_8]
theorem a_word (e : CA h hl sp L M T S hp P hk K) (wf : WfH L) {j : Nat} (hj : j < L 7 0) : AN 63 [.ref 0, .int (nI j)] h (nI (L 0 j)) h := by
  obtain ⟨c_sw, c_o, c_hi, c_spa, c_tx, c_sc, c_mo, c_tri, c_sh, c_ke, c_se, c_ou, c_ch⟩ := e
  have w2 := wf.2.1
  refine ⟨?_, Fr.rf _ _ _⟩
  show m_ev 63 0 [some (.ref 0), some (.int (nI j))] [] h = _
  simp (disch := omega) only [b63_0, nI_leI, Nat.zero_le, if_true, b63_4, oF c_o, Option.bind_some, hiF c_hi, c_wordAt c_hi w2 hj, b63_8]
-- way
theorem a_way_bad (e : CA h hl sp L M T S hp P hk K) (wf : WfH L) {x x' : Int32} (hx : x < nI 0 ∨ nI (L 7 5) ≤ x) : AN 64 [.ref 0, .int x, .int x'] h (-1) h := by
  obtain ⟨c_sw, c_o, c_hi, c_spa, c_tx, c_sc, c_mo, c_tri, c_sh, c_ke, c_se, c_ou, c_ch⟩ := e
  refine ⟨?_, Fr.rf _ _ _⟩
  show m_ev 64 0 [some (.ref 0), some (.int x), some (.int x')] [] h = _
  simp only [b64_0, oF c_o, Option.bind_some, hiF c_hi, if_true, c_hasWay_no c_hi wf.2.2.2.2.2.2.2.2.2.1 hx, b64_4, b64_10]
theorem a_way_bad2 (e : CA h hl sp L M T S hp P hk K) (wf : WfH L) {j : Nat} (hj : j < L 7 5) {x' : Int32} (hx : x' < nI 0 ∨ nI 4 ≤ x') : AN 64 [.ref 0, .int (nI j), .int x'] h (-1) h := by
  obtain ⟨c_sw, c_o, c_hi, c_spa, c_tx, c_sc, c_mo, c_tri, c_sh, c_ke, c_se, c_ou, c_ch⟩ := e
  refine ⟨?_, Fr.rf _ _ _⟩
  have n1 : ¬ nI 1 = nI 0 := by decide
  show m_ev 64 0 [some (.ref 0), some (.int (nI j)), some (.int x')] [] h = _
  rcases bad_c hx rfl (by omega) (by omega) with q | ⟨q1, q2, _⟩
  · simp only [b64_0, oF c_o, Option.bind_some, hiF c_hi, if_true, c_hasWay c_hi wf.2.2.2.2.2.2.2.2.2.1 hj, b64_4, n1, if_false, b64_5, if_pos q, b64_10]
  · simp only [b64_0, oF c_o, Option.bind_some, hiF c_hi, if_true, c_hasWay c_hi wf.2.2.2.2.2.2.2.2.2.1 hj, b64_4, n1, if_false, b64_5, if_neg q1, b64_7, if_neg q2, b64_10]
def wayF (L M : LT) (j q : Nat) : Int32 := if q = 0 then nI (L 1 j) else if q = 1 then nI (L 2 j) else if q = 2 then nI (L 3 j) else nO (hoL L j (M 2 0) (upL L M 0))
theorem a_way (e : CA h hl sp L M T S hp P hk K) (wf : WfH L) (wm : WfM L M 30000) {j q : Nat} (hj : j < L 7 5) (hq : q < 4) : AN 64 [.ref 0, .int (nI j), .int (nI q)] h (wayF L M j q) h := by
  obtain ⟨c_sw, c_o, c_hi, c_spa, c_tx, c_sc, c_mo, c_tri, c_sh, c_ke, c_se, c_ou, c_ch⟩ := e
  have w10 := wf.2.2.2.2.2.2.2.2.2.1
  have hu := upL_lt wf M 0
  have hh := wm.1
  refine ⟨?_, Fr.rf _ _ _⟩
  have n1 : ¬ nI 1 = nI 0 := by decide
  show m_ev 64 0 [some (.ref 0), some (.int (nI j)), some (.int (nI q))] [] h = _
  simp (disch := omega) only [b64_0, oF c_o, Option.bind_some, hiF c_hi, if_true, c_hasWay c_hi w10 hj, b64_4, n1, if_false, b64_5, nI_ltI, nI_leI, Nat.not_lt_zero, b64_7, if_pos (show q ≤ 3 by omega), b64_12, nI_eq, b64_14, b64_20, b64_26, b64_32, moF c_mo, c_uppermost c_hi c_mo wf wm, b64_44, c_hoursBy c_hi wf hj, b64_45, wayF]
  (repeat' split) <;> first | rfl | (exfalso; omega)
-- asker
theorem a_asker_bad (e : CA h hl sp L M T S hp P hk K) (wf : WfH L) {x x' : Int32} (hx : x < nI 0 ∨ nI (L 7 6) ≤ x) : AN 65 [.ref 0, .int x, .int x'] h (-1) h := by
  obtain ⟨c_sw, c_o, c_hi, c_spa, c_tx, c_sc, c_mo, c_tri, c_sh, c_ke, c_se, c_ou, c_ch⟩ := e
  refine ⟨?_, Fr.rf _ _ _⟩
  show m_ev 65 0 [some (.ref 0), some (.int x), some (.int x')] [] h = _
  simp only [b65_0, oF c_o, Option.bind_some, hiF c_hi, if_true, c_hasAsker_no c_hi wf.2.2.2.2.2.2.2.2.2.2.2.1 hx, b65_4, b65_10]
theorem a_asker_bad2 (e : CA h hl sp L M T S hp P hk K) (wf : WfH L) {j : Nat} (hj : j < L 7 6) {x' : Int32} (hx : x' < nI 0 ∨ nI 4 ≤ x') : AN 65 [.ref 0, .int (nI j), .int x'] h (-1) h := by
  obtain ⟨c_sw, c_o, c_hi, c_spa, c_tx, c_sc, c_mo, c_tri, c_sh, c_ke, c_se, c_ou, c_ch⟩ := e
  refine ⟨?_, Fr.rf _ _ _⟩
  have n1 : ¬ nI 1 = nI 0 := by decide
  show m_ev 65 0 [some (.ref 0), some (.int (nI j)), some (.int x')] [] h = _
  rcases bad_c hx rfl (by omega) (by omega) with q | ⟨q1, q2, _⟩
  · simp only [b65_0, oF c_o, Option.bind_some, hiF c_hi, if_true, c_hasAsker c_hi wf.2.2.2.2.2.2.2.2.2.2.2.1 hj, b65_4, n1, if_false, b65_5, if_pos q, b65_10]
  · simp only [b65_0, oF c_o, Option.bind_some, hiF c_hi, if_true, c_hasAsker c_hi wf.2.2.2.2.2.2.2.2.2.2.2.1 hj, b65_4, n1, if_false, b65_5, if_neg q1, b65_7, if_neg q2, b65_10]
def askF (L M : LT) (j q : Nat) : Int32 := if q = 0 then nI (M 0 j) else if q = 1 then nI (L 6 j) else if q = 2 then nI (M 1 j) else if onT M j = true then nI (upL L M 0) else -4
theorem a_asker (e : CA h hl sp L M T S hp P hk K) (wf : WfH L) (wm : WfM L M 30000) {j q : Nat} (hj : j < L 7 6) (hq : q < 4) : AN 65 [.ref 0, .int (nI j), .int (nI q)] h (askF L M j q) h := by
  obtain ⟨c_sw, c_o, c_hi, c_spa, c_tx, c_sc, c_mo, c_tri, c_sh, c_ke, c_se, c_ou, c_ch⟩ := e
  have w12 := wf.2.2.2.2.2.2.2.2.2.2.2.1
  have w9 := wf.2.2.2.2.2.2.2.2.1
  obtain ⟨p1, p2⟩ := wm.2.2.2.2 j hj
  refine ⟨?_, Fr.rf _ _ _⟩
  have n1 : ¬ nI 1 = nI 0 := by decide
  show m_ev 65 0 [some (.ref 0), some (.int (nI j)), some (.int (nI q))] [] h = _
  have hb : (if M 0 j = 0 ∧ M 1 j = 0 then 1 else 0) = b01 (onT M j) := onT_if M j
  simp (disch := omega) only [b65_0, oF c_o, Option.bind_some, hiF c_hi, if_true, c_hasAsker c_hi w12 hj, b65_4, n1, if_false, b65_5, nI_ltI, nI_leI, Nat.not_lt_zero, b65_7, if_pos (show q ≤ 3 by omega), b65_12, nI_eq, b65_14, b65_20, b65_26, b65_32, moF c_mo, c_isOnTop c_mo (show j < 4 by omega) (show M 0 j < 2 ^ 31 ∧ M 1 j < 2 ^ 31 by omega), hb, b65_36, b65_37, c_uppermost c_hi c_mo wf wm, b65_43, b65_44, askF]
  cases onT M j <;> simp only [b01_t, b01_f, if_neg (show ¬ 1 = 0 by omega), if_true, Bool.false_eq_true, if_false] <;> (repeat' split) <;> first | rfl | (exfalso; omega)
end
