/-! the calls: lay, hours -/
section
variable {h h' : MH} {hl sp hp hk B : Nat} {L M T S : LT} {P K : Nat → LT}
theorem CA.swap {L1 : LT} (e : CA h hl sp L M T S hp P hk K) (u : HiA h sp L1) (o : h'[0]? = some (kO sp hl)) (f : Fr 0 1 h h') : CA h' sp hl L1 M T S hp P hk K := by
  obtain ⟨c_sw, c_o, c_hi, c_spa, c_tx, c_sc, c_mo, c_tri, c_sh, c_ke, c_se, c_ou, c_ch⟩ := e
  exact ⟨by omega, o, f.hi (by omega) u, ⟨_, f.hi (by omega) c_hi⟩, f.tx (by omega) c_tx, ⟨_, f.sc (by omega) c_sc.choose_spec⟩, f.mo (by omega) c_mo, ⟨_, f.mo (by omega) c_tri.choose_spec⟩, ⟨_, f.sh (by omega) c_sh.choose_spec⟩, ⟨_, f.sh (by omega) c_ke.choose_spec⟩, f.se (by omega) c_se, ⟨_, f.ou (by omega) c_ou.choose_spec.1, c_ou.choose_spec.2⟩, ⟨_, f.chn (by omega) c_ch.choose_spec⟩⟩
theorem kO_p10 {a : Nat} (e : h[0]? = some (kO hl sp)) : m_pf h 0 7 10 (.ref a) = some (h.set 0 (kO hl a)) := by
  rw [pf_e e (by show 10 < 11; omega)]; rfl
theorem kO_p9 {a : Nat} (e : h[0]? = some (kO hl sp)) : m_pf h 0 7 9 (.ref a) = some (h.set 0 (kO a sp)) := by
  rw [pf_e e (by show 9 < 11; omega)]; rfl
theorem a_lay (e : CA h hl sp L M T S hp P hk K) (wt : WfT T) : ∃ L' C', ((cop0 T L' C').1 ≠ none ∨ (cop0 T L' C').2.1 7 6 = 0 → ∃ h', AN 62 [.ref 0] h (-2) h' ∧ CA h' hl sp L M T S hp P hk K) ∧ ((cop0 T L' C').1 = none → (cop0 T L' C').2.1 7 6 ≠ 0 → ∃ h' M', AN 62 [.ref 0] h (nI ((cop0 T L' C').2.1 7 4)) h' ∧ AgM M' (st0 (cop0 T L' C').2.1) ∧ CA h' sp hl (cop0 T L' C').2.1 M' T (uL S 2 0 0) 0 P 0 K) := by
  have e' := e
  obtain ⟨c_sw, c_o, c_hi, ⟨L', c_spa⟩, c_tx, ⟨C', c_sc⟩, c_mo, c_tri, c_sh, c_ke, c_se, c_ou, c_ch⟩ := e'
  refine ⟨L', C', ?_⟩
  obtain ⟨h1, q1, e1, u1, f1⟩ := c_copyOut (y := 62) (k := 5) (ls := [some (.ref 0), none]) (r := []) c_sc c_tx c_spa wt (by omega) (by omega) (by omega)
  have ca1 := e.scX e1 u1 f1
  have o1 := ca1.2.1
  have hwf : (cop0 T L' C').1 = none → WfH (cop0 T L' C').2.1 := copP_wf T 200 _ _ (clL_wf L')
  constructor
  · intro hc
    refine ⟨h1, ⟨?_, f1.up (by omega) (by omega)⟩, ca1⟩
    show m_ev 62 0 [some (.ref 0), none] [] h = _
    simp only [b62_0, oF c_o, Option.bind_some, scF c_sc, if_true, q1]
    cases hn : (cop0 T L' C').1 with
    | some v =>
      have hv := copP_lt T 200 _ _ v hn
      have := wt.1
      simp only [nO, b62_5, if_neg (nI_neg4 (show v < 2 ^ 31 by omega)), b62_11]
    | none =>
      have h0 : (cop0 T L' C').2.1 7 6 = 0 := by
        rcases hc with q | q
        · exact absurd hn q
        · exact q
      simp only [nO, b62_5, if_true, b62_7, oF o1, Option.bind_some, hiF u1, h0, b62_11]
  · intro hn h0
    have wf1 := hwf hn
    have w12 := wf1.2.2.2.2.2.2.2.2.2.2.2.1
    have f2 : Fr 0 1 h1 ((h1.set 0 (kO hl hl)).set 0 (kO sp hl)) := (Fr.st (by omega) (by omega)).tr (Fr.st (by omega) (by omega))
    have o2 := st_eq (x := kO hl hl) o1
    have o3 := st_eq (x := kO sp hl) o2
    have ca2 := ca1.swap u1 o3 f2
    obtain ⟨h3, M3, q3, g3, a3, f3⟩ := c_start (y := 62) (k := 28) (ls := [some (.ref 0), some (.ref sp)]) (r := []) (f2.hi (by omega) u1) ca2.2.2.2.2.2.2.1 (by omega)
    have ca3 := ca2.moX g3 f3
    have ca3' := ca3
    obtain ⟨d_sw, d_o, d_hi, d_spa, d_tx, d_sc, d_mo, d_tri, d_sh, d_ke, d_se, d_ou, d_ch⟩ := ca3'
    obtain ⟨h4, q4, g4, f4⟩ := seW2 d_se 0
    have ca4 := ca3.seX g4 f4
    have ca4' := ca4
    obtain ⟨i_sw, i_o, i_hi, i_spa, i_tx, i_sc, i_mo, i_tri, ⟨nx4, i_sh⟩, i_ke, i_se, i_ou, i_ch⟩ := ca4'
    obtain ⟨h5, q5, g5, f5⟩ := c_clear (y := 62) (k := 35) (ls := [some (.ref 0), some (.ref sp)]) (r := []) i_sh
    have ca5 := ca4.shX g5 (f5.wd (by omega) (by omega))
    have ca5' := ca5
    obtain ⟨j_sw, j_o, j_hi, j_spa, j_tx, j_sc, j_mo, j_tri, j_sh, ⟨nx5, j_ke⟩, j_se, j_ou, j_ch⟩ := ca5'
    obtain ⟨h6, q6, g6, f6⟩ := c_clear (y := 62) (k := 38) (ls := [some (.ref 0), some (.ref sp)]) (r := []) j_ke
    have ca6 := ca5.keX g6 (f6.wd (by omega) (by omega))
    have ca6' := ca6
    obtain ⟨k_sw, k_o, k_hi, k_spa, k_tx, k_sc, k_mo, k_tri, k_sh, k_ke, k_se, k_ou, k_ch⟩ := ca6'
    refine ⟨h6, M3, ⟨?_, (((((f1.up (by omega) (by omega)).tr (f2.wd (by omega) (by omega))).tr (f3.wd (by omega) (by omega))).tr (f4.wd (by omega) (by omega))).tr (f5.wd (by omega) (by omega))).tr (f6.wd (by omega) (by omega))⟩, a3, ca6⟩
    show m_ev 62 0 [some (.ref 0), none] [] h = _
    have n0 : ¬ nI ((cop0 T L' C').2.1 7 6) = nI 0 := by rw [nI_eq (by omega) (by omega)]; exact h0
    rw [hn] at q1
    simp only [b62_0, oF c_o, Option.bind_some, scF c_sc, if_true, q1, nO, b62_5, b62_7, oF o1, hiF u1, n0, if_false, b62_13, kO_p10 o1, kO_p9 o2, oF o3, moF ca2.2.2.2.2.2.2.1, q3, b62_28, oF d_o, q4, oF i_o, shF i_sh (show 8 < 2 ^ 31 by omega), q5, b62_35, oF j_o, shF j_ke (show 2 < 2 ^ 31 by omega), q6, b62_38, oF k_o, hiF k_hi]
-- pass
theorem goL_wf {n : Nat} (wf : WfH L) (w : WfN L M B) : WfN L (goL L M n) (B + n) := by
  obtain ⟨⟨m1, m2, m3, m4, m5⟩, m6⟩ := w
  have hs := spotL_lt wf M (L 7 1) (L 7 2) n
  have w12 := wf.2.2.2.2.2.2.2.2.2.2.2.1
  refine ⟨⟨?_, ?_, ?_, ?_, ?_⟩, ?_⟩
  · simp [goL]; omega
  · simpa [goL] using hs
  · simp [goL]; omega
  · simp [goL]; omega
  · intro a ha
    have := m5 a ha
    constructor
    · simpa [goL] using this.1
    · have h4 : a < 4 := by omega
      simp [goL, h4]; omega
  · intro a ha
    have := m6 a ha
    simp [goL, ha]; omega
theorem a_pass_bad {x : Int32} (hx : x < nI 1 ∨ nI 49 ≤ x) : AN 66 [.ref 0, .int x] h (-1) h := by
  refine ⟨?_, Fr.rf _ _ _⟩
  show m_ev 66 0 [some (.ref 0), some (.int x)] [] h = _
  rcases bad_c hx rfl (by omega) (by omega) with q | ⟨q1, q2, _⟩
  · rw [b66_0, if_pos q, b66_6]
  · rw [b66_0, if_neg q1, b66_3, if_neg q2, b66_6]
theorem a_pass (e : CA h hl sp L M T S hp P hk K) (wf : WfH L) (wm : WfN L M B) (hB : B ≤ 29000) {n : Nat} (hn : 1 ≤ n ∧ n ≤ 48) : ∃ h', AN 66 [.ref 0, .int (nI n)] h (nI (upL L (goL L M n) 0)) h' ∧ CA h' hl sp L (goL L M n) T S (min (hp + 1) 8) (puS P M) hk K := by
  have e' := e
  obtain ⟨c_sw, c_o, c_hi, c_spa, c_tx, c_sc, c_mo, c_tri, ⟨nx, c_sh⟩, c_ke, c_se, c_ou, c_ch⟩ := e'
  obtain ⟨h1, q1, g1, f1⟩ := c_push (y := 66) (k := 13) (ls := [some (.ref 0), some (.int (nI n))]) (r := []) c_sh c_mo (by omega) (by omega) wm.1.2.2.2.1
  have ca1 := e.shX g1 (f1.wd (by omega) (by omega))
  have ca1' := ca1
  obtain ⟨d_sw, d_o, d_hi, d_spa, d_tx, d_sc, d_mo, d_tri, d_sh, d_ke, d_se, d_ou, d_ch⟩ := ca1'
  obtain ⟨h2, q2, g2, f2⟩ := c_goOn (y := 66) (k := 19) (ls := [some (.ref 0), some (.int (nI n))]) (r := []) d_hi d_mo wf (wm.1.up (by omega)) (fun a ha => by have := wm.2 a ha; omega) (by omega) (n := n) (by omega)
  have ca2 := ca1.moX g2 f2
  have ca2' := ca2
  obtain ⟨i_sw, i_o, i_hi, i_spa, i_tx, i_sc, i_mo, i_tri, i_sh, i_ke, i_se, i_ou, i_ch⟩ := ca2'
  refine ⟨h2, ⟨?_, (f1.wd (by omega) (by omega)).tr (f2.wd (by omega) (by omega))⟩, ca2⟩
  show m_ev 66 0 [some (.ref 0), some (.int (nI n))] [] h = _
  have wm2 := (goL_wf (n := n) wf wm).1.up (show B + n ≤ 30000 by omega)
  simp (disch := omega) only [b66_0, b66_3, nI_ltI, nI_leI, if_neg (show ¬ n < 1 by omega), if_pos hn.2, b66_8, oF c_o, Option.bind_some, shF c_sh (show 8 < 2 ^ 31 by omega), if_true, q1, b66_13, oF d_o, moF d_mo, q2, b66_19, oF i_o, moF i_mo, c_uppermost i_hi i_mo wf wm2, b66_25]
-- setOut
theorem leaL_wf {a w : Nat} (wf : WfH L) (wm : WfN L M B) (ha : a < L 7 6) (hw : w < L 7 5) : WfN L (leaL L M a w) B := by
  obtain ⟨⟨m1, m2, m3, m4, m5⟩, m6⟩ := wm
  unfold leaL
  cases hs : setL L M a w with
  | none => exact ⟨⟨m1, m2, m3, m4, m5⟩, m6⟩
  | some d =>
    obtain ⟨p, hp⟩ := setL_ot hs
    have hd := setL_lt wf hw hs
    have hp4 := otL_lt wf hw hp
    have hp' : ∀ q, otL L w (M 0 a) = some q → q < L 7 4 := fun q hq => otL_lt wf hw hq
    simp only [hp]
    refine ⟨⟨?_, ?_, ?_, ?_, ?_⟩, ?_⟩
    · simpa [uL] using m1
    · simpa [uL] using m2
    · simpa [uL] using m3
    · simpa [uL] using m4
    · intro b hb
      have := m5 b hb
      by_cases hba : b = a
      · subst hba; simp [uL]; omega
      · simpa [uL, hba] using this
    · intro b hb
      have := m6 b hb
      by_cases hba : b = a
      · subst hba; simp [uL]; omega
      · simpa [uL, hba] using this
theorem a_setOut_bad (e : CA h hl sp L M T S hp P hk K) (wf : WfH L) {x x' : Int32} (hx : x < nI 0 ∨ nI (L 7 6) ≤ x) : AN 67 [.ref 0, .int x, .int x'] h (-1) h := by
  obtain ⟨c_sw, c_o, c_hi, c_spa, c_tx, c_sc, c_mo, c_tri, c_sh, c_ke, c_se, c_ou, c_ch⟩ := e
  refine ⟨?_, Fr.rf _ _ _⟩
  show m_ev 67 0 [some (.ref 0), some (.int x), some (.int x'), none] [] h = _
  simp only [b67_0, oF c_o, Option.bind_some, hiF c_hi, if_true, c_hasAsker_no c_hi wf.2.2.2.2.2.2.2.2.2.2.2.1 hx, b67_4, b67_10]
theorem a_setOut_bad2 (e : CA h hl sp L M T S hp P hk K) (wf : WfH L) {a : Nat} (ha : a < L 7 6) {x' : Int32} (hx : x' < nI 0 ∨ nI (L 7 5) ≤ x') : AN 67 [.ref 0, .int (nI a), .int x'] h (-1) h := by
  obtain ⟨c_sw, c_o, c_hi, c_spa, c_tx, c_sc, c_mo, c_tri, c_sh, c_ke, c_se, c_ou, c_ch⟩ := e
  refine ⟨?_, Fr.rf _ _ _⟩
  have n1 : ¬ nI 1 = nI 0 := by decide
  show m_ev 67 0 [some (.ref 0), some (.int (nI a)), some (.int x'), none] [] h = _
  simp only [b67_0, oF c_o, Option.bind_some, hiF c_hi, if_true, c_hasAsker c_hi wf.2.2.2.2.2.2.2.2.2.2.2.1 ha, b67_4, n1, if_false, b67_5, c_hasWay_no c_hi wf.2.2.2.2.2.2.2.2.2.1 hx, b67_9, b67_10]
theorem a_setOut_no (e : CA h hl sp L M T S hp P hk K) (wf : WfH L) (wm : WfN L M B) (hB : B ≤ 29000) {a w : Nat} (ha : a < L 7 6) (hw : w < L 7 5) (hs : setL L M a w = none) : AN 67 [.ref 0, .int (nI a), .int (nI w)] h (-2) h := by
  obtain ⟨c_sw, c_o, c_hi, c_spa, c_tx, c_sc, c_mo, c_tri, c_sh, c_ke, c_se, c_ou, c_ch⟩ := e
  refine ⟨?_, Fr.rf _ _ _⟩
  have n1 : ¬ nI 1 = nI 0 := by decide
  show m_ev 67 0 [some (.ref 0), some (.int (nI a)), some (.int (nI w)), none] [] h = _
  simp only [b67_0, oF c_o, Option.bind_some, hiF c_hi, if_true, c_hasAsker c_hi wf.2.2.2.2.2.2.2.2.2.2.2.1 ha, b67_4, n1, if_false, b67_5, c_hasWay c_hi wf.2.2.2.2.2.2.2.2.2.1 hw, b67_9, b67_12, moF c_mo, c_hoursToSetOut c_hi c_mo wf (wm.1.up (show B ≤ 30000 by omega)) ha hw, hs, nO, b67_19, b67_23]
theorem a_setOut (e : CA h hl sp L M T S hp P hk K) (wf : WfH L) (wm : WfN L M B) (hB : B ≤ 29000) {a w d : Nat} (ha : a < L 7 6) (hw : w < L 7 5) (hs : setL L M a w = some d) : ∃ h', AN 67 [.ref 0, .int (nI a), .int (nI w)] h (nI d) h' ∧ CA h' hl sp L (leaL L M a w) T S (min (hp + 1) 8) (puS P M) hk K := by
  have e' := e
  obtain ⟨c_sw, c_o, c_hi, c_spa, c_tx, c_sc, c_mo, c_tri, ⟨nx, c_sh⟩, c_ke, c_se, c_ou, c_ch⟩ := e'
  have hd := setL_lt wf hw hs
  have wm3 := wm.1.up (show B ≤ 30000 by omega)
  obtain ⟨h1, q1, g1, f1⟩ := c_push (y := 67) (k := 30) (ls := [some (.ref 0), some (.int (nI a)), some (.int (nI w)), some (.int (nI d))]) (r := []) c_sh c_mo (by omega) (by omega) wm.1.2.2.2.1
  have ca1 := e.shX g1 (f1.wd (by omega) (by omega))
  have ca1' := ca1
  obtain ⟨d_sw, d_o, d_hi, d_spa, d_tx, d_sc, d_mo, d_tri, d_sh, d_ke, d_se, d_ou, d_ch⟩ := ca1'
  obtain ⟨h2, q2, g2, f2⟩ := c_leave (y := 67) (k := 37) (ls := [some (.ref 0), some (.int (nI a)), some (.int (nI w)), some (.int (nI d))]) (r := []) d_hi d_mo wf wm3 (by omega) ha hw
  have ca2 := ca1.moX g2 f2
  refine ⟨h2, ⟨?_, (f1.wd (by omega) (by omega)).tr (f2.wd (by omega) (by omega))⟩, ca2⟩
  have n1 : ¬ nI 1 = nI 0 := by decide
  show m_ev 67 0 [some (.ref 0), some (.int (nI a)), some (.int (nI w)), none] [] h = _
  simp (disch := omega) only [b67_0, oF c_o, Option.bind_some, hiF c_hi, if_true, c_hasAsker c_hi wf.2.2.2.2.2.2.2.2.2.2.2.1 ha, b67_4, n1, if_false, b67_5, c_hasWay c_hi wf.2.2.2.2.2.2.2.2.2.1 hw, b67_9, b67_12, moF c_mo, c_hoursToSetOut c_hi c_mo wf wm3 ha hw, hs, nO, b67_19, if_neg (nI_neg4 (show d < 2 ^ 31 by omega)), b67_25, shF c_sh (show 8 < 2 ^ 31 by omega), q1, b67_30, oF d_o, moF d_mo, q2, b67_37]
-- foot
def fooL (M : LT) (n : Nat) : LT := uL (uL M 2 3 1) 2 2 n
theorem fooL_wf {n : Nat} (hn : n ≤ 12) (wm : WfN L M B) : WfN L (fooL M n) B := by
  obtain ⟨⟨m1, m2, m3, m4, m5⟩, m6⟩ := wm
  exact ⟨⟨by simpa [fooL, uL] using m1, by simpa [fooL, uL] using m2, by simpa [fooL, uL] using hn, by simp [fooL, uL], fun a ha => by simpa [fooL, uL] using m5 a ha⟩, fun a ha => by simpa [fooL, uL] using m6 a ha⟩
theorem a_foot_bad {x : Int32} (hx : x < nI 1 ∨ nI 13 ≤ x) : AN 68 [.ref 0, .int x] h (-1) h := by
  refine ⟨?_, Fr.rf _ _ _⟩
  show m_ev 68 0 [some (.ref 0), some (.int x)] [] h = _
  rcases bad_c hx rfl (by omega) (by omega) with q | ⟨q1, q2, _⟩
  · rw [b68_0, if_pos q, b68_6]
  · rw [b68_0, if_neg q1, b68_3, if_neg q2, b68_6]
theorem a_foot_no (e : CA h hl sp L M T S hp P hk K) (wm : WfN L M B) {n : Nat} (hn : 1 ≤ n ∧ n ≤ 12) (hu : ¬ M 2 3 = 0) : AN 68 [.ref 0, .int (nI n)] h (-2) h := by
  obtain ⟨c_sw, c_o, c_hi, c_spa, c_tx, c_sc, c_mo, c_tri, c_sh, c_ke, c_se, c_ou, c_ch⟩ := e
  have h4 := wm.1.2.2.2.1
  refine ⟨?_, Fr.rf _ _ _⟩
  show m_ev 68 0 [some (.ref 0), some (.int (nI n))] [] h = _
  simp (disch := omega) only [b68_0, b68_3, nI_ltI, nI_leI, if_neg (show ¬ n < 1 by omega), if_pos hn.2, b68_8, oF c_o, Option.bind_some, moF c_mo, nI_eq, if_neg hu, b68_12]
theorem a_foot (e : CA h hl sp L M T S hp P hk K) (wf : WfH L) (wm : WfN L M B) (hB : B ≤ 29000) {n : Nat} (hn : 1 ≤ n ∧ n ≤ 12) (hu : M 2 3 = 0) : ∃ h', AN 68 [.ref 0, .int (nI n)] h (nI (upL L (fooL M n) 0)) h' ∧ CA h' hl sp L (fooL M n) T S (min (hp + 1) 8) (puS P M) hk K := by
  have e' := e
  obtain ⟨c_sw, c_o, c_hi, c_spa, c_tx, c_sc, c_mo, c_tri, ⟨nx, c_sh⟩, c_ke, c_se, c_ou, c_ch⟩ := e'
  obtain ⟨h1, q1, g1, f1⟩ := c_push (y := 68) (k := 19) (ls := [some (.ref 0), some (.int (nI n))]) (r := []) c_sh c_mo (by omega) (by omega) wm.1.2.2.2.1
  have ca1 := e.shX g1 (f1.wd (by omega) (by omega))
  have ca1' := ca1
  obtain ⟨d_sw, d_o, d_hi, d_spa, d_tx, d_sc, d_mo, d_tri, d_sh, d_ke, d_se, d_ou, d_ch⟩ := ca1'
  obtain ⟨h2, q2, g2, f2⟩ := moW2 d_mo 5 3 1 rfl (by omega)
  have ca2 := ca1.moX g2 f2
  obtain ⟨h3, q3, g3, f3⟩ := moW2 g2 4 2 n rfl (by omega)
  have ca3 := ca2.moX g3 f3
  have ca3' := ca3
  obtain ⟨i_sw, i_o, i_hi, i_spa, i_tx, i_sc, i_mo, i_tri, i_sh, i_ke, i_se, i_ou, i_ch⟩ := ca3'
  refine ⟨h3, ⟨?_, ((f1.wd (by omega) (by omega)).tr (f2.wd (by omega) (by omega))).tr (f3.wd (by omega) (by omega))⟩, ca3⟩
  have wm3 := (fooL_wf hn.2 wm).1.up (show B ≤ 30000 by omega)
  show m_ev 68 0 [some (.ref 0), some (.int (nI n))] [] h = _
  simp (disch := omega) only [b68_0, b68_3, nI_ltI, nI_leI, if_neg (show ¬ n < 1 by omega), if_pos hn.2, b68_8, oF c_o, Option.bind_some, moF c_mo, hu, if_true, b68_14, shF c_sh (show 8 < 2 ^ 31 by omega), q1, b68_19, oF d_o, q2, oF ca2.2.1, q3, oF i_o, moF i_mo, c_uppermost i_hi i_mo wf wm3, b68_33]
  rfl
-- graze
def graL (L M : LT) : LT := uL M 2 1 ((M 2 1 + 1) % L 7 0)
theorem graL_wf (wf : WfH L) (wm : WfN L M B) : WfN L (graL L M) B := by
  obtain ⟨⟨m1, m2, m3, m4, m5⟩, m6⟩ := wm
  have : (M 2 1 + 1) % L 7 0 < L 7 0 := Nat.mod_lt _ (by have := wf.1; omega)
  exact ⟨⟨by simpa [graL, uL] using m1, by simpa [graL, uL] using this, by simpa [graL, uL] using m3, by simpa [graL, uL] using m4, fun a ha => by simpa [graL, uL] using m5 a ha⟩, fun a ha => by simpa [graL, uL] using m6 a ha⟩
theorem a_graze (e : CA h hl sp L M T S hp P hk K) (wf : WfH L) (wm : WfN L M B) (hB : B ≤ 29000) : ∃ h', AN 69 [.ref 0] h (nI (upL L (graL L M) 0)) h' ∧ CA h' hl sp L (graL L M) T S (min (hp + 1) 8) (puS P M) hk K := by
  have e' := e
  obtain ⟨c_sw, c_o, c_hi, c_spa, c_tx, c_sc, c_mo, c_tri, ⟨nx, c_sh⟩, c_ke, c_se, c_ou, c_ch⟩ := e'
  obtain ⟨h1, q1, g1, f1⟩ := c_push (y := 69) (k := 5) (ls := [some (.ref 0)]) (r := []) c_sh c_mo (by omega) (by omega) wm.1.2.2.2.1
  have ca1 := e.shX g1 (f1.wd (by omega) (by omega))
  have ca1' := ca1
  obtain ⟨d_sw, d_o, d_hi, d_spa, d_tx, d_sc, d_mo, d_tri, d_sh, d_ke, d_se, d_ou, d_ch⟩ := ca1'
  obtain ⟨h2, q2, g2, f2⟩ := c_turnOne (y := 69) (k := 10) (ls := [some (.ref 0)]) (r := []) d_hi d_mo wf (wm.1.up (show B ≤ 30000 by omega))
  have ca2 := ca1.moX g2 f2
  have ca2' := ca2
  obtain ⟨i_sw, i_o, i_hi, i_spa, i_tx, i_sc, i_mo, i_tri, i_sh, i_ke, i_se, i_ou, i_ch⟩ := ca2'
  have wm3 := (graL_wf wf wm).1.up (show B ≤ 30000 by omega)
  refine ⟨h2, ⟨?_, (f1.wd (by omega) (by omega)).tr (f2.wd (by omega) (by omega))⟩, ca2⟩
  show m_ev 69 0 [some (.ref 0)] [] h = _
  simp (disch := omega) only [b69_0, oF c_o, Option.bind_some, shF c_sh (show 8 < 2 ^ 31 by omega), if_true, q1, b69_5, oF d_o, moF d_mo, q2, b69_10, oF i_o, moF i_mo, c_uppermost i_hi i_mo wf wm3, b69_16]
  rfl
-- undo
theorem Fr.sy {lo hi : Nat} (f : Fr lo hi h h') : Fr lo hi h' h := ⟨f.1.symm, fun b hb => (f.2 b hb).symm⟩
theorem a_undo_no (e : CA h hl sp L M T S 0 P hk K) : AN 70 [.ref 0] h (-2) h := by
  obtain ⟨c_sw, c_o, c_hi, c_spa, c_tx, c_sc, c_mo, c_tri, ⟨nx, c_sh⟩, c_ke, c_se, c_ou, c_ch⟩ := e
  refine ⟨?_, Fr.rf _ _ _⟩
  show m_ev 70 0 [some (.ref 0)] [] h = _
  simp only [b70_0, oF c_o, Option.bind_some, shF c_sh (show 8 < 2 ^ 31 by omega), if_true, b70_4]
theorem a_undo (e : CA h hl sp L M T S (hp + 1) P hk K) : ∃ h' M', AN 70 [.ref 0] h (nI hp) h' ∧ AgM M' (P 0) ∧ CA h' hl sp L M' T S hp (poS 8 P) hk K := by
  have e' := e
  obtain ⟨c_sw, c_o, c_hi, c_spa, c_tx, c_sc, c_mo, c_tri, ⟨nx, c_sh⟩, c_ke, c_se, c_ou, c_ch⟩ := e'
  have h8 := c_sh.2.1
  obtain ⟨h1, h2, nx', M', q1, g1, m1, a1, u1, f1, f2⟩ := c_pop (y := 70) (k := 11) (ls := [some (.ref 0)]) (r := []) c_sh c_mo (by omega) (by omega) (by omega)
  have ca1 := e.moX (f2.sy.mo (by omega) m1) f1
  have ca2 := ca1.shX g1 (f2.wd (by omega) (by omega))
  refine ⟨h2, M', ⟨?_, (f1.wd (by omega) (by omega)).tr (f2.wd (by omega) (by omega))⟩, a1, ca2⟩
  show m_ev 70 0 [some (.ref 0)] [] h = _
  simp (disch := omega) only [b70_0, oF c_o, Option.bind_some, shF c_sh (show 8 < 2 ^ 31 by omega), nI_eq, if_neg (show ¬ hp + 1 = 0 by omega), b70_6, if_true, q1, b70_11, oF ca2.2.1, shF g1 (show 8 < 2 ^ 31 by omega), Nat.add_sub_cancel]
-- keep, back
theorem a_keep_full (e : CA h hl sp L M T S hp P 2 K) : AN 84 [.ref 0] h (-3) h := by
  obtain ⟨c_sw, c_o, c_hi, c_spa, c_tx, c_sc, c_mo, c_tri, c_sh, ⟨nx, c_ke⟩, c_se, c_ou, c_ch⟩ := e
  refine ⟨?_, Fr.rf _ _ _⟩
  show m_ev 84 0 [some (.ref 0)] [] h = _
  simp (disch := omega) only [b84_0, oF c_o, Option.bind_some, shF c_ke (show 2 < 2 ^ 31 by omega), nI_ltI, if_neg (show ¬ 2 < 2 by omega), b84_5]
theorem a_keep (e : CA h hl sp L M T S hp P hk K) (wm : WfN L M B) (h2 : hk < 2) : ∃ h', AN 84 [.ref 0] h (nI (hk + 1)) h' ∧ CA h' hl sp L M T S hp P (hk + 1) (puS K M) := by
  have e' := e
  obtain ⟨c_sw, c_o, c_hi, c_spa, c_tx, c_sc, c_mo, c_tri, c_sh, ⟨nx, c_ke⟩, c_se, c_ou, c_ch⟩ := e'
  obtain ⟨h1, q1, g1, f1⟩ := c_push (y := 84) (k := 12) (ls := [some (.ref 0)]) (r := []) c_ke c_mo (by omega) (by omega) wm.1.2.2.2.1
  rw [show min (hk + 1) 2 = hk + 1 by omega] at g1
  have ca1 := e.keX g1 (f1.wd (by omega) (by omega))
  refine ⟨h1, ⟨?_, f1.wd (by omega) (by omega)⟩, ca1⟩
  show m_ev 84 0 [some (.ref 0)] [] h = _
  simp (disch := omega) only [b84_0, oF c_o, Option.bind_some, shF c_ke (show 2 < 2 ^ 31 by omega), nI_ltI, if_pos h2, b84_7, if_true, q1, b84_12, oF ca1.2.1, shF g1 (show 2 < 2 ^ 31 by omega)]
theorem a_back_no (e : CA h hl sp L M T S hp P 0 K) : AN 85 [.ref 0] h (-2) h := by
  obtain ⟨c_sw, c_o, c_hi, c_spa, c_tx, c_sc, c_mo, c_tri, c_sh, ⟨nx, c_ke⟩, c_se, c_ou, c_ch⟩ := e
  refine ⟨?_, Fr.rf _ _ _⟩
  show m_ev 85 0 [some (.ref 0)] [] h = _
  simp only [b85_0, oF c_o, Option.bind_some, shF c_ke (show 2 < 2 ^ 31 by omega), if_true, b85_4]
theorem a_back (e : CA h hl sp L M T S hp P (hk + 1) K) : ∃ h' M', AN 85 [.ref 0] h (nI hk) h' ∧ AgM M' (K 0) ∧ CA h' hl sp L M' T S 0 P hk (poS 2 K) := by
  have e' := e
  obtain ⟨c_sw, c_o, c_hi, c_spa, c_tx, c_sc, c_mo, c_tri, c_sh, ⟨nx, c_ke⟩, c_se, c_ou, c_ch⟩ := e'
  have h8 := c_ke.2.1
  obtain ⟨h1, h2, nx', M', q1, g1, m1, a1, u1, f1, f2⟩ := c_pop (y := 85) (k := 11) (ls := [some (.ref 0)]) (r := []) c_ke c_mo (by omega) (by omega) (by omega)
  have ca1 := e.moX (f2.sy.mo (by omega) m1) f1
  have ca2 := ca1.keX g1 (f2.wd (by omega) (by omega))
  have ca2' := ca2
  obtain ⟨d_sw, d_o, d_hi, d_spa, d_tx, d_sc, d_mo, d_tri, ⟨nxd, d_sh⟩, d_ke, d_se, d_ou, d_ch⟩ := ca2'
  obtain ⟨h3, q3, g3, f3⟩ := c_clear (y := 85) (k := 14) (ls := [some (.ref 0)]) (r := []) d_sh
  have ca3 := ca2.shX g3 (f3.wd (by omega) (by omega))
  have k3 := f3.sh (by omega) g1
  refine ⟨h3, M', ⟨?_, ((f1.wd (by omega) (by omega)).tr (f2.wd (by omega) (by omega))).tr (f3.wd (by omega) (by omega))⟩, a1, ca3⟩
  show m_ev 85 0 [some (.ref 0)] [] h = _
  simp (disch := omega) only [b85_0, oF c_o, Option.bind_some, shF c_ke (show 2 < 2 ^ 31 by omega), nI_eq, if_neg (show ¬ hk + 1 = 0 by omega), b85_6, if_true, q1, b85_11, oF d_o, shF d_sh (show 8 < 2 ^ 31 by omega), q3, b85_14, oF ca3.2.1, shF k3 (show 2 < 2 ^ 31 by omega), Nat.add_sub_cancel]
-- upper
theorem a_upper_bad {x : Int32} (hx : x < nI 0 ∨ nI 201 ≤ x) : AN 71 [.ref 0, .int x] h (-1) h := by
  refine ⟨?_, Fr.rf _ _ _⟩
  show m_ev 71 0 [some (.ref 0), some (.int x)] [] h = _
  rcases bad_c hx rfl (by omega) (by omega) with q | ⟨q1, q2, _⟩
  · rw [b71_0, if_pos q, b71_5]
  · rw [b71_0, if_neg q1, b71_2, if_neg q2, b71_5]
theorem a_upper (e : CA h hl sp L M T S hp P hk K) (wf : WfH L) (wm : WfM L M 30000) {n : Nat} (hn : n ≤ 200) : AN 71 [.ref 0, .int (nI n)] h (nI (upL L M n)) h := by
  obtain ⟨c_sw, c_o, c_hi, c_spa, c_tx, c_sc, c_mo, c_tri, c_sh, c_ke, c_se, c_ou, c_ch⟩ := e
  refine ⟨?_, Fr.rf _ _ _⟩
  show m_ev 71 0 [some (.ref 0), some (.int (nI n))] [] h = _
  simp (disch := omega) only [b71_0, b71_2, nI_ltI, nI_leI, Nat.not_lt_zero, if_false, if_pos hn, b71_7, oF c_o, Option.bind_some, moF c_mo, if_true, c_uppermost c_hi c_mo wf wm, b71_13]
-- round
def agnL (L M : LT) (n : Nat) : Bool := alL (fun m => upL L M m == upL L M (n + m)) 288 0
theorem alL_cg {P P' : Nat → Bool} : ∀ (d i : Nat), (∀ j, i ≤ j → j < i + d → P j = P' j) → alL P d i = alL P' d i := by
  intro d
  induction d with
  | zero => intro i _; rfl
  | succ d ih =>
    intro i h
    unfold alL
    rw [h i (by omega) (by omega), ih (i + 1) (fun j h1 h2 => h j (by omega) (by omega))]
theorem a_round_no (e : CA h hl sp L M T S hp P hk K) (wm : WfM L M 30000) (hf : ¬ M 2 2 = 0) : AN 72 [.ref 0] h (-4) h := by
  obtain ⟨c_sw, c_o, c_hi, c_spa, c_tx, c_sc, c_mo, c_tri, c_sh, c_ke, c_se, c_ou, c_ch⟩ := e
  have := wm.2.2.1
  refine ⟨?_, Fr.rf _ _ _⟩
  show m_ev 72 0 [some (.ref 0), none] [] h = _
  simp (disch := omega) only [b72_0, oF c_o, Option.bind_some, moF c_mo, nI_leI, if_neg (show ¬ M 2 2 ≤ 0 by omega), b72_4]
theorem round_loop {X : LT} (o : h[0]? = some (kO hl sp)) (f : OuA h 68 X) (hX : ∀ i, i < 576 → X 0 i = upL L M i) (hb : ∀ i, X 0 i < 2 ^ 31) : ∀ (d i : Nat), i + d = 289 → m_ev 72 16 [some (.ref 0), some (.int (nI i))] [] h = some (some (.int (nO (ffL (agnL L M) d i))), h) := by
  intro d
  induction d with
  | zero =>
    intro i hi
    obtain rfl : i = 289 := by omega
    rw [b72_16]
    simp (disch := omega) only [b72_28, nI_ltI, if_true, show 288 < 289 by omega, ffL, nO]
  | succ d ih =>
    intro i hi
    have hni : ¬ 288 < i := by omega
    have ha : alL (fun m => X 0 m == X 0 (i + m)) 288 0 = agnL L M i := by
      unfold agnL
      refine alL_cg 288 0 (fun j _ hj => ?_)
      rw [hX j (by omega), hX (i + j) (by omega)]
    have n1 : ¬ nI 1 = nI 0 := by decide
    rw [b72_16]
    simp (disch := omega) only [nI_ltI, hni, if_false, b72_19, oF o, Option.bind_some, ouF f, if_true, c_again f hb, ha, ffL]
    cases hg : agnL L M i with
    | true => simp only [b01_t, b72_23, n1, if_false, b72_24, if_true, nO]
    | false => simp (disch := omega) only [b01_f, b72_23, if_true, b72_26, nI_add, ih (i + 1) (by omega), Bool.false_eq_true, if_false]
theorem a_round (e : CA h hl sp L M T S hp P hk K) (wf : WfH L) (wm : WfM L M 30000) (hf : M 2 2 = 0) : ∃ h', AN 72 [.ref 0] h (nO (ffL (agnL L M) 288 1)) h' ∧ CA h' hl sp L M T S hp P hk K := by
  have e' := e
  obtain ⟨c_sw, c_o, c_hi, c_spa, c_tx, c_sc, c_mo, c_tri, c_sh, c_ke, c_se, ⟨X, c_ou, c_b⟩, c_ch⟩ := e'
  obtain ⟨h1, q1, e1, f1⟩ := c_look (y := 72) (k := 14) (ls := [some (.ref 0), none]) (r := []) c_hi c_mo c_ou wf wm (by omega) (by omega) (hs := 575) (by omega)
  have x0 : ∀ i, (sR X 0 (lkF L M (min (575 + 1) 576) (X 0))) 0 i < 4 := by
    intro i
    rw [sR_s]
    unfold lkF
    split
    · exact upL_lt wf M i
    · exact c_b.2 i
  have x1 : ∀ i, i < 576 → (sR X 0 (lkF L M (min (575 + 1) 576) (X 0))) 0 i = upL L M i := by
    intro i hi
    rw [sR_s]
    simp [lkF, hi]
  have ca1 := e.ouX e1 ⟨by rw [sR_n _ _ (by omega)]; exact c_b.1, x0⟩ (f1.wd (by omega) (by omega))
  refine ⟨h1, ⟨?_, f1.wd (by omega) (by omega)⟩, ca1⟩
  show m_ev 72 0 [some (.ref 0), none] [] h = _
  simp (disch := omega) only [b72_0, oF c_o, Option.bind_some, moF c_mo, hf, Nat.le_refl, if_true, nI_leI, b72_6, ouF c_ou, q1, b72_14]
  exact round_loop ca1.2.1 e1 x1 (fun i => by have := x0 i; omega) 288 1 rfl
-- top, read, both
theorem a_top_bad (e : CA h hl sp L M T S hp P hk K) (wf : WfH L) {x : Int32} (hx : x < nI 0 ∨ nI (L 7 6) ≤ x) : AN 73 [.ref 0, .int x] h (-1) h := by
  obtain ⟨c_sw, c_o, c_hi, c_spa, c_tx, c_sc, c_mo, c_tri, c_sh, c_ke, c_se, c_ou, c_ch⟩ := e
  refine ⟨?_, Fr.rf _ _ _⟩
  show m_ev 73 0 [some (.ref 0), some (.int x)] [] h = _
  simp only [b73_0, oF c_o, Option.bind_some, hiF c_hi, if_true, c_hasAsker_no c_hi wf.2.2.2.2.2.2.2.2.2.2.2.1 hx, b73_4, b73_11]
theorem a_top (e : CA h hl sp L M T S hp P hk K) (wf : WfH L) (wm : WfM L M 30000) {a : Nat} (ha : a < L 7 6) : ∃ h', AN 73 [.ref 0, .int (nI a)] h (nO (topF L M a)) h' ∧ CA h' hl sp L M T S hp P hk K := by
  have e' := e
  obtain ⟨c_sw, c_o, c_hi, c_spa, c_tx, c_sc, c_mo, c_tri, c_sh, c_ke, c_se, c_ou, c_ch⟩ := e'
  obtain ⟨h1, X', q1, e1, b1, x1, f1⟩ := c_soonestTop (y := 73) (k := 10) (ls := [some (.ref 0), some (.int (nI a))]) (r := []) e wf (Or.inl rfl) c_mo wm ha
  refine ⟨h1, ⟨?_, f1.wd (by omega) (by omega)⟩, e.ouX e1 b1 f1⟩
  have n1 : ¬ nI 1 = nI 0 := by decide
  show m_ev 73 0 [some (.ref 0), some (.int (nI a))] [] h = _
  simp only [b73_0, oF c_o, Option.bind_some, hiF c_hi, if_true, c_hasAsker c_hi wf.2.2.2.2.2.2.2.2.2.2.2.1 ha, b73_4, n1, if_false, b73_5, q1, b73_10]
theorem a_read_bad (e : CA h hl sp L M T S hp P hk K) (wf : WfH L) {x x' : Int32} (hx : x < nI 0 ∨ nI (L 7 6) ≤ x) : AN 74 [.ref 0, .int x, .int x'] h (-1) h := by
  obtain ⟨c_sw, c_o, c_hi, c_spa, c_tx, c_sc, c_mo, c_tri, c_sh, c_ke, c_se, c_ou, c_ch⟩ := e
  refine ⟨?_, Fr.rf _ _ _⟩
  show m_ev 74 0 [some (.ref 0), some (.int x), some (.int x')] [] h = _
  simp only [b74_0, oF c_o, Option.bind_some, hiF c_hi, if_true, c_hasAsker_no c_hi wf.2.2.2.2.2.2.2.2.2.2.2.1 hx, b74_4, b74_8]
theorem a_read_bad2 (e : CA h hl sp L M T S hp P hk K) (wf : WfH L) {a : Nat} (ha : a < L 7 6) {x' : Int32} (hx : x' < nI 0 ∨ nI 4 ≤ x') : AN 74 [.ref 0, .int (nI a), .int x'] h (-1) h := by
  obtain ⟨c_sw, c_o, c_hi, c_spa, c_tx, c_sc, c_mo, c_tri, c_sh, c_ke, c_se, c_ou, c_ch⟩ := e
  refine ⟨?_, Fr.rf _ _ _⟩
  have n1 : ¬ nI 1 = nI 0 := by decide
  show m_ev 74 0 [some (.ref 0), some (.int (nI a)), some (.int x')] [] h = _
  simp only [b74_0, oF c_o, Option.bind_some, hiF c_hi, if_true, c_hasAsker c_hi wf.2.2.2.2.2.2.2.2.2.2.2.1 ha, b74_4, n1, if_false, b74_5, c_isWord_no hx, b74_7, b74_8]
def reaF (L M : LT) (a w : Nat) : Option Nat := match topF L M a with
  | none => none
  | some t => ffL (fun u => upL L M u == w) (100 - t) t
theorem a_read (e : CA h hl sp L M T S hp P hk K) (wf : WfH L) (wm : WfM L M 30000) {a w : Nat} (ha : a < L 7 6) (hw : w ≤ 3) : ∃ h', AN 74 [.ref 0, .int (nI a), .int (nI w)] h (nO (reaF L M a w)) h' ∧ CA h' hl sp L M T S hp P hk K := by
  have e' := e
  obtain ⟨c_sw, c_o, c_hi, c_spa, c_tx, c_sc, c_mo, c_tri, c_sh, c_ke, c_se, c_ou, c_ch⟩ := e'
  obtain ⟨h1, X', q1, e1, b1, x1, f1⟩ := c_soonestTop (y := 74) (k := 18) (ls := [some (.ref 0), some (.int (nI a)), some (.int (nI w))]) (r := [.int (nI w), .ref 68]) e wf (Or.inl rfl) c_mo wm ha
  refine ⟨h1, ⟨?_, f1.wd (by omega) (by omega)⟩, e.ouX e1 b1 f1⟩
  have n1 : ¬ nI 1 = nI 0 := by decide
  show m_ev 74 0 [some (.ref 0), some (.int (nI a)), some (.int (nI w))] [] h = _
  simp (disch := omega) only [b74_0, oF c_o, Option.bind_some, hiF c_hi, if_true, c_hasAsker c_hi wf.2.2.2.2.2.2.2.2.2.2.2.1 ha, b74_4, n1, if_false, b74_5, c_isWord, if_pos hw, b74_7, b74_10, q1, b74_18, ouF e1]
  unfold reaF
  cases ht : topF L M a with
  | none => simp only [nO, c_soonestWord_no e1, b74_19]
  | some t =>
    have htl := (ffL_lt _ _ _ ht).2.1
    have hcg : ffL (fun u => X' 0 u == w) (100 - t) t = ffL (fun u => upL L M u == w) (100 - t) t := ffL_cg _ _ (fun j _ hj => by rw [x1 j (by omega)])
    simp (disch := omega) only [nO, c_soonestWord e1 (fun i => by have := b1.2 i; omega) (show w < 2 ^ 31 by omega) (show t ≤ 100 by omega), b74_19, hcg]
end
