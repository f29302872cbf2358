/-! the calls: both, hold, see, forget, from, count -/
theorem upL_cg {L M M' : LT} (h : AgM M M') (t : Nat) : upL L M t = upL L M' t := by
  unfold upL spotL
  rw [h 2 0 (by omega) (by omega), h 2 1 (by omega) (by omega), h 2 2 (by omega) (by omega)]
theorem tpB_cg {L M M' : LT} (h : AgM M M') {a : Nat} (ha : a < 4) : tpB L M a = tpB L M' a := by
  unfold tpB
  rw [h 2 0 (by omega) (by omega), h 0 a (by omega) ha, h 1 a (by omega) ha, show upL L M = upL L M' from funext (upL_cg h)]
theorem topF_cg {L M M' : LT} (h : AgM M M') {a : Nat} (ha : a < 4) : topF L M a = topF L M' a := by
  unfold topF
  rw [tpB_cg h ha]
theorem wisF_cg {L M M' : LT} (h : AgM M M') {a : Nat} (ha : a < 4) : wisF L M a = wisF L M' a := by
  unfold wisF
  rw [topF_cg h ha]
  cases topF L M' a with
  | none => rfl
  | some t => simp only [upL_cg h t]
theorem AgM.u2 {M M' : LT} (h : AgM M M') (k x : Nat) : AgM (uL M 2 k x) (uL M' 2 k x) := by
  intro q i h1 h2
  by_cases hq : q = 2
  · subst hq
    simp [uL, h 2 i (by omega) h2]
  · simp [uL, hq, h q i h1 h2]
section
variable {h h' : MH} {hl sp hp hk B : Nat} {L M T S : LT} {P K : Nat → LT}
theorem WfM.cg {M' : LT} {B : Nat} (wf : WfH L) (h : AgM M' M) (w : WfM L M B) : WfM L M' B := by
  obtain ⟨m1, m2, m3, m4, m5⟩ := w
  have w12 := wf.2.2.2.2.2.2.2.2.2.2.2.1
  refine ⟨?_, ?_, ?_, ?_, fun a ha => ?_⟩
  · rw [h 2 0 (by omega) (by omega)]; exact m1
  · rw [h 2 1 (by omega) (by omega)]; exact m2
  · rw [h 2 2 (by omega) (by omega)]; exact m3
  · rw [h 2 3 (by omega) (by omega)]; exact m4
  · rw [h 0 a (by omega) (by omega), h 1 a (by omega) (by omega)]; exact m5 a ha
def botF (L M : LT) (a b w : Nat) : Option Nat := match topF L M a, topF L M b with
  | some t, some u => ffL (fun v => upL L M v == w) (100 - max t u) (max t u)
  | _, _ => none
theorem a_both_bad (e : CA h hl sp L M T S hp P hk K) (wf : WfH L) {x x' x'' : Int32} (hx : x < nI 0 ∨ nI (L 7 6) ≤ x) : AN 75 [.ref 0, .int x, .int x', .int x''] h (-1) h := by
  obtain ⟨c_sw, c_o, c_hi, c_spa, c_tx, c_sc, c_mo, c_tri, c_sh, c_ke, c_se, c_ou, c_ch⟩ := e
  refine ⟨?_, Fr.rf _ _ _⟩
  show m_ev 75 0 [some (.ref 0), some (.int x), some (.int x'), some (.int x''), none, none] [] h = _
  simp only [b75_0, oF c_o, Option.bind_some, hiF c_hi, if_true, c_hasAsker_no c_hi wf.2.2.2.2.2.2.2.2.2.2.2.1 hx, b75_4, b75_16]
theorem a_both_bad2 (e : CA h hl sp L M T S hp P hk K) (wf : WfH L) {a : Nat} (ha : a < L 7 6) {x' x'' : Int32} (hx : x' < nI 0 ∨ nI (L 7 6) ≤ x') : AN 75 [.ref 0, .int (nI a), .int x', .int x''] h (-1) h := by
  obtain ⟨c_sw, c_o, c_hi, c_spa, c_tx, c_sc, c_mo, c_tri, c_sh, c_ke, c_se, c_ou, c_ch⟩ := e
  refine ⟨?_, Fr.rf _ _ _⟩
  have n1 : ¬ nI 1 = nI 0 := by decide
  show m_ev 75 0 [some (.ref 0), some (.int (nI a)), some (.int x'), some (.int x''), none, none] [] h = _
  simp only [b75_0, oF c_o, Option.bind_some, hiF c_hi, if_true, c_hasAsker c_hi wf.2.2.2.2.2.2.2.2.2.2.2.1 ha, c_hasAsker_no c_hi wf.2.2.2.2.2.2.2.2.2.2.2.1 hx, b75_4, n1, if_false, b75_5, b75_9, b75_16]
theorem a_both_bad3 (e : CA h hl sp L M T S hp P hk K) (wf : WfH L) {a : Nat} (ha : a < L 7 6) {x'' : Int32} : AN 75 [.ref 0, .int (nI a), .int (nI a), .int x''] h (-1) h := by
  obtain ⟨c_sw, c_o, c_hi, c_spa, c_tx, c_sc, c_mo, c_tri, c_sh, c_ke, c_se, c_ou, c_ch⟩ := e
  refine ⟨?_, Fr.rf _ _ _⟩
  have n1 : ¬ nI 1 = nI 0 := by decide
  show m_ev 75 0 [some (.ref 0), some (.int (nI a)), some (.int (nI a)), some (.int x''), none, none] [] h = _
  simp only [b75_0, oF c_o, Option.bind_some, hiF c_hi, if_true, c_hasAsker c_hi wf.2.2.2.2.2.2.2.2.2.2.2.1 ha, b75_4, n1, if_false, b75_5, b75_9, b75_10, b75_16]
theorem a_both_bad4 (e : CA h hl sp L M T S hp P hk K) (wf : WfH L) {a b : Nat} (ha : a < L 7 6) (hb : b < L 7 6) (hab : a ≠ b) {x'' : Int32} (hx : x'' < nI 0 ∨ nI 4 ≤ x'') : AN 75 [.ref 0, .int (nI a), .int (nI b), .int x''] h (-1) h := by
  obtain ⟨c_sw, c_o, c_hi, c_spa, c_tx, c_sc, c_mo, c_tri, c_sh, c_ke, c_se, c_ou, c_ch⟩ := e
  refine ⟨?_, Fr.rf _ _ _⟩
  have w12 := wf.2.2.2.2.2.2.2.2.2.2.2.1
  have n1 : ¬ nI 1 = nI 0 := by decide
  have n2 : ¬ nI a = nI b := by rw [nI_eq (by omega) (by omega)]; exact hab
  show m_ev 75 0 [some (.ref 0), some (.int (nI a)), some (.int (nI b)), some (.int x''), none, none] [] h = _
  simp only [b75_0, oF c_o, Option.bind_some, hiF c_hi, if_true, c_hasAsker c_hi w12 ha, c_hasAsker c_hi w12 hb, b75_4, n1, if_false, b75_5, b75_9, b75_10, n2, b75_13, c_isWord_no hx, b75_15, b75_16]
theorem a_both (e : CA h hl sp L M T S hp P hk K) (wf : WfH L) (wm : WfM L M 30000) {a b w : Nat} (ha : a < L 7 6) (hb : b < L 7 6) (hab : a ≠ b) (hw : w ≤ 3) : ∃ h', AN 75 [.ref 0, .int (nI a), .int (nI b), .int (nI w)] h (nO (botF L M a b w)) h' ∧ CA h' hl sp L M T S hp P hk K := by
  have e' := e
  obtain ⟨c_sw, c_o, c_hi, c_spa, c_tx, c_sc, c_mo, c_tri, c_sh, c_ke, c_se, c_ou, c_ch⟩ := e'
  have w12 := wf.2.2.2.2.2.2.2.2.2.2.2.1
  have n1 : ¬ nI 1 = nI 0 := by decide
  have n2 : ¬ nI a = nI b := by rw [nI_eq (by omega) (by omega)]; exact hab
  obtain ⟨h1, X1, q1, e1, b1, x1, f1⟩ := c_soonestTop (y := 75) (k := 23) (ls := [some (.ref 0), some (.int (nI a)), some (.int (nI b)), some (.int (nI w)), none, none]) (r := []) e wf (Or.inl rfl) c_mo wm ha
  have ca1 := e.ouX e1 b1 f1
  obtain ⟨h2, X2, q2, e2, b2, x2, f2⟩ := c_soonestTop (y := 75) (k := 29) (ls := [some (.ref 0), some (.int (nI a)), some (.int (nI b)), some (.int (nI w)), some (.int (nO (topF L M a))), none]) (r := []) ca1 wf (Or.inl rfl) ca1.2.2.2.2.2.2.1 wm hb
  have ca2 := ca1.ouX e2 b2 f2
  refine ⟨h2, ⟨?_, (f1.tr f2).wd (by omega) (by omega)⟩, ca2⟩
  show m_ev 75 0 [some (.ref 0), some (.int (nI a)), some (.int (nI b)), some (.int (nI w)), none, none] [] h = _
  simp (disch := omega) only [b75_0, oF c_o, Option.bind_some, hiF c_hi, if_true, c_hasAsker c_hi w12 ha, c_hasAsker c_hi w12 hb, b75_4, n1, if_false, b75_5, b75_9, b75_10, n2, b75_13, c_isWord, if_pos hw, b75_15, b75_18, q1, b75_23, oF ca1.2.1, q2, b75_29]
  unfold botF
  cases ha1 : topF L M a with
  | none => simp only [nO, if_true, b75_36]
  | some t =>
    have htl := (ffL_lt _ _ _ ha1).2.1
    simp (disch := omega) only [nO, if_neg (nI_neg4 (show t < 2 ^ 31 by omega)), b75_33]
    cases hb1 : topF L M b with
    | none => simp only [if_true, b75_36]
    | some u =>
      have hul := (ffL_lt _ _ _ hb1).2.1
      have hcg : ffL (fun v => X2 0 v == w) (100 - max t u) (max t u) = ffL (fun v => upL L M v == w) (100 - max t u) (max t u) := ffL_cg _ _ (fun j _ hj => by rw [x2 j (by omega)])
      simp (disch := omega) only [if_neg (nI_neg4 (show u < 2 ^ 31 by omega)), b75_38, oF ca2.2.1, Option.bind_some, c_max, b75_44, ouF e2, if_true, c_soonestWord e2 (fun i => by have := b2.2 i; omega) (show w < 2 ^ 31 by omega) (show max t u ≤ 100 by omega), b75_45, hcg]
      rfl
-- hold
def holF (L M : LT) (a : Nat) : Option Nat := if wisF L M a = true then some 0 else if M 2 3 = 0 then ffL (fun n => wisF L (uL M 2 2 n) a) 12 1 else none
theorem a_hold_bad (e : CA h hl sp L M T S hp P hk K) (wf : WfH L) {x : Int32} (hx : x < nI 0 ∨ nI (L 7 6) ≤ x) : AN 76 [.ref 0, .int x] h (-1) h := by
  obtain ⟨c_sw, c_o, c_hi, c_spa, c_tx, c_sc, c_mo, c_tri, c_sh, c_ke, c_se, c_ou, c_ch⟩ := e
  refine ⟨?_, Fr.rf _ _ _⟩
  show m_ev 76 0 [some (.ref 0), some (.int x), none, none] [] h = _
  simp only [b76_0, oF c_o, Option.bind_some, hiF c_hi, if_true, c_hasAsker_no c_hi wf.2.2.2.2.2.2.2.2.2.2.2.1 hx, b76_4, b76_5]
theorem hold_loop (wf : WfH L) (wm : WfM L M 30000) {a most : Nat} (ha : a < L 7 6) (hm : most ≤ 12) : ∀ (d n : Nat), n + d = most + 1 → 1 ≤ n → ∀ (h : MH), CA h hl sp L M T S hp P hk K → ∃ h', m_ev 76 25 [some (.ref 0), some (.int (nI a)), some (.int (nI most)), some (.int (nI n))] [] h = some (some (.int (nO (ffL (fun n => wisF L (uL M 2 2 n) a) d n))), h') ∧ CA h' hl sp L M T S hp P hk K ∧ Fr 0 72 h h' := by
  have w12 := wf.2.2.2.2.2.2.2.2.2.2.2.1
  have n1 : ¬ nI 1 = nI 0 := by decide
  intro d
  induction d with
  | zero =>
    intro n hn h1n h e
    refine ⟨h, ?_, e, Fr.rf _ _ _⟩
    rw [b76_25]
    simp (disch := omega) only [nI_ltI, if_pos (show most < n by omega), b76_47, ffL, nO]
  | succ d ih =>
    intro n hn h1n h e
    have e' := e
    obtain ⟨c_sw, c_o, c_hi, c_spa, c_tx, c_sc, c_mo, ⟨M0, c_tri⟩, c_sh, c_ke, c_se, c_ou, c_ch⟩ := e'
    obtain ⟨h1, q1, g1, f1⟩ := c_copy (y := 76) (k := 33) (ls := [some (.ref 0), some (.int (nI a)), some (.int (nI most)), some (.int (nI n))]) (r := []) c_tri c_mo (by omega) wm.2.2.2.1
    have ca1 := e.trX g1 f1
    obtain ⟨h2, q2, g2, f2⟩ := moW2 g1 4 2 n rfl (by omega)
    have ca2 := ca1.trX g2 f2
    have ag : AgM (uL (cpL M0 M) 2 2 n) (uL M 2 2 n) := (cpL_ag M0 M).u2 2 n
    have wm1 : WfM L (uL M 2 2 n) 30000 := by
      obtain ⟨m1, m2, m3, m4, m5⟩ := wm
      exact ⟨by simpa [uL] using m1, by simpa [uL] using m2, by simp [uL]; omega, by simpa [uL] using m4, fun b hb => by simpa [uL] using m5 b hb⟩
    have wm2 := wm1.cg wf ag
    obtain ⟨h3, X3, q3, e3, b3, f3⟩ := c_getsHisWish (y := 76) (k := 42) (ls := [some (.ref 0), some (.int (nI a)), some (.int (nI most)), some (.int (nI n))]) (r := []) ca2 wf (Or.inr rfl) g2 wm2 ha
    have ca3 := ca2.ouX e3 b3 f3
    rw [wisF_cg ag (by omega)] at q3
    have fr : Fr 0 72 h h3 := ((f1.wd (by omega) (by omega)).tr (f2.wd (by omega) (by omega))).tr (f3.wd (by omega) (by omega))
    cases hw : wisF L (uL M 2 2 n) a with
    | true =>
      refine ⟨h3, ?_, ca3, fr⟩
      rw [hw] at q3
      rw [b76_25]
      simp (disch := omega) only [nI_ltI, if_neg (show ¬ most < n by omega), b76_28, oF c_o, Option.bind_some, moF c_tri, if_true, q1, b76_33, oF ca1.2.1, q2, oF ca2.2.1, q3, b01_t, b76_42, n1, if_false, b76_43, ffL, hw, nO]
    | false =>
      obtain ⟨h4, q4, ca4, f4⟩ := ih (n + 1) (by omega) (by omega) h3 ca3
      refine ⟨h4, ?_, ca4, fr.tr f4⟩
      rw [hw] at q3
      rw [b76_25]
      simp (disch := omega) only [nI_ltI, if_neg (show ¬ most < n by omega), b76_28, oF c_o, Option.bind_some, moF c_tri, if_true, q1, b76_33, oF ca1.2.1, q2, oF ca2.2.1, q3, b01_f, b76_42, b76_45, ffL, hw, Bool.false_eq_true, if_false, nI_add]
      exact q4
theorem a_hold (e : CA h hl sp L M T S hp P hk K) (wf : WfH L) (wm : WfM L M 30000) {a : Nat} (ha : a < L 7 6) : ∃ h', AN 76 [.ref 0, .int (nI a)] h (nO (holF L M a)) h' ∧ CA h' hl sp L M T S hp P hk K := by
  have e' := e
  obtain ⟨c_sw, c_o, c_hi, c_spa, c_tx, c_sc, c_mo, c_tri, c_sh, c_ke, c_se, c_ou, c_ch⟩ := e'
  have w12 := wf.2.2.2.2.2.2.2.2.2.2.2.1
  have m4 := wm.2.2.2.1
  have n1 : ¬ nI 1 = nI 0 := by decide
  obtain ⟨h1, X1, q1, e1, b1, f1⟩ := c_getsHisWish (y := 76) (k := 12) (ls := [some (.ref 0), some (.int (nI a)), none, none]) (r := []) e wf (Or.inl rfl) c_mo wm ha
  have ca1 := e.ouX e1 b1 f1
  have fr : Fr 0 72 h h1 := f1.wd (by omega) (by omega)
  unfold holF
  cases hw : wisF L M a with
  | true =>
    rw [hw] at q1
    refine ⟨h1, ⟨?_, fr⟩, ca1⟩
    show m_ev 76 0 [some (.ref 0), some (.int (nI a)), none, none] [] h = _
    simp only [b76_0, oF c_o, Option.bind_some, hiF c_hi, if_true, c_hasAsker c_hi w12 ha, b76_4, n1, if_false, b76_7, q1, b01_t, b76_12, b76_13, nO]
  | false =>
    rw [hw] at q1
    by_cases hu : M 2 3 = 0
    · obtain ⟨h2, q2, ca2, f2⟩ := hold_loop wf wm ha (most := 12) (by omega) 12 1 rfl (by omega) h1 ca1
      refine ⟨h2, ⟨?_, fr.tr f2⟩, ca2⟩
      show m_ev 76 0 [some (.ref 0), some (.int (nI a)), none, none] [] h = _
      simp only [b76_0, oF c_o, Option.bind_some, hiF c_hi, if_true, c_hasAsker c_hi w12 ha, b76_4, n1, if_false, b76_7, q1, b01_f, b76_12, b76_15, oF ca1.2.1, moF ca1.2.2.2.2.2.2.1, hu, b76_21, q2, Bool.false_eq_true]
    · obtain ⟨h2, q2, ca2, f2⟩ := hold_loop wf wm ha (most := 0) (by omega) 0 1 rfl (by omega) h1 ca1
      rw [show ffL (fun n => wisF L (uL M 2 2 n) a) 0 1 = none from rfl] at q2
      refine ⟨h2, ⟨?_, fr.tr f2⟩, ca2⟩
      show m_ev 76 0 [some (.ref 0), some (.int (nI a)), none, none] [] h = _
      simp (disch := omega) only [b76_0, oF c_o, Option.bind_some, hiF c_hi, if_true, c_hasAsker c_hi w12 ha, b76_4, n1, if_false, b76_7, q1, b01_f, b76_12, b76_15, oF ca1.2.1, moF ca1.2.2.2.2.2.2.1, nI_eq, if_neg hu, b76_19, q2, Bool.false_eq_true]
-- see, forget
theorem a_see_bad {x x' : Int32} (hx : x < nI 0 ∨ nI 4 ≤ x) : AN 78 [.ref 0, .int x, .int x'] h (-1) h := by
  refine ⟨?_, Fr.rf _ _ _⟩
  show m_ev 78 0 [some (.ref 0), some (.int x), some (.int x')] [] h = _
  simp only [b78_0, c_isWord_no hx, b78_2, if_true, b78_8]
theorem a_see_bad2 {w : Nat} (hw : w ≤ 3) {x' : Int32} (hx : x' < nI 0 ∨ nI 100 ≤ x') : AN 78 [.ref 0, .int (nI w), .int x'] h (-1) h := by
  refine ⟨?_, Fr.rf _ _ _⟩
  have n1 : ¬ nI 1 = nI 0 := by decide
  show m_ev 78 0 [some (.ref 0), some (.int (nI w)), some (.int x')] [] h = _
  rcases bad_c hx rfl (by omega) (by omega) with q | ⟨q1, q2, _⟩
  · simp (disch := omega) only [b78_0, c_isWord, if_pos hw, b78_2, n1, if_false, b78_3, if_pos q, b78_8]
  · simp (disch := omega) only [b78_0, c_isWord, if_pos hw, b78_2, n1, if_false, b78_3, if_neg q1, b78_5, if_neg q2, b78_8]
theorem a_see_full (e : CA h hl sp L M T S hp P hk K) {w t : Nat} (hw : w ≤ 3) (ht : t ≤ 99) (h6 : S 2 0 = 6) : AN 78 [.ref 0, .int (nI w), .int (nI t)] h (-3) h := by
  obtain ⟨c_sw, c_o, c_hi, c_spa, c_tx, c_sc, c_mo, c_tri, c_sh, c_ke, c_se, c_ou, c_ch⟩ := e
  refine ⟨?_, Fr.rf _ _ _⟩
  have n1 : ¬ nI 1 = nI 0 := by decide
  show m_ev 78 0 [some (.ref 0), some (.int (nI w)), some (.int (nI t))] [] h = _
  simp (disch := omega) only [b78_0, c_isWord, if_pos hw, b78_2, n1, if_false, b78_3, nI_ltI, nI_leI, Nat.not_lt_zero, b78_5, if_pos ht, b78_10, oF c_o, Option.bind_some, seF c_se, if_true, c_add_no c_se h6, b78_15, b78_20]
theorem a_see (e : CA h hl sp L M T S hp P hk K) {w t : Nat} (hw : w ≤ 3) (ht : t ≤ 99) (h6 : S 2 0 < 6) : ∃ h', AN 78 [.ref 0, .int (nI w), .int (nI t)] h (nI (S 2 0 + 1)) h' ∧ CA h' hl sp L M T (adL S w t) hp P hk K := by
  have e' := e
  obtain ⟨c_sw, c_o, c_hi, c_spa, c_tx, c_sc, c_mo, c_tri, c_sh, c_ke, c_se, c_ou, c_ch⟩ := e'
  have n1 : ¬ nI 1 = nI 0 := by decide
  obtain ⟨h1, q1, g1, f1⟩ := c_add (y := 78) (k := 15) (ls := [some (.ref 0), some (.int (nI w)), some (.int (nI t))]) (r := []) c_se h6 w t
  have ca1 := e.seX g1 f1
  refine ⟨h1, ⟨?_, f1.wd (by omega) (by omega)⟩, ca1⟩
  have ha : (adL S w t) 2 0 = S 2 0 + 1 := uL_s _ _ _ _
  show m_ev 78 0 [some (.ref 0), some (.int (nI w)), some (.int (nI t))] [] h = _
  simp (disch := omega) only [b78_0, c_isWord, if_pos hw, b78_2, n1, if_false, b78_3, nI_ltI, nI_leI, Nat.not_lt_zero, b78_5, if_pos ht, b78_10, oF c_o, Option.bind_some, seF c_se, if_true, q1, b78_15, b78_16, oF ca1.2.1, seF g1, ha]
theorem a_forget (e : CA h hl sp L M T S hp P hk K) : ∃ h', AN 79 [.ref 0] h (nI (S 2 0)) h' ∧ CA h' hl sp L M T (uL S 2 0 0) hp P hk K := by
  have e' := e
  obtain ⟨c_sw, c_o, c_hi, c_spa, c_tx, c_sc, c_mo, c_tri, c_sh, c_ke, c_se, c_ou, c_ch⟩ := e'
  obtain ⟨h1, q1, g1, f1⟩ := seW2 c_se 0
  refine ⟨h1, ⟨?_, f1.wd (by omega) (by omega)⟩, e.seX g1 f1⟩
  show m_ev 79 0 [some (.ref 0), none] [] h = _
  simp only [b79_0, oF c_o, Option.bind_some, seF c_se, q1]
-- count
def couF (L M T S : LT) (hp hk q : Nat) : Nat := if q = 0 then L 7 4 else if q = 1 then L 7 5 else if q = 2 then L 7 6 else if q = 3 then L 7 0 else if q = 4 then M 2 0 else if q = 5 then M 2 2 else if q = 6 then cntL (onT M) (L 7 6) else if q = 7 then S 2 0 else if q = 8 then hp else if q = 9 then hk else T 1 0
theorem a_count_bad {x : Int32} (hx : x < nI 0 ∨ nI 11 ≤ x) : AN 86 [.ref 0, .int x] h (-1) h := by
  refine ⟨?_, Fr.rf _ _ _⟩
  show m_ev 86 0 [some (.ref 0), some (.int x)] [] h = _
  have hne : ∀ j, j < 11 → ¬ x = nI j := by
    intro j hj q
    subst q
    rcases hx with q | q
    · rw [nI_ltI (by omega) (by omega)] at q; omega
    · rw [nI_leI (by omega) (by omega)] at q; omega
  rw [b86_0, if_neg (hne 0 (by omega)), if_neg (hne 1 (by omega)), if_neg (hne 2 (by omega)), if_neg (hne 3 (by omega)), if_neg (hne 4 (by omega)), if_neg (hne 5 (by omega)), if_neg (hne 6 (by omega)), if_neg (hne 7 (by omega)), if_neg (hne 8 (by omega)), if_neg (hne 9 (by omega)), if_neg (hne 10 (by omega)), b86_48]
theorem a_count (e : CA h hl sp L M T S hp P hk K) (wf : WfH L) (wm : WfM L M 30000) {q : Nat} (hq : q < 11) : AN 86 [.ref 0, .int (nI q)] h (nI (couF L M T S hp hk q)) h := by
  obtain ⟨c_sw, c_o, c_hi, c_spa, c_tx, c_sc, c_mo, c_tri, ⟨nx, c_sh⟩, ⟨nx2, c_ke⟩, c_se, c_ou, c_ch⟩ := e
  refine ⟨?_, Fr.rf _ _ _⟩
  show m_ev 86 0 [some (.ref 0), some (.int (nI q))] [] h = _
  have hj : ∀ j, j < 11 → q ≠ j → ¬ nI q = nI j := fun j h1 h2 => by rw [nI_eq (by omega) (by omega)]; exact h2
  rcases (show q = 0 ∨ q = 1 ∨ q = 2 ∨ q = 3 ∨ q = 4 ∨ q = 5 ∨ q = 6 ∨ q = 7 ∨ q = 8 ∨ q = 9 ∨ q = 10 by omega) with rfl | rfl | rfl | rfl | rfl | rfl | rfl | rfl | rfl | rfl | rfl
  · rw [b86_0, if_pos rfl, b86_2]
    simp only [oF c_o, Option.bind_some, hiF c_hi, moF c_mo, seF c_se, shF c_sh (show 8 < 2 ^ 31 by omega), shF c_ke (show 2 < 2 ^ 31 by omega), txF c_tx]
    try rfl
  · rw [b86_0, if_neg (hj 0 (by omega) (by omega)), if_pos rfl, b86_6]
    simp only [oF c_o, Option.bind_some, hiF c_hi, moF c_mo, seF c_se, shF c_sh (show 8 < 2 ^ 31 by omega), shF c_ke (show 2 < 2 ^ 31 by omega), txF c_tx]
    try rfl
  · rw [b86_0, if_neg (hj 0 (by omega) (by omega)), if_neg (hj 1 (by omega) (by omega)), if_pos rfl, b86_10]
    simp only [oF c_o, Option.bind_some, hiF c_hi, moF c_mo, seF c_se, shF c_sh (show 8 < 2 ^ 31 by omega), shF c_ke (show 2 < 2 ^ 31 by omega), txF c_tx]
    try rfl
  · rw [b86_0, if_neg (hj 0 (by omega) (by omega)), if_neg (hj 1 (by omega) (by omega)), if_neg (hj 2 (by omega) (by omega)), if_pos rfl, b86_14]
    simp only [oF c_o, Option.bind_some, hiF c_hi, moF c_mo, seF c_se, shF c_sh (show 8 < 2 ^ 31 by omega), shF c_ke (show 2 < 2 ^ 31 by omega), txF c_tx]
    try rfl
  · rw [b86_0, if_neg (hj 0 (by omega) (by omega)), if_neg (hj 1 (by omega) (by omega)), if_neg (hj 2 (by omega) (by omega)), if_neg (hj 3 (by omega) (by omega)), if_pos rfl, b86_18]
    simp only [oF c_o, Option.bind_some, hiF c_hi, moF c_mo, seF c_se, shF c_sh (show 8 < 2 ^ 31 by omega), shF c_ke (show 2 < 2 ^ 31 by omega), txF c_tx]
    try rfl
  · rw [b86_0, if_neg (hj 0 (by omega) (by omega)), if_neg (hj 1 (by omega) (by omega)), if_neg (hj 2 (by omega) (by omega)), if_neg (hj 3 (by omega) (by omega)), if_neg (hj 4 (by omega) (by omega)), if_pos rfl, b86_22]
    simp only [oF c_o, Option.bind_some, hiF c_hi, moF c_mo, seF c_se, shF c_sh (show 8 < 2 ^ 31 by omega), shF c_ke (show 2 < 2 ^ 31 by omega), txF c_tx]
    try rfl
  · rw [b86_0, if_neg (hj 0 (by omega) (by omega)), if_neg (hj 1 (by omega) (by omega)), if_neg (hj 2 (by omega) (by omega)), if_neg (hj 3 (by omega) (by omega)), if_neg (hj 4 (by omega) (by omega)), if_neg (hj 5 (by omega) (by omega)), if_pos rfl, b86_26]
    simp only [oF c_o, Option.bind_some, moF c_mo, hiF c_hi, if_true, c_manyOnTop c_hi c_mo wf wm, b86_31]
    try rfl
  · rw [b86_0, if_neg (hj 0 (by omega) (by omega)), if_neg (hj 1 (by omega) (by omega)), if_neg (hj 2 (by omega) (by omega)), if_neg (hj 3 (by omega) (by omega)), if_neg (hj 4 (by omega) (by omega)), if_neg (hj 5 (by omega) (by omega)), if_neg (hj 6 (by omega) (by omega)), if_pos rfl, b86_32]
    simp only [oF c_o, Option.bind_some, hiF c_hi, moF c_mo, seF c_se, shF c_sh (show 8 < 2 ^ 31 by omega), shF c_ke (show 2 < 2 ^ 31 by omega), txF c_tx]
    try rfl
  · rw [b86_0, if_neg (hj 0 (by omega) (by omega)), if_neg (hj 1 (by omega) (by omega)), if_neg (hj 2 (by omega) (by omega)), if_neg (hj 3 (by omega) (by omega)), if_neg (hj 4 (by omega) (by omega)), if_neg (hj 5 (by omega) (by omega)), if_neg (hj 6 (by omega) (by omega)), if_neg (hj 7 (by omega) (by omega)), if_pos rfl, b86_36]
    simp only [oF c_o, Option.bind_some, hiF c_hi, moF c_mo, seF c_se, shF c_sh (show 8 < 2 ^ 31 by omega), shF c_ke (show 2 < 2 ^ 31 by omega), txF c_tx]
    try rfl
  · rw [b86_0, if_neg (hj 0 (by omega) (by omega)), if_neg (hj 1 (by omega) (by omega)), if_neg (hj 2 (by omega) (by omega)), if_neg (hj 3 (by omega) (by omega)), if_neg (hj 4 (by omega) (by omega)), if_neg (hj 5 (by omega) (by omega)), if_neg (hj 6 (by omega) (by omega)), if_neg (hj 7 (by omega) (by omega)), if_neg (hj 8 (by omega) (by omega)), if_pos rfl, b86_40]
    simp only [oF c_o, Option.bind_some, hiF c_hi, moF c_mo, seF c_se, shF c_sh (show 8 < 2 ^ 31 by omega), shF c_ke (show 2 < 2 ^ 31 by omega), txF c_tx]
    try rfl
  · rw [b86_0, if_neg (hj 0 (by omega) (by omega)), if_neg (hj 1 (by omega) (by omega)), if_neg (hj 2 (by omega) (by omega)), if_neg (hj 3 (by omega) (by omega)), if_neg (hj 4 (by omega) (by omega)), if_neg (hj 5 (by omega) (by omega)), if_neg (hj 6 (by omega) (by omega)), if_neg (hj 7 (by omega) (by omega)), if_neg (hj 8 (by omega) (by omega)), if_neg (hj 9 (by omega) (by omega)), if_pos rfl, b86_44]
    simp only [oF c_o, Option.bind_some, hiF c_hi, moF c_mo, seF c_se, shF c_sh (show 8 < 2 ^ 31 by omega), shF c_ke (show 2 < 2 ^ 31 by omega), txF c_tx]
    try rfl
end
