/-! the calls: year -/
def drF (z k : Nat) : Nat := (7919 * z + 6151 * k + 1) * (7919 * z + 6151 * k + 1) % 65521
def yrS (L M : LT) (d : Nat) : LT := if L 7 6 < 1 ∨ L 7 5 < 1 then M else leaL L M (d % L 7 6) (d / 4 % L 7 5)
def yrP (L M : LT) (z : Nat) : Nat → LT × Nat
  | 0 => (M, 0)
  | k + 1 => (goL L (yrS L (yrP L M z k).1 (drF z k)) 1, (yrP L M z k).2 + cntL (wsh L (goL L (yrS L (yrP L M z k).1 (drF z k)) 1)) (L 7 6))
def yrF (L M : LT) (z n q : Nat) : Nat := if q = 0 then cntL (onT (yrP L M z n).1) (L 7 6) else (yrP L M z n).2
theorem setL_cg {L M M' : LT} (h : AgM M M') {a : Nat} (ha : a < 4) (w : Nat) : setL L M a w = setL L M' a w := by
  unfold setL
  rw [h 1 a (by omega) ha, h 0 a (by omega) ha, h 2 0 (by omega) (by omega), upL_cg h]
theorem AgM.u {M M' : LT} (h : AgM M M') (r k x : Nat) : AgM (uL M r k x) (uL M' r k x) := by
  intro q i h1 h2
  unfold uL
  split
  · rename_i hq
    subst hq
    split
    · rfl
    · exact h q i h1 h2
  · exact h q i h1 h2
theorem leaL_ag {L M M' : LT} (h : AgM M M') {a : Nat} (ha : a < 4) (w : Nat) : AgM (leaL L M a w) (leaL L M' a w) := by
  unfold leaL
  rw [setL_cg h ha, h 0 a (by omega) ha]
  cases setL L M' a w with
  | none => exact h
  | some d => exact (h.u _ _ _).u _ _ _
theorem goL_ag {L M M' : LT} (h : AgM M M') (n : Nat) : AgM (goL L M n) (goL L M' n) := by
  intro q i h1 h2
  have e0 := h 2 0 (by omega) (by omega)
  have e1 := h 2 1 (by omega) (by omega)
  have e2 := h 2 2 (by omega) (by omega)
  have e3 := h q i h1 h2
  unfold goL spotL
  rw [e0, e1, e2]
  rcases (show q = 0 ∨ q = 1 ∨ q = 2 by omega) with rfl | rfl | rfl <;> simp [e3]
theorem cntL_cg {P P' : Nat → Bool} : ∀ n, (∀ i, i < n → P i = P' i) → cntL P n = cntL P' n := by
  intro n
  induction n with
  | zero => intro _; rfl
  | succ n ih =>
    intro h
    unfold cntL
    rw [ih (fun i hi => h i (by omega)), h n (by omega)]
theorem onT_cg {M M' : LT} (h : AgM M M') {a : Nat} (ha : a < 4) : onT M a = onT M' a := by
  unfold onT
  rw [h 0 a (by omega) ha, h 1 a (by omega) ha]
theorem wsh_cg {L M M' : LT} (h : AgM M M') {a : Nat} (ha : a < 4) : wsh L M a = wsh L M' a := by
  unfold wsh
  rw [onT_cg h ha, upL_cg h]
theorem yrS_ag {L M M' : LT} (wf : WfH L) (h : AgM M M') (d : Nat) : AgM (yrS L M d) (yrS L M' d) := by
  have w12 := wf.2.2.2.2.2.2.2.2.2.2.2.1
  unfold yrS
  split
  · exact h
  · rename_i hn
    have : d % L 7 6 < L 7 6 := Nat.mod_lt _ (by omega)
    exact leaL_ag h (by omega) _
section
variable {y k : Nat} {ls : ML} {r : List Value} {h h' : MH} {hl sp hp hk B o : Nat} {L M T S X Q : LT} {P K : Nat → LT}
theorem yrS_wf (wf : WfH L) (w : WfN L M B) (d : Nat) : WfN L (yrS L M d) B := by
  unfold yrS
  split
  · exact w
  · rename_i hn
    exact leaL_wf wf w (Nat.mod_lt _ (by omega)) (Nat.mod_lt _ (by omega))
theorem yrP_wf (wf : WfH L) (w : WfN L M B) (z : Nat) : ∀ k, WfN L (yrP L M z k).1 (B + k) := by
  intro k
  induction k with
  | zero => exact w
  | succ k ih => exact goL_wf wf (yrS_wf wf ih _)
theorem yrP_le (z : Nat) : ∀ k, (yrP L M z k).2 ≤ k * L 7 6 := by
  intro k
  induction k with
  | zero => exact Nat.zero_le _
  | succ k ih =>
    have h1 := cntL_le (wsh L (goL L (yrS L (yrP L M z k).1 (drF z k)) 1)) (L 7 6)
    have e : (k + 1) * L 7 6 = k * L 7 6 + L 7 6 := Nat.succ_mul _ _
    show (yrP L M z k).2 + _ ≤ _
    omega
theorem WfN.cg (wf : WfH L) (h : AgM Q M) (w : WfN L M B) : WfN L Q B := ⟨w.1.cg wf h, fun a ha => by rw [h 1 a (by omega) ha]; exact w.2 a ha⟩
theorem c_draw {z j : Nat} (hz : z ≤ 9999) (hj : j ≤ 60) : m_call m_ev 94 y k [.int (nI z), .int (nI j)] ls r h = m_ev y k ls (.int (nI (drF z j)) :: r) h := by
  refine cl_v ?_
  show m_ev 94 0 [some (.int (nI z)), some (.int (nI j)), none, none] [] h = _
  have hx : 7919 * z + 6151 * j + 1 < 2 ^ 27 := by omega
  have hxx : (7919 * z + 6151 * j + 1) * (7919 * z + 6151 * j + 1) < 2 ^ 27 * 2 ^ 27 := Nat.mul_lt_mul'' hx hx
  rw [b94_0, nI_l (show z < 2 ^ 31 by omega), nI_l (show j < 2 ^ 31 by omega)]
  show some (some (Value.int ((lN 7919 * lN z + lN 6151 * lN j + lN 1) * (lN 7919 * lN z + lN 6151 * lN j + lN 1) - (lN 7919 * lN z + lN 6151 * lN j + lN 1) * (lN 7919 * lN z + lN 6151 * lN j + lN 1) / lN 65521 * lN 65521).toInt32), h) = _
  rw [lN_mul, lN_mul, lN_add, lN_add, lN_mul, pk_lRem (by omega) (by omega) (by omega), lN_i]
  rfl
theorem c_setOutByDraw (o : h[0]? = some (kO hl sp)) (u : HiA h hl L) (g : MoA h 28 Q) (wf : WfH L) (wm : WfM L Q 30000) (hd : hl + 8 ≤ 28) {d : Nat} (hd2 : d < 2 ^ 31) : ∃ h', m_call m_ev 95 y k [.ref 0, .int (nI d)] ls r h = m_ev y k ls r h' ∧ MoA h' 28 (yrS L Q d) ∧ Fr 28 31 h h' := by
  have w12 := wf.2.2.2.2.2.2.2.2.2.2.2.1
  have w10 := wf.2.2.2.2.2.2.2.2.2.1
  unfold yrS
  by_cases hc : L 7 6 < 1 ∨ L 7 5 < 1
  · rw [if_pos hc]
    refine ⟨h, cl_0 ?_, g, Fr.rf _ _ _⟩
    show m_ev 95 0 [some (.ref 0), some (.int (nI d))] [] h = _
    simp (disch := omega) only [b95_0, b95_5, b95_10, oF o, Option.bind_some, hiF u, nI_ltI, nI_leI]
    by_cases h1 : L 7 6 < 1
    · rw [if_pos h1]
    · rw [if_neg h1, if_neg (show ¬ 1 ≤ L 7 5 by omega)]
  · have h1 : ¬ L 7 6 < 1 := fun q => hc (Or.inl q)
    have h2 : ¬ L 7 5 < 1 := fun q => hc (Or.inr q)
    rw [if_neg hc]
    have n6 : ¬ nI (L 7 6) = nI 0 := by rw [nI_eq (by omega) (by omega)]; omega
    have n5 : ¬ nI (L 7 5) = nI 0 := by rw [nI_eq (by omega) (by omega)]; omega
    have hm1 : d % L 7 6 < L 7 6 := Nat.mod_lt _ (by omega)
    have hm2 : d / 4 % L 7 5 < L 7 5 := Nat.mod_lt _ (by omega)
    obtain ⟨h3, q3, g3, f3⟩ := c_leave (y := 95) (k := 28) (ls := [some (.ref 0), some (.int (nI d))]) (r := []) u g wf wm (by omega) hm1 hm2
    have hd4 : d / 4 < 2 ^ 31 := by omega
    refine ⟨h3, cl_0 ?_, g3, f3⟩
    show m_ev 95 0 [some (.ref 0), some (.int (nI d))] [] h = _
    have e1 : nI d - nI d / nI (L 7 6) * nI (L 7 6) = nI (d % L 7 6) := nI_remN hd2 (by omega) (by omega)
    have e2 : nI d / nI 4 = nI (d / 4) := nI_divN hd2 (by omega) (by omega)
    have e3 : nI (d / 4) - nI (d / 4) / nI (L 7 5) * nI (L 7 5) = nI (d / 4 % L 7 5) := nI_remN hd4 (by omega) (by omega)
    simp (disch := omega) only [b95_0, b95_5, b95_11, b95_28, oF o, Option.bind_some, hiF u, nI_ltI, nI_leI, if_neg h1, if_pos (show 1 ≤ L 7 5 by omega), n6, n5, if_false, moF g, if_true, e1, e2, e3, q3]
theorem year_loop (wf : WfH L) (wm : WfN L M B) (hB : B ≤ 29000) {z n q : Nat} (hz : z ≤ 9999) (hn : n ≤ 60) (hq : q ≤ 1) : ∀ (d j : Nat), j + d = n → ∀ (h : MH) (Q : LT), CA h hl sp L M T S hp P hk K → MoA h 28 Q → AgM Q (yrP L M z j).1 → ∃ h', m_ev 83 27 [some (.ref 0), some (.int (nI z)), some (.int (nI n)), some (.int (nI q)), some (.int (nI (yrP L M z j).2)), some (.int (nI j))] [] h = some (some (.int (nI (yrF L M z n q))), h') ∧ CA h' hl sp L M T S hp P hk K ∧ Fr 0 72 h h' := by
  have w12 := wf.2.2.2.2.2.2.2.2.2.2.2.1
  intro d
  induction d with
  | zero =>
    intro j hj h Q e g ag
    obtain rfl : j = n := by omega
    have wq := ((yrP_wf wf wm z j).cg wf ag).1.up (show B + j ≤ 30000 by omega)
    refine ⟨h, ?_, e, Fr.rf _ _ _⟩
    rw [b83_27]
    simp (disch := omega) only [nI_leI, Nat.le_refl, if_true, b83_51, nI_eq, b83_53, b83_58, b83_59, oF e.2.1, Option.bind_some, moF g, c_manyOnTop e.2.2.1 g wf wq, yrF]
    rw [cntL_cg (P := onT Q) (P' := onT (yrP L M z j).1) (L 7 6) (fun i hi => onT_cg ag (by omega))]
    split <;> rfl
  | succ d ih =>
    intro j hj h Q e g ag
    have hnj : ¬ n ≤ j := by omega
    have wy := yrP_wf wf wm z j
    have wq := wy.cg wf ag
    have hdl : hl + 8 ≤ 28 := by have := e.1; omega
    have hdr : drF z j < 65521 := Nat.mod_lt _ (by omega)
    obtain ⟨h1, q1, g1, f1⟩ := c_setOutByDraw (y := 83) (k := 35) (ls := [some (.ref 0), some (.int (nI z)), some (.int (nI n)), some (.int (nI q)), some (.int (nI (yrP L M z j).2)), some (.int (nI j))]) (r := []) e.2.1 e.2.2.1 g wf (wq.1.up (show B + j ≤ 30000 by omega)) hdl (d := drF z j) (by omega)
    have ca1 := e.trX g1 f1
    have wq1 := yrS_wf wf wq (drF z j)
    obtain ⟨h2, q2, g2, f2⟩ := c_goOn (y := 83) (k := 41) (ls := [some (.ref 0), some (.int (nI z)), some (.int (nI n)), some (.int (nI q)), some (.int (nI (yrP L M z j).2)), some (.int (nI j))]) (r := []) ca1.2.2.1 g1 wf (wq1.1.up (show B + j ≤ 30000 by omega)) (fun a ha => by have := wq1.2 a ha; omega) (by omega) (n := 1) (by omega)
    have ca2 := ca1.trX g2 f2
    have wq2 := (goL_wf (n := 1) wf wq1).1.up (show B + j + 1 ≤ 30000 by omega)
    have ag2 : AgM (goL L (yrS L Q (drF z j)) 1) (yrP L M z (j + 1)).1 := goL_ag (yrS_ag wf ag _) 1
    obtain ⟨h3, q3, ca3, f3⟩ := ih (j + 1) (by omega) h2 _ ca2 g2 ag2
    have hcn : cntL (wsh L (goL L (yrS L Q (drF z j)) 1)) (L 7 6) = cntL (wsh L (yrP L M z (j + 1)).1) (L 7 6) := cntL_cg _ (fun i hi => wsh_cg ag2 (by omega))
    refine ⟨h3, ?_, ca3, ((f1.tr f2).wd (by omega) (by omega)).tr f3⟩
    rw [b83_27]
    simp (disch := omega) only [nI_leI, hnj, if_false, b83_30, c_draw, b83_34, oF e.2.1, if_true, q1, b83_35, oF ca1.2.1, Option.bind_some, moF g1, q2, b83_41, oF ca2.2.1, moF g2, c_readers ca2.2.2.1 g2 wf wq2, b83_47, nI_add, hcn]
    exact q3
theorem a_year_bad {x1 x2 x3 : Int32} (hx : (x1 < nI 0 ∨ nI 10000 ≤ x1) ∨ (x2 < nI 1 ∨ nI 61 ≤ x2) ∨ (x3 < nI 0 ∨ nI 2 ≤ x3)) : AN 83 [.ref 0, .int x1, .int x2, .int x3] h (-1) h := by
  refine ⟨?_, Fr.rf _ _ _⟩
  show m_ev 83 0 [some (.ref 0), some (.int x1), some (.int x2), some (.int x3), none, none] [] h = _
  simp only [b83_0, b83_2, b83_5, b83_8, b83_11, b83_13, b83_16]
  have d2 := fun q => bad_c (x := x1) q rfl (show 0 ≤ 10000 by omega) (by omega)
  have d3 := fun q => bad_c (x := x2) q rfl (show 1 ≤ 61 by omega) (by omega)
  have d4 := fun q => bad_c (x := x3) q rfl (show 0 ≤ 2 by omega) (by omega)
  rcases hx with q | q | q
  · rcases d2 q with p | ⟨p1, p2, p3⟩
    · rw [if_pos p]
    · rw [if_neg p1, if_pos p3]
  · rcases d3 q with p | ⟨p1, p2, p3⟩
    · rw [if_pos p]; (repeat' split) <;> rfl
    · rw [if_neg p1, if_pos p3]; (repeat' split) <;> rfl
  · rcases d4 q with p | ⟨p1, p2, p3⟩
    · rw [if_pos p]; (repeat' split) <;> rfl
    · rw [if_neg p1, if_neg p2]; (repeat' split) <;> rfl
theorem a_year (e : CA h hl sp L M T S hp P hk K) (wf : WfH L) (wm : WfN L M B) (hB : B ≤ 29000) {z n q : Nat} (hz : z ≤ 9999) (hn : 1 ≤ n ∧ n ≤ 60) (hq : q ≤ 1) : ∃ h', AN 83 [.ref 0, .int (nI z), .int (nI n), .int (nI q)] h (nI (yrF L M z n q)) h' ∧ CA h' hl sp L M T S hp P hk K := by
  have e' := e
  obtain ⟨c_sw, c_o, c_hi, c_spa, c_tx, c_sc, c_mo, ⟨M0, c_tri⟩, c_sh, c_ke, c_se, c_ou, c_ch⟩ := e'
  obtain ⟨h1, q1, g1, f1⟩ := c_copy (y := 83) (k := 23) (ls := [some (.ref 0), some (.int (nI z)), some (.int (nI n)), some (.int (nI q)), none, none]) (r := []) c_tri c_mo (by omega) wm.1.2.2.2.1
  have ca1 := e.trX g1 f1
  obtain ⟨h2, q2, ca2, f2⟩ := year_loop wf wm hB hz hn.2 hq n 0 (by omega) h1 _ ca1 g1 (cpL_ag M0 M)
  refine ⟨h2, ⟨?_, (f1.wd (by omega) (by omega)).tr f2⟩, ca2⟩
  show m_ev 83 0 [some (.ref 0), some (.int (nI z)), some (.int (nI n)), some (.int (nI q)), none, none] [] h = _
  simp (disch := omega) only [b83_0, b83_2, b83_5, b83_8, b83_11, b83_13, nI_ltI, nI_leI, Nat.not_lt_zero, if_false, if_neg (show ¬ 9999 < z by omega), if_neg (show ¬ n < 1 by omega), if_neg (show ¬ 60 < n by omega), if_pos hq, b83_18, oF c_o, Option.bind_some, moF c_tri, if_true, q1, b83_23]
  exact q2
end
