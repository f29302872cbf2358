/-! the model: a YEAR -/
section
variable {y k : Nat} {ls : ML} {r : List Value} {h : MH} {V L M T S : LT} {hp hk B : Nat} {P K : Nat → LT}
def drL (z j : Nat) : Int64 := Int64.ofNat 7919 * (nI z).toInt64 + Int64.ofNat 6151 * (nI j).toInt64 + Int64.ofNat 1
theorem drL_i {z j : Nat} (hz : z ≤ 9999) (hj : j ≤ 60) : (drL z j * drL z j - drL z j * drL z j / Int64.ofNat 65521 * Int64.ofNat 65521).toInt32 = nI (drF z j) := by
  have hx : 7919 * z + 6151 * j + 1 < 2 ^ 27 := by omega
  have hxx : (7919 * z + 6151 * j + 1) * (7919 * z + 6151 * j + 1) < 2 ^ 27 * 2 ^ 27 := Nat.mul_lt_mul'' hx hx
  unfold drL
  rw [nI_l (show z < 2 ^ 31 by omega), nI_l (show j < 2 ^ 31 by omega)]
  show ((lN 7919 * lN z + lN 6151 * lN j + lN 1) * (lN 7919 * lN z + lN 6151 * lN j + lN 1) - (lN 7919 * lN z + lN 6151 * lN j + lN 1) * (lN 7919 * lN z + lN 6151 * lN j + lN 1) / lN 65521 * lN 65521).toInt32 = _
  rw [lN_mul, lN_mul, lN_add, lN_add, lN_mul, pk_lRem (by omega) (by omega) (by omega), lN_i]
  rfl
theorem yr_cnt {z n q j base d0 : Nat} {l6 : Int64} (e : MdA h V) (rh : RH V L) (st : StV (V 76) 0 L M) (wf : WfH L) (wm : WfM L M 30000) : ∀ (d i : Nat), i + d = L 7 6 → ∃ d9, m_ev 156 71 [some (.ref 72), some (.int (nI z)), some (.int (nI n)), some (.int (nI q)), some (.int (nI (base + cntL (wsh L M) i))), some (.int (nI j)), some (.long l6), none, some (.int (nI d0)), some (.int (nI i))] [] h = m_ev 156 29 [some (.ref 72), some (.int (nI z)), some (.int (nI n)), some (.int (nI q)), some (.int (nI (base + cntL (wsh L M) (L 7 6)))), some (.int (nI (j + 1))), some (.long l6), none, some (.int (nI d0)), d9] [] h := by
  have w2 := wf.2.1
  have w3 := wf.2.2.1
  have w12 := wf.2.2.2.2.2.2.2.2.2.2.2.1
  have n1 : ¬ nI 1 = nI 0 := by decide
  obtain ⟨s0, s1, s2, s3, s4, s8⟩ := stF st
  have m2 := wm.2.1
  have r8 := rh.2.2.2.2.2.2.1
  have r73 := rh.2.2.2.2.2.2.2.1 _ m2
  have l4 := w3 _ m2
  intro d
  induction d with
  | zero =>
    intro i hi
    obtain rfl : i = L 7 6 := by omega
    refine ⟨some (.int (nI (L 7 6))), ?_⟩
    rw [b156_71]
    simp (disch := omega) only [mdF e, Option.bind_some, r8, nI_leI, Nat.le_refl, if_true, b156_99, nI_add]
  | succ d ih =>
    intro i hi
    have hni : ¬ L 7 6 ≤ i := by omega
    have hw := (wf.2.2.2.2.2.2.2.2.2.2.2.2 i (by omega)).2
    have r75 := rh.2.2.2.2.2.2.2.2.2 i (by omega)
    obtain ⟨d9, hih⟩ := ih (i + 1) (by omega)
    rw [cntL] at hih
    refine ⟨d9, ?_⟩
    rw [b156_71]
    simp (disch := omega) only [mdF e, Option.bind_some, r8, nI_leI, hni, if_false, b156_75, if_true, d_isOnTop e st wm wf (show i < L 7 6 by omega), b156_79]
    cases hc : onT M i with
    | false =>
      have hw2 : ¬ wsh L M i = true := by simp [wsh, hc]
      rw [if_neg hw2, Nat.add_zero] at hih
      simp only [b01_f, if_true, b156_94, nI_add, Nat.add_zero]
      exact hih
    | true =>
      simp (disch := omega) only [b01_t, n1, if_false, b156_80, mdF e, Option.bind_some, s1, r73, r75, nI_eq]
      by_cases hq : L 0 (M 2 1) = L 6 i
      · have hw2 : wsh L M i = true := by simp [wsh, hc, upL_0 m2, hq]
        rw [if_pos hw2] at hih
        rw [if_pos hq, b156_92, nI_add, nI_add, Nat.add_assoc]
        exact hih
      · have hw2 : ¬ wsh L M i = true := by simp [wsh, hc, upL_0 m2]; exact fun z => hq z.symm
        rw [if_neg hw2, Nat.add_zero] at hih
        rw [if_neg hq, b156_94, nI_add, nI_add, Nat.add_zero]
        exact hih
theorem yr_loop {f0 : Nat → Nat} (wf : WfH L) (h1a : 1 ≤ L 7 6) (wm : WfN L M B) (hB : B ≤ 29000) {z n q : Nat} (hz : z ≤ 9999) (hn : n ≤ 60) (hq : q ≤ 1) (hf0 : StV f0 0 L M) : ∀ (d j : Nat), j + d = n → ∀ (h : MH) (V : LT) (d6 d8 d9 : Option Value), MdA h V → RV V L (yrP L M z j).1 T S hp P hk K → (∀ i, i < 12 → V 88 i = f0 i) → ∃ h' V', m_ev 156 29 [some (.ref 72), some (.int (nI z)), some (.int (nI n)), some (.int (nI q)), some (.int (nI (yrP L M z j).2)), some (.int (nI j)), d6, none, d8, d9] [] h = some (some (.int (nI (yrF L M z n q))), h') ∧ MdA h' V' ∧ RV V' L M T S hp P hk K ∧ Fr 72 89 h h' := by
  have w10 := wf.2.2.2.2.2.2.2.2.2.1
  have w12 := wf.2.2.2.2.2.2.2.2.2.2.2.1
  intro d
  induction d with
  | zero =>
    intro j hj h V d6 d8 d9 e rv v88
    obtain rfl : j = n := by omega
    have wq := (yrP_wf wf wm z j).1.up (show B + j ≤ 30000 by omega)
    obtain ⟨h3, V3, q3, e3, x3, v3, f3⟩ := d_copies (y := 156) (k := 112) (ls := [some (.ref 72), some (.int (nI z)), some (.int (nI j)), some (.int (nI q)), some (.int (nI (yrP L M z j).2)), some (.int (nI (cntL (onT (yrP L M z j).1) (L 7 6)))), d6, none, d8, d9]) (r := []) e (a := 76) (b := 88) (at0 := 0) (fr0 := 0) (n := 12) (by omega) (by decide) (by decide) (by omega)
    refine ⟨h3, V3, ?_, e3, rv.st (fun p h1 _ => x3 p h1) ?_, f3⟩
    · rw [b156_29]
      simp (disch := omega) only [nI_leI, Nat.le_refl, if_true, b156_101, mdF e, d_onTop e rv.1 rv.2.1 wf wq, b156_103, Option.bind_some, q3, b156_112, nI_eq, b156_114, b156_116, yrF]
      split <;> rfl
    · refine StV.cp w12 hf0 (fun i hi => ?_)
      rw [v3, if_pos (by omega), show 0 + (0 + i - 0) = i by omega, v88 i hi, Nat.zero_add]
  | succ d ih =>
    intro j hj h V d6 d8 d9 e rv v88
    have hnj : ¬ n ≤ j := by omega
    have wy := yrP_wf wf wm z j
    have wy1 := wy.1.up (show B + j ≤ 30000 by omega)
    have hdr : drF z j < 65521 := Nat.mod_lt _ (by omega)
    have r6 := rv.1.2.2.2.2.2.1
    have r8 := rv.1.2.2.2.2.2.2.1
    have dre := drL_i hz (show j ≤ 60 by omega)
    -- to the hour that goes by
    obtain ⟨h3, V3, x9, q3, e3, k3, st3, f3⟩ : ∃ h3 V3 x9, m_ev 156 29 [some (.ref 72), some (.int (nI z)), some (.int (nI n)), some (.int (nI q)), some (.int (nI (yrP L M z j).2)), some (.int (nI j)), d6, none, d8, d9] [] h = m_call m_ev 132 156 69 [.ref 72] [some (.ref 72), some (.int (nI z)), some (.int (nI n)), some (.int (nI q)), some (.int (nI (yrP L M z j).2)), some (.int (nI j)), some (.long (drL z j)), none, some (.int (nI (drF z j))), x9] [] h3 ∧ MdA h3 V3 ∧ (∀ p, p ≠ 76 → p ≠ 86 → V3 p = V p) ∧ StV (V3 76) 0 L (yrS L (yrP L M z j).1 (drF z j)) ∧ Fr 72 89 h h3 := by
      unfold yrS
      by_cases hw0 : L 7 5 < 1
      · refine ⟨h, V, d9, ?_, e, fun _ _ _ => rfl, by rw [if_pos (Or.inr hw0)]; exact rv.2.1, Fr.rf _ _ _⟩
        rw [b156_29]
        simp (disch := omega) only [nI_leI, hnj, if_false, b156_32, mdF e, Option.bind_some, r6, show L 7 5 ≤ 0 by omega, if_true, b156_67]
        rw [← dre]; rfl
      · have n6 : ¬ nI (L 7 6) = nI 0 := by rw [nI_eq (by omega) (by omega)]; omega
        have n5 : ¬ nI (L 7 5) = nI 0 := by rw [nI_eq (by omega) (by omega)]; omega
        have hm1 : drF z j % L 7 6 < L 7 6 := Nat.mod_lt _ (by omega)
        have hm2 : drF z j / 4 % L 7 5 < L 7 5 := Nat.mod_lt _ (by omega)
        obtain ⟨h4, V4, q4, e4, k4, st4, f4⟩ := d_setsOut (y := 156) (k := 66) (ls := [some (.ref 72), some (.int (nI z)), some (.int (nI n)), some (.int (nI q)), some (.int (nI (yrP L M z j).2)), some (.int (nI j)), some (.long (drL z j)), none, some (.int (nI (drF z j))), d9]) (r := []) e rv.1 rv.2.1 wf wy1 hm1 hm2
        refine ⟨h4, V4, some (.int (nO (setL L (yrP L M z j).1 (drF z j % L 7 6) (drF z j / 4 % L 7 5)))), ?_, e4, k4, by rw [if_neg (by omega)]; exact st4, f4⟩
        have e1 : nI (drF z j) - nI (drF z j) / nI (L 7 6) * nI (L 7 6) = nI (drF z j % L 7 6) := nI_remN (by omega) (by omega) (by omega)
        have e2 : nI (drF z j) / nI 4 = nI (drF z j / 4) := nI_divN (by omega) (by omega) (by omega)
        have e3 : nI (drF z j / 4) - nI (drF z j / 4) / nI (L 7 5) * nI (L 7 5) = nI (drF z j / 4 % L 7 5) := nI_remN (by omega) (by omega) (by omega)
        have step : m_ev 156 29 [some (.ref 72), some (.int (nI z)), some (.int (nI n)), some (.int (nI q)), some (.int (nI (yrP L M z j).2)), some (.int (nI j)), d6, none, d8, d9] [] h = m_ev 156 54 [some (.ref 72), some (.int (nI z)), some (.int (nI n)), some (.int (nI q)), some (.int (nI (yrP L M z j).2)), some (.int (nI j)), some (.long (drL z j)), none, some (.int (nI (drF z j))), d9] [] h := by
          rw [b156_29]
          simp (disch := omega) only [nI_leI, hnj, if_false, b156_32, mdF e, Option.bind_some, r6, show ¬ L 7 5 ≤ 0 by omega]
          rw [← dre]; rfl
        rw [step]
        simp (disch := omega) only [b156_54, mdF e, Option.bind_some, r8, r6, n6, n5, if_false, if_true, e1, e2, e3, q4, b156_66, mdF e4]
    have rv3 := rv.st (fun p h1 h2 => k3 p h1 (by omega)) st3
    have wq1 := yrS_wf wf wy (drF z j)
    have wq1' := wq1.1.up (show B + j ≤ 30000 by omega)
    obtain ⟨h5, V5, q5, e5, x5, st5, f5⟩ := d_goes (y := 156) (k := 69) (ls := [some (.ref 72), some (.int (nI z)), some (.int (nI n)), some (.int (nI q)), some (.int (nI (yrP L M z j).2)), some (.int (nI j)), some (.long (drL z j)), none, some (.int (nI (drF z j))), x9]) (r := []) e3 rv3.1 rv3.2.1 wf wq1'
    have rv5 : RV V5 L (yrP L M z (j + 1)).1 T S hp P hk K := rv3.st (fun p h1 _ => x5 p h1) st5
    have wq2 := (goL_wf (n := 1) wf wq1).1.up (show B + j + 1 ≤ 30000 by omega)
    obtain ⟨a9, q6⟩ := yr_cnt (h := h5) (z := z) (n := n) (q := q) (j := j) (base := (yrP L M z j).2) (d0 := drF z j) (l6 := drL z j) e5 rv5.1 rv5.2.1 wf wq2 (L 7 6) 0 (by omega)
    obtain ⟨h7, V7, q7, e7, rv7, f7⟩ := ih (j + 1) (by omega) h5 V5 (some (.long (drL z j))) (some (.int (nI (drF z j)))) a9 e5 rv5 (fun i hi => by rw [x5 88 (by omega), k3 88 (by omega) (by omega)]; exact v88 i hi)
    refine ⟨h7, V7, ?_, e7, rv7, (f3.tr f5).tr f7⟩
    rw [q3, q5, b156_69]
    have q6' := q6
    rw [show (yrP L M z j).2 + cntL (wsh L (yrP L M z (j + 1)).1) 0 = (yrP L M z j).2 from rfl] at q6'
    rw [q6']
    exact q7
theorem e_year_bad {x1 x2 x3 : Int32} (hx : (x1 < nI 0 ∨ nI 10000 ≤ x1) ∨ (x2 < nI 1 ∨ nI 61 ≤ x2) ∨ (x3 < nI 0 ∨ nI 2 ≤ x3)) : AM 156 [.ref 72, .int x1, .int x2, .int x3] h (-1) h := by
  refine ⟨?_, Fr.rf _ _ _⟩
  have n1 : ¬ nI 1 = nI 0 := by decide
  have c1 := fun q => bad_lt (x := x1) (a := 0) (b := 10000) (c := 9999) q rfl (by omega)
  have c2 := fun q => bad_lt (x := x2) (a := 1) (b := 61) (c := 60) q rfl (by omega)
  have c3 := fun q => bad_lt (x := x3) (a := 0) (b := 2) (c := 1) q rfl (by omega)
  show m_ev 156 0 [some (.ref 72), some (.int x1), some (.int x2), some (.int x3), none, none, none, none, none, none] [] h = _
  simp only [b156_0, d_in_any (show 9999 < 2 ^ 31 by omega) (show 0 ≤ 9999 by omega), b156_4]
  by_cases g1 : x1 < nI 0 ∨ nI 9999 < x1
  · simp only [decide_eq_false (fun z : ¬ (x1 < nI 0 ∨ nI 9999 < x1) => z g1), b01_f, if_true, b156_15]
  · simp only [decide_eq_true g1, b01_t, n1, if_false, b156_5, d_in_any (show 60 < 2 ^ 31 by omega) (show 1 ≤ 60 by omega), b156_9]
    by_cases g2 : x2 < nI 1 ∨ nI 60 < x2
    · simp only [decide_eq_false (fun z : ¬ (x2 < nI 1 ∨ nI 60 < x2) => z g2), b01_f, if_true, b156_15]
    · simp only [decide_eq_true g2, b01_t, n1, if_false, b156_10, d_in_any (show 1 < 2 ^ 31 by omega) (show 0 ≤ 1 by omega), b156_14]
      by_cases g3 : x3 < nI 0 ∨ nI 1 < x3
      · simp only [decide_eq_false (fun z : ¬ (x3 < nI 0 ∨ nI 1 < x3) => z g3), b01_f, if_true, b156_15]
      · rcases hx with q | q | q
        · exact (g1 (c1 q)).elim
        · exact (g2 (c2 q)).elim
        · exact (g3 (c3 q)).elim
theorem e_year (e : MdA h V) (rv : RV V L M T S hp P hk K) (wf : WfH L) (h1a : 1 ≤ L 7 6) (wm : WfN L M B) (hB : B ≤ 29000) {z n q : Nat} (hz : z ≤ 9999) (hn : 1 ≤ n ∧ n ≤ 60) (hq : q ≤ 1) : ∃ h' V', AM 156 [.ref 72, .int (nI z), .int (nI n), .int (nI q)] h (nI (yrF L M z n q)) h' ∧ MdA h' V' ∧ RV V' L M T S hp P hk K := by
  have n1 : ¬ nI 1 = nI 0 := by decide
  obtain ⟨h3, V3, q3, e3, x3, v3, f3⟩ := d_copies (y := 156) (k := 25) (ls := [some (.ref 72), some (.int (nI z)), some (.int (nI n)), some (.int (nI q)), none, none, none, none, none, none]) (r := []) e (a := 88) (b := 76) (at0 := 0) (fr0 := 0) (n := 12) (by omega) (by decide) (by decide) (by omega)
  obtain ⟨h4, V4, q4, e4, rv4, f4⟩ := yr_loop wf h1a wm hB hz hn.2 hq rv.2.1 n 0 (by omega) h3 V3 none none none e3 (rv.sk (x3.sk (by omega))) (fun i hi => by rw [v3, if_pos (by omega), show 0 + (i - 0) = i by omega])
  refine ⟨h4, V4, ⟨?_, f3.tr f4⟩, e4, rv4⟩
  show m_ev 156 0 [some (.ref 72), some (.int (nI z)), some (.int (nI n)), some (.int (nI q)), none, none, none, none, none, none] [] h = _
  simp (disch := omega) only [b156_0, d_in1 (show 0 ≤ z by omega) hz (show 9999 < 2 ^ 31 by omega), b156_4, n1, if_false, b156_5, d_in1 hn.1 hn.2 (show 60 < 2 ^ 31 by omega), b156_9, b156_10, d_in1 (show 0 ≤ q by omega) hq (show 1 < 2 ^ 31 by omega), b156_14, b156_17, mdF e, Option.bind_some, q3, b156_25]
  exact q4
end
