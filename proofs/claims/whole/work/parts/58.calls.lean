/-! the model: hours, seen, kept, letters -/
section
variable {V V' L M T S : LT} {hp hk : Nat} {P K : Nat → LT}
theorem RV.st {M' : LT} (r : RV V L M T S hp P hk K) (s : ∀ q, q ≠ 76 → q ≤ 80 → V' q = V q) (x : StV (V' 76) 0 L M') : RV V' L M' T S hp P hk K := by
  obtain ⟨r1, r2, r3, r4, r5, r6⟩ := r
  exact ⟨r1.f (fun k _ => by rw [s 0 (by omega) (by omega)]) (s 73 (by omega) (by omega)) (s 74 (by omega) (by omega)) (s 75 (by omega) (by omega)), x, r3.f (by rw [s 0 (by omega) (by omega)]) (s 80 (by omega) (by omega)), r4.f (by rw [s 0 (by omega) (by omega)]) (s 77 (by omega) (by omega)), r5.f (by rw [s 0 (by omega) (by omega)]) (s 78 (by omega) (by omega)), r6.f (by rw [s 0 (by omega) (by omega)]) (s 79 (by omega) (by omega))⟩
theorem goL_0 (wm : WfM L M 30000) : goL L M 0 = M := by
  have m2 := wm.2.1
  funext q i
  show (if q = 2 then (if i = 0 then M 2 0 + 0 else if i = 1 then spotL L M (L 7 1) (L 7 2) 0 else if i = 2 then M 2 2 - 0 else M 2 i) else if q = 1 then (if i < 4 then M 1 i - 0 else M 1 i) else M q i) = M q i
  by_cases hq : q = 2
  · subst hq
    rw [if_pos rfl]
    by_cases h0 : i = 0
    · rw [if_pos h0, h0]; omega
    · rw [if_neg h0]
      by_cases h1 : i = 1
      · rw [if_pos h1, h1, spot_0 L M _ _ m2]
      · rw [if_neg h1]
        by_cases h2 : i = 2
        · rw [if_pos h2, h2]; omega
        · rw [if_neg h2]
  · rw [if_neg hq]
    by_cases h1 : q = 1
    · subst h1; rw [if_pos rfl]; split <;> omega
    · rw [if_neg h1]
theorem upL_0 {X : LT} (h : X 2 1 < L 7 0) : upL L X 0 = L 0 (X 2 1) := by unfold upL; rw [spot_0 L X _ _ h]
end
section
variable {y k : Nat} {ls : ML} {r : List Value} {h : MH} {V L M T S : LT} {hp hk B : Nat} {P K : Nat → LT}
-- pass
theorem pass_lp (wf : WfH L) (wm : WfN L M B) (hB : B ≤ 29000) {n : Nat} (hn : n ≤ 48) : ∀ (d i : Nat), i + d = n → ∀ (h : MH) (V : LT), MdA h V → RV V L (goL L M i) T S hp P hk K → ∃ h' V', m_ev 133 11 [some (.ref 72), some (.int (nI n)), some (.int (nI i))] [] h = some (some (.int (nI (upL L (goL L M n) 0))), h') ∧ MdA h' V' ∧ RV V' L (goL L M n) T S hp P hk K ∧ Fr 72 89 h h' := by
  intro d
  induction d with
  | zero =>
    intro i hi h V e rv
    obtain rfl : i = n := by omega
    refine ⟨h, V, ?_, e, rv, Fr.rf _ _ _⟩
    have s1 := (stF rv.2.1).2.1
    have m2 := (goL_wf (n := i) wf wm).1.2.1
    have h7 := rv.1.2.2.2.2.2.2.2.1 _ m2
    have w2 := wf.2.1
    rw [b133_11]
    simp (disch := omega) only [nI_leI, Nat.le_refl, if_true, b133_18, mdF e, Option.bind_some, s1, h7, upL_0 m2]
  | succ d ih =>
    intro i hi h V e rv
    have wi := (goL_wf (n := i) wf wm).1.up (show B + i ≤ 30000 by omega)
    obtain ⟨h3, V3, q3, e3, x3, s3, f3⟩ := d_goes (y := 133) (k := 16) (ls := [some (.ref 72), some (.int (nI n)), some (.int (nI i))]) (r := []) e rv.1 rv.2.1 wf wi
    rw [goL_s wf] at s3
    obtain ⟨h4, V4, q4, e4, rv4, f4⟩ := ih (i + 1) (by omega) h3 V3 e3 (rv.st (fun q h1 _ => x3 q h1) s3)
    refine ⟨h4, V4, ?_, e4, rv4, f3.tr f4⟩
    rw [b133_11]
    simp (disch := omega) only [nI_leI, show ¬ n ≤ i by omega, if_false, b133_14, mdF e, if_true, q3, b133_16, nI_add, q4]
theorem e_pass_bad {x : Int32} (hx : x < nI 1 ∨ nI 49 ≤ x) : AM 133 [.ref 72, .int x] h (-1) h := by
  refine ⟨?_, Fr.rf _ _ _⟩
  show m_ev 133 0 [some (.ref 72), some (.int x), none] [] h = _
  simp only [b133_0, d_in0 hx rfl (show 1 ≤ 49 by omega) (by omega), b133_4, if_true, b133_5]
theorem e_pass (e : MdA h V) (rv : RV V L M T S hp P hk K) (wf : WfH L) (wm : WfN L M B) (hB : B ≤ 29000) {n : Nat} (hn : 1 ≤ n ∧ n ≤ 48) : ∃ h' V', AM 133 [.ref 72, .int (nI n)] h (nI (upL L (goL L M n) 0)) h' ∧ MdA h' V' ∧ RV V' L (goL L M n) T S (min (hp + 1) 8) (puS P M) hk K := by
  have n1 : ¬ nI 1 = nI 0 := by decide
  obtain ⟨h3, V3, q3, e3, rv3, _, f3⟩ := d_remembers (y := 133) (k := 9) (ls := [some (.ref 72), some (.int (nI n)), none]) (r := []) e wf rv
  obtain ⟨h4, V4, q4, e4, rv4, f4⟩ := pass_lp wf wm hB hn.2 n 0 (by omega) h3 V3 e3 (by rw [goL_0 (wm.1.up (show B ≤ 30000 by omega))]; exact rv3)
  refine ⟨h4, V4, ⟨?_, f3.tr f4⟩, e4, rv4⟩
  show m_ev 133 0 [some (.ref 72), some (.int (nI n)), none] [] h = _
  simp (disch := omega) only [b133_0, d_in1 hn.1 hn.2 (show 48 < 2 ^ 31 by omega), b133_4, n1, if_false, b133_7, mdF e, if_true, q3, b133_9, q4]
-- setting out
theorem d_setsOut (e : MdA h V) (rh : RH V L) (st : StV (V 76) 0 L M) (wf : WfH L) (wm : WfM L M 30000) {a w : Nat} (ha : a < L 7 6) (hw : w < L 7 5) : ∃ h' V', m_call m_ev 136 y k [.ref 72, .int (nI a), .int (nI w)] ls r h = m_ev y k ls (.int (nO (setL L M a w)) :: r) h' ∧ MdA h' V' ∧ (∀ q, q ≠ 76 → q ≠ 86 → V' q = V q) ∧ StV (V' 76) 0 L (leaL L M a w) ∧ Fr 72 89 h h' := by
  obtain ⟨s0, s1, s2, s3, s4, s8⟩ := stF st
  have w9 := wf.2.2.2.2.2.2.2.2.1
  have w12 := wf.2.2.2.2.2.2.2.2.2.2.2.1
  have m1 := wm.1
  have m2 := wm.2.1
  obtain ⟨p1, p2⟩ := wm.2.2.2.2 a ha
  have n1 : ¬ nI 1 = nI 0 := by decide
  obtain ⟨h3, q3, e3, f3⟩ := mdW86 e (M 2 1) (k := 0) (by omega)
  have x3 := Sx.u 86 V 0 (M 2 1)
  have rh3 := rh.sx x3 (by omega)
  have t4 := s4 a ha
  have t8 := s8 a ha
  have y4 : (uL V 86 0 (M 2 1)) 76 (4 + a) = M 0 a := by rw [x3 76 (by omega)]; exact t4
  have y8 : (uL V 86 0 (M 2 1)) 76 (8 + a) = M 1 a := by rw [x3 76 (by omega)]; exact t8
  have y0 : (uL V 86 0 (M 2 1)) 76 0 = M 2 0 := by rw [x3 76 (by omega)]; exact s0
  have u0 : (uL V 86 0 (M 2 1)) 86 0 = M 2 1 := uL_s _ _ _ _
  have keep : ∀ q, q ≠ 76 → q ≠ 86 → (uL V 86 0 (M 2 1)) q = V q := fun q _ h2 => x3 q h2
  have stk : StV ((uL V 86 0 (M 2 1)) 76) 0 L M := by rw [x3 76 (by omega)]; exact st
  have none_case : setL L M a w = none → m_ev 136 0 [some (.ref 72), some (.int (nI a)), some (.int (nI w)), none] [] h = some (some (.int (-4)), h3) → ∃ h' V', m_call m_ev 136 y k [.ref 72, .int (nI a), .int (nI w)] ls r h = m_ev y k ls (.int (nO (setL L M a w)) :: r) h' ∧ MdA h' V' ∧ (∀ q, q ≠ 76 → q ≠ 86 → V' q = V q) ∧ StV (V' 76) 0 L (leaL L M a w) ∧ Fr 72 89 h h' := by
    intro hs hq
    refine ⟨h3, _, ?_, e3, keep, by unfold leaL; rw [hs]; exact stk, f3⟩
    rw [hs]
    exact cl_v hq
  have m4 : (-4 : Int32) ≤ nI 0 := by decide
  by_cases hl : 0 < M 1 a
  · have hs : setL L M a w = none := by unfold setL; rw [if_pos hl]
    refine none_case hs ?_
    simp (disch := omega) only [b136_0, mdF e, Option.bind_some, s1, q3, mdF e3, nI_add, y8, nI_ltI, hl, if_true, b136_25, m4, b136_56]
  · have hl0 : M 1 a = 0 := by omega
    have hse := setL_0 (L := L) (w := w) hl0
    cases hot : otL L w (M 0 a) with
    | none =>
      have hs : setL L M a w = none := by rw [hse, hot, if_pos rfl]
      refine none_case hs ?_
      simp (disch := omega) only [b136_0, mdF e, Option.bind_some, s1, q3, mdF e3, nI_add, y8, nI_ltI, hl, if_false, b136_15, y4, if_true, d_leadsFrom e3 rh3 wf hw, hot, Option.isSome, b01_f, b136_24, b136_25, m4, b136_56]
    | some q =>
      have hq := otL_lt wf hw hot
      have hse' : setL L M a w = hoL L w (M 2 0) (upL L M 0) := by rw [hse, hot, if_neg (by intro z; cases z)]
      have hho := d_hoursOf (y := 136) (k := 31) (ls := [some (.ref 72), some (.int (nI a)), some (.int (nI w)), none]) (r := []) e3 rh3 wf hw (j := 0) (by omega) (by rw [y0]; omega) (by rw [u0]; exact m2)
      rw [y0, u0, Nat.add_zero, ← upL_0 m2, ← hse'] at hho
      cases hs : setL L M a w with
      | none =>
        rw [hs] at hho
        rw [← hs]
        refine none_case hs ?_
        simp (disch := omega) only [b136_0, mdF e, Option.bind_some, s1, q3, mdF e3, nI_add, y8, nI_ltI, hl, if_false, b136_15, y4, if_true, d_leadsFrom e3 rh3 wf hw, hot, Option.isSome, b01_t, b136_24, n1, b136_27, hho, nO, b136_31, m4, b136_56]
      | some d =>
        rw [hs] at hho
        have hd := setL_lt wf hw hs
        obtain ⟨h4, q4, e4, f4⟩ := mdW76 e3 q (k := 4 + a) (by omega)
        obtain ⟨h5, q5, e5, f5⟩ := mdW76 e4 d (k := 8 + a) (by omega)
        have x5 := (Sx.u 76 (uL V 86 0 (M 2 1)) (4 + a) q).tr (Sx.u 76 _ (8 + a) d)
        have vv : ∀ j, (uL (uL (uL V 86 0 (M 2 1)) 76 (4 + a) q) 76 (8 + a) d) 76 j = if j = 8 + a then d else if j = 4 + a then q else V 76 j := by
          intro j
          by_cases h1 : j = 8 + a
          · rw [if_pos h1, h1, uL_s]
          · rw [if_neg h1, uL_k _ _ _ h1]
            by_cases h2 : j = 4 + a
            · rw [if_pos h2, h2, uL_s]
            · rw [if_neg h2, uL_k _ _ _ h2, x3 76 (by omega)]
        refine ⟨h5, _, cl_v ?_, e5, ?_, ?_, (f3.tr f4).tr f5⟩
        · show m_ev 136 0 [some (.ref 72), some (.int (nI a)), some (.int (nI w)), none] [] h = _
          have nd : ¬ nI d ≤ nI 0 := by rw [nI_leI (by omega) (by omega)]; omega
          simp (disch := omega) only [b136_0, mdF e, Option.bind_some, s1, q3, mdF e3, nI_add, y8, nI_ltI, hl, if_false, b136_15, y4, if_true, d_leadsFrom e3 rh3 wf hw, hot, Option.isSome, b01_t, b136_24, n1, b136_27, hho, nO, b136_31, nd, b136_34, d_otherEnd e3 rh3 wf hw hot, b136_48, q4, mdF e4, q5]
        · intro p h1 h2
          rw [x5 p h1]
          exact keep p h1 h2
        · have hle : leaL L M a w = uL (uL M 0 a q) 1 a d := by unfold leaL; rw [hs, hot]; rfl
          rw [hle]
          refine ⟨?_, ?_, ?_, ?_, fun b hb => ?_⟩
          · rw [vv, if_neg (by omega), if_neg (by omega), s0]; simp [uL]
          · rw [vv, if_neg (by omega), if_neg (by omega), s1]; simp [uL]
          · rw [vv, if_neg (by omega), if_neg (by omega), s2]; simp [uL]
          · rw [vv, if_neg (by omega), if_neg (by omega), s3]; simp [uL]
          · rw [Nat.zero_add, Nat.zero_add, vv, vv]
            by_cases hba : b = a
            · subst hba
              rw [if_neg (by omega), if_pos rfl, if_pos rfl]
              simp [uL]
            · rw [if_neg (by omega), if_neg (by omega), if_neg (by omega), if_neg (by omega), s4 b hb, s8 b hb]
              simp [uL, hba]
theorem e_setOut_bad (e : MdA h V) (rh : RH V L) (wf : WfH L) {x x' : Int32} (hx : x < nI 0 ∨ nI (L 7 6) ≤ x) : AM 137 [.ref 72, .int x, .int x'] h (-1) h := by
  refine ⟨?_, Fr.rf _ _ _⟩
  have r8 := rh.2.2.2.2.2.2.1
  have w12 := wf.2.2.2.2.2.2.2.2.2.2.2.1
  show m_ev 137 0 [some (.ref 72), some (.int x), some (.int x')] [] h = _
  simp only [b137_0, mdF e, if_true, d_isAsker0 e (by omega) (by rw [r8]; exact hx), b137_3, b137_8]
theorem e_setOut_bad2 (e : MdA h V) (rh : RH V L) (wf : WfH L) {a : Nat} (ha : a < L 7 6) {x' : Int32} (hx : x' < nI 0 ∨ nI (L 7 5) ≤ x') : AM 137 [.ref 72, .int (nI a), .int x'] h (-1) h := by
  refine ⟨?_, Fr.rf _ _ _⟩
  have r6 := rh.2.2.2.2.2.1
  have r8 := rh.2.2.2.2.2.2.1
  have w10 := wf.2.2.2.2.2.2.2.2.2.1
  have w12 := wf.2.2.2.2.2.2.2.2.2.2.2.1
  have n1 : ¬ nI 1 = nI 0 := by decide
  show m_ev 137 0 [some (.ref 72), some (.int (nI a)), some (.int x')] [] h = _
  simp only [b137_0, mdF e, if_true, d_isAsker e (show V 0 8 < 2 ^ 31 by omega) (show a < V 0 8 by omega), b137_3, n1, if_false, b137_4, d_isWay0 e (show V 0 6 < 2 ^ 31 by omega) (show x' < nI 0 ∨ nI (V 0 6) ≤ x' by rw [r6]; exact hx), b137_7, b137_8]
theorem e_setOut (e : MdA h V) (rv : RV V L M T S hp P hk K) (wf : WfH L) (wm : WfM L M 30000) {a w : Nat} (ha : a < L 7 6) (hw : w < L 7 5) : ∃ h' V', AM 137 [.ref 72, .int (nI a), .int (nI w)] h (match setL L M a w with
  | none => -2
  | some d => nI d) h' ∧ MdA h' V' ∧ (match setL L M a w with
  | none => RV V' L M T S hp P hk K
  | some _ => RV V' L (leaL L M a w) T S (min (hp + 1) 8) (puS P M) hk K) := by
  have rv0 := rv
  obtain ⟨rh, st, _⟩ := rv0
  obtain ⟨s0, s1, s2, s3, s4, s8⟩ := stF st
  have r6 := rh.2.2.2.2.2.1
  have r8 := rh.2.2.2.2.2.2.1
  have w9 := wf.2.2.2.2.2.2.2.2.1
  have w10 := wf.2.2.2.2.2.2.2.2.2.1
  have w12 := wf.2.2.2.2.2.2.2.2.2.2.2.1
  have m1 := wm.1
  have m2 := wm.2.1
  obtain ⟨p1, p2⟩ := wm.2.2.2.2 a ha
  have n1 : ¬ nI 1 = nI 0 := by decide
  obtain ⟨h3, q3, e3, f3⟩ := mdW86 e (M 2 1) (k := 0) (by omega)
  have x3 := Sx.u 86 V 0 (M 2 1)
  have rh3 := rh.sx x3 (by omega)
  have rv3 := rv.sk (x3.sk (by omega))
  have t4 := s4 a ha
  have t8 := s8 a ha
  have y4 : (uL V 86 0 (M 2 1)) 76 (4 + a) = M 0 a := by rw [x3 76 (by omega)]; exact t4
  have y8 : (uL V 86 0 (M 2 1)) 76 (8 + a) = M 1 a := by rw [x3 76 (by omega)]; exact t8
  have y0 : (uL V 86 0 (M 2 1)) 76 0 = M 2 0 := by rw [x3 76 (by omega)]; exact s0
  have u0 : (uL V 86 0 (M 2 1)) 86 0 = M 2 1 := uL_s _ _ _ _
  have none_case : setL L M a w = none → m_ev 137 0 [some (.ref 72), some (.int (nI a)), some (.int (nI w))] [] h = some (some (.int (-2)), h3) → ∃ h' V', AM 137 [.ref 72, .int (nI a), .int (nI w)] h (match setL L M a w with
    | none => -2
    | some d => nI d) h' ∧ MdA h' V' ∧ (match setL L M a w with
    | none => RV V' L M T S hp P hk K
    | some _ => RV V' L (leaL L M a w) T S (min (hp + 1) 8) (puS P M) hk K) := by
    intro hs hq
    rw [hs]
    exact ⟨h3, _, ⟨hq, f3⟩, e3, rv3⟩
  by_cases hl : 0 < M 1 a
  · have hs : setL L M a w = none := by unfold setL; rw [if_pos hl]
    refine none_case hs ?_
    simp (disch := omega) only [b137_0, mdF e, if_true, d_isAsker e (show V 0 8 < 2 ^ 31 by omega) (show a < V 0 8 by omega), b137_3, n1, if_false, b137_4, d_isWay e (show V 0 6 < 2 ^ 31 by omega) (show w < V 0 6 by omega), b137_7, b137_10, Option.bind_some, s1, q3, mdF e3, nI_add, y8, nI_ltI, hl, b137_40]
  · have hl0 : M 1 a = 0 := by omega
    have hse := setL_0 (L := L) (w := w) hl0
    cases hot : otL L w (M 0 a) with
    | none =>
      have hs : setL L M a w = none := by rw [hse, hot, if_pos rfl]
      refine none_case hs ?_
      simp (disch := omega) only [b137_0, mdF e, if_true, d_isAsker e (show V 0 8 < 2 ^ 31 by omega) (show a < V 0 8 by omega), b137_3, n1, if_false, b137_4, d_isWay e (show V 0 6 < 2 ^ 31 by omega) (show w < V 0 6 by omega), b137_7, b137_10, Option.bind_some, s1, q3, mdF e3, nI_add, y8, nI_ltI, hl, b137_25, y4, d_leadsFrom e3 rh3 wf hw, hot, Option.isSome, b01_f, b137_34, b137_40]
    | some q =>
      have hse' : setL L M a w = hoL L w (M 2 0) (upL L M 0) := by rw [hse, hot, if_neg (by intro z; cases z)]
      have hho := d_hoursOf (y := 137) (k := 39) (ls := [some (.ref 72), some (.int (nI a)), some (.int (nI w))]) (r := []) e3 rh3 wf hw (j := 0) (by omega) (by rw [y0]; omega) (by rw [u0]; exact m2)
      rw [y0, u0, Nat.add_zero, ← upL_0 m2, ← hse'] at hho
      cases hs : setL L M a w with
      | none =>
        rw [hs] at hho
        have := none_case hs (by
          simp (disch := omega) only [b137_0, mdF e, if_true, d_isAsker e (show V 0 8 < 2 ^ 31 by omega) (show a < V 0 8 by omega), b137_3, n1, if_false, b137_4, d_isWay e (show V 0 6 < 2 ^ 31 by omega) (show w < V 0 6 by omega), b137_7, b137_10, Option.bind_some, s1, q3, mdF e3, nI_add, y8, nI_ltI, hl, b137_25, y4, d_leadsFrom e3 rh3 wf hw, hot, Option.isSome, b01_t, b137_34, b137_35, hho, nO, b137_39, show ¬ nI 0 ≤ (-4 : Int32) from by decide, b137_40])
        rw [hs] at this
        exact this
      | some d =>
        rw [hs] at hho
        have hd := setL_lt wf hw hs
        obtain ⟨h4, V4, q4, e4, rv4, _, f4⟩ := d_remembers (y := 137) (k := 44) (ls := [some (.ref 72), some (.int (nI a)), some (.int (nI w))]) (r := []) e3 wf rv3
        obtain ⟨h5, V5, q5, e5, k5, st5, f5⟩ := d_setsOut (y := 137) (k := 48) (ls := [some (.ref 72), some (.int (nI a)), some (.int (nI w))]) (r := []) e4 rv4.1 rv4.2.1 wf wm ha hw
        refine ⟨h5, V5, ⟨?_, (f3.tr f4).tr f5⟩, e5, rv4.st (fun q h1 h2 => k5 q h1 (by omega)) st5⟩
        rw [hs] at q5
        show m_ev 137 0 [some (.ref 72), some (.int (nI a)), some (.int (nI w))] [] h = some (some (.int (nI d)), h5)
        have nd : nI 0 ≤ nI d := nI_le (by omega) (by omega)
        simp (disch := omega) only [b137_0, mdF e, if_true, d_isAsker e (show V 0 8 < 2 ^ 31 by omega) (show a < V 0 8 by omega), b137_3, n1, if_false, b137_4, d_isWay e (show V 0 6 < 2 ^ 31 by omega) (show w < V 0 6 by omega), b137_7, b137_10, Option.bind_some, s1, q3, mdF e3, nI_add, y8, nI_ltI, hl, b137_25, y4, d_leadsFrom e3 rh3 wf hw, hot, Option.isSome, b01_t, b137_34, b137_35, hho, nO, b137_39, nd, b137_42, q4, b137_44, mdF e4, q5, b137_48]
-- foot, goats
theorem e_foot_bad {x : Int32} (hx : x < nI 1 ∨ nI 13 ≤ x) : AM 138 [.ref 72, .int x] h (-1) h := by
  refine ⟨?_, Fr.rf _ _ _⟩
  show m_ev 138 0 [some (.ref 72), some (.int x)] [] h = _
  simp only [b138_0, d_in0 hx rfl (show 1 ≤ 13 by omega) (by omega), b138_4, if_true, b138_5]
theorem e_foot_no (e : MdA h V) (st : StV (V 76) 0 L M) (wm : WfM L M 30000) {n : Nat} (hn : 1 ≤ n ∧ n ≤ 12) (hu : ¬ M 2 3 = 0) : AM 138 [.ref 72, .int (nI n)] h (-2) h := by
  obtain ⟨s0, s1, s2, s3, s4, s8⟩ := stF st
  have m4 := wm.2.2.2.1
  have n1 : ¬ nI 1 = nI 0 := by decide
  refine ⟨?_, Fr.rf _ _ _⟩
  have h1 : M 2 3 = 1 := by omega
  show m_ev 138 0 [some (.ref 72), some (.int (nI n))] [] h = _
  simp (disch := omega) only [b138_0, d_in1 hn.1 hn.2 (show 12 < 2 ^ 31 by omega), b138_4, n1, if_false, b138_7, mdF e, Option.bind_some, s3, h1, if_true, b138_13]
theorem e_foot (e : MdA h V) (rv : RV V L M T S hp P hk K) (wf : WfH L) (wm : WfM L M 30000) {n : Nat} (hn : 1 ≤ n ∧ n ≤ 12) (hu : M 2 3 = 0) : ∃ h' V', AM 138 [.ref 72, .int (nI n)] h (nI (upL L (fooL M n) 0)) h' ∧ MdA h' V' ∧ RV V' L (fooL M n) T S (min (hp + 1) 8) (puS P M) hk K := by
  obtain ⟨s0, s1, s2, s3, s4, s8⟩ := stF rv.2.1
  have m2 := wm.2.1
  have w2 := wf.2.1
  have n1 : ¬ nI 1 = nI 0 := by decide
  obtain ⟨h3, V3, q3, e3, rv3, _, f3⟩ := d_remembers (y := 138) (k := 17) (ls := [some (.ref 72), some (.int (nI n))]) (r := []) e wf rv
  obtain ⟨h4, q4, e4, f4⟩ := mdW76 e3 1 (k := 3) (by omega)
  obtain ⟨h5, q5, e5, f5⟩ := mdW76 e4 n (k := 2) (by omega)
  have x5 := (Sx.u 76 V3 3 1).tr (Sx.u 76 _ 2 n)
  obtain ⟨z0, z1, z2, z3, z4, z8⟩ := stF rv3.2.1
  have vv : ∀ j, (uL (uL V3 76 3 1) 76 2 n) 76 j = if j = 2 then n else if j = 3 then 1 else V3 76 j := by
    intro j
    by_cases h1 : j = 2
    · rw [if_pos h1, h1, uL_s]
    · rw [if_neg h1, uL_k _ _ _ h1]
      by_cases h2 : j = 3
      · rw [if_pos h2, h2, uL_s]
      · rw [if_neg h2, uL_k _ _ _ h2]
  have v1 : (uL (uL V3 76 3 1) 76 2 n) 76 1 = M 2 1 := by rw [vv, if_neg (by omega), if_neg (by omega)]; exact z1
  have h7 : (uL (uL V3 76 3 1) 76 2 n) 73 (M 2 1) = L 0 (M 2 1) := by rw [x5 73 (by omega)]; exact rv3.1.2.2.2.2.2.2.2.1 _ m2
  have hup : upL L (fooL M n) 0 = L 0 (M 2 1) := by
    have : (fooL M n) 2 1 = M 2 1 := by simp [fooL, uL]
    rw [upL_0 (by rw [this]; exact m2), this]
  refine ⟨h5, _, ⟨?_, (f3.tr f4).tr f5⟩, e5, rv3.st (fun q h1 _ => x5 q h1) ⟨?_, ?_, ?_, ?_, fun b hb => ?_⟩⟩
  · show m_ev 138 0 [some (.ref 72), some (.int (nI n))] [] h = _
    have n01 : ¬ nI 0 = nI 1 := by decide
    simp (disch := omega) only [b138_0, d_in1 hn.1 hn.2 (show 12 < 2 ^ 31 by omega), b138_4, n1, if_false, b138_7, mdF e, Option.bind_some, s3, hu, n01, b138_15, if_true, q3, b138_17, mdF e3, q4, mdF e4, q5, mdF e5, v1, h7, hup]
  · rw [vv, if_neg (by omega), if_neg (by omega), z0]; simp [fooL, uL]
  · rw [vv, if_neg (by omega), if_neg (by omega), z1]; simp [fooL, uL]
  · rw [vv, if_pos (by omega)]; simp [fooL, uL]
  · rw [vv, if_neg (by omega), if_pos (by omega)]; simp [fooL, uL]
  · rw [Nat.zero_add, Nat.zero_add, vv, vv, if_neg (by omega), if_neg (by omega), if_neg (by omega), if_neg (by omega), z4 b hb, z8 b hb]
    simp [fooL, uL]
theorem e_graze (e : MdA h V) (rv : RV V L M T S hp P hk K) (wf : WfH L) (wm : WfM L M 30000) : ∃ h' V', AM 139 [.ref 72] h (nI (upL L (graL L M) 0)) h' ∧ MdA h' V' ∧ RV V' L (graL L M) T S (min (hp + 1) 8) (puS P M) hk K := by
  have m2 := wm.2.1
  have w1 := wf.1
  have w2 := wf.2.1
  obtain ⟨h3, V3, q3, e3, rv3, _, f3⟩ := d_remembers (y := 139) (k := 2) (ls := [some (.ref 72)]) (r := []) e wf rv
  obtain ⟨h4, q4, e4, f4⟩ := mdW76 e3 ((M 2 1 + 1) % L 7 0) (k := 1) (by omega)
  have x4 := Sx.u 76 V3 1 ((M 2 1 + 1) % L 7 0)
  obtain ⟨z0, z1, z2, z3, z4, z8⟩ := stF rv3.2.1
  have hlt : (M 2 1 + 1) % L 7 0 < L 7 0 := Nat.mod_lt _ (by omega)
  have r0 := rv3.1.1
  have v1 : (uL V3 76 1 ((M 2 1 + 1) % L 7 0)) 76 1 = (M 2 1 + 1) % L 7 0 := uL_s _ _ _ _
  have h7 : (uL V3 76 1 ((M 2 1 + 1) % L 7 0)) 73 ((M 2 1 + 1) % L 7 0) = L 0 ((M 2 1 + 1) % L 7 0) := by rw [x4 73 (by omega)]; exact rv3.1.2.2.2.2.2.2.2.1 _ hlt
  have hup : upL L (graL L M) 0 = L 0 ((M 2 1 + 1) % L 7 0) := by
    have : (graL L M) 2 1 = (M 2 1 + 1) % L 7 0 := by simp [graL, uL]
    rw [upL_0 (by rw [this]; exact hlt), this]
  refine ⟨h4, _, ⟨?_, f3.tr f4⟩, e4, rv3.st (fun q h1 _ => x4 q h1) ⟨?_, ?_, ?_, ?_, fun b hb => ?_⟩⟩
  · show m_ev 139 0 [some (.ref 72)] [] h = _
    have n0 : ¬ nI (L 7 0) = nI 0 := by rw [nI_eq (by omega) (by omega)]; omega
    simp (disch := omega) only [b139_0, mdF e, if_true, q3, b139_2, mdF e3, Option.bind_some, z1, r0, n0, if_false, nI_add, nI_remN, q4, mdF e4, v1, h7, hup]
  · rw [uL_k _ _ _ (by omega), z0]; simp [graL, uL]
  · rw [uL_s]; simp [graL, uL]
  · rw [uL_k _ _ _ (by omega), z2]; simp [graL, uL]
  · rw [uL_k _ _ _ (by omega), z3]; simp [graL, uL]
  · rw [Nat.zero_add, Nat.zero_add, uL_k _ _ _ (by omega), uL_k _ _ _ (by omega), z4 b hb, z8 b hb]
    simp [graL, uL]
-- undo, keep, back
theorem e_undo_no (e : MdA h V) (rv : RV V L M T S 0 P hk K) : AM 140 [.ref 72] h (-2) h := by
  have a0 := rv.2.2.2.1.1
  refine ⟨?_, Fr.rf _ _ _⟩
  show m_ev 140 0 [some (.ref 72)] [] h = _
  simp only [b140_0, mdF e, Option.bind_some, a0, if_true, b140_3]
theorem e_undo (e : MdA h V) (wf : WfH L) (rv : RV V L M T S (hp + 1) P hk K) : ∃ h' V', AM 140 [.ref 72] h (nI hp) h' ∧ MdA h' V' ∧ RV V' L (P 0) T S hp (poS 8 P) hk K := by
  have w12 := wf.2.2.2.2.2.2.2.2.2.2.2.1
  obtain ⟨r1, r2, r3, ⟨a0, a1, a2⟩, r5, r6⟩ := rv
  obtain ⟨h3, q3, e3, f3⟩ := mdW0 e 11 hp (by simp)
  obtain ⟨h4, V4, q4, e4, s4, v4, f4⟩ := d_copies (y := 140) (k := 22) (ls := [some (.ref 72)]) (r := []) e3 (a := 76) (b := 77) (at0 := 0) (fr0 := 12 * hp) (n := 12) (by omega) (by decide) (by show 12 * hp + 12 ≤ 96; omega) (by omega)
  have y11 : (uL V 0 11 hp) 0 11 = hp := uL_s _ _ _ _
  have z11 : V4 0 11 = hp := by rw [s4 0 (by omega)]; exact y11
  have row : ∀ q, q ≠ 0 → q ≠ 76 → V4 q = V q := fun q h1 h2 => by rw [s4 q h2, uL_row _ _ _ h1]
  have fld : ∀ j, j ≠ 11 → V4 0 j = V 0 j := fun j hj => by rw [s4 0 (by omega), uL_k _ _ _ hj]
  refine ⟨h4, V4, ⟨?_, f3.tr f4⟩, e4, ?_, ?_, r3.f (fld 18 (by omega)) (row 80 (by omega) (by omega)), ⟨z11, by omega, ?_⟩, r5.f (fld 13 (by omega)) (row 78 (by omega) (by omega)), r6.f (fld 15 (by omega)) (row 79 (by omega) (by omega))⟩
  · show m_ev 140 0 [some (.ref 72)] [] h = _
    have n0 : ¬ nI (hp + 1) = nI 0 := by rw [nI_eq (by omega) (by omega)]; omega
    simp (disch := omega) only [b140_0, mdF e, Option.bind_some, a0, n0, if_false, b140_5, nI_subN, Nat.add_sub_cancel, q3, mdF e3, y11, nI_mulN, q4, b140_22, mdF e4, z11]
  · exact r1.f (fun j hj => fld j (by omega)) (row 73 (by omega) (by omega)) (row 74 (by omega) (by omega)) (row 75 (by omega) (by omega))
  · refine StV.cp w12 (a2 0 (by omega)) (fun i hi => ?_)
    rw [v4, if_pos (by omega), uL_row _ _ _ (by omega)]
    congr 1; omega
  · intro j hj
    rw [row 77 (by omega) (by omega)]
    have : poS 8 P j = P (j + 1) := by unfold poS; rw [if_pos (by omega)]
    rw [this]
    have h1 := a2 (j + 1) (by omega)
    rw [show hp + 1 - 1 - (j + 1) = hp - 1 - j by omega] at h1
    exact h1
theorem e_keep_full (e : MdA h V) (rv : RV V L M T S hp P 2 K) : AM 158 [.ref 72] h (-3) h := by
  have a0 := rv.2.2.2.2.1.1
  refine ⟨?_, Fr.rf _ _ _⟩
  show m_ev 158 0 [some (.ref 72)] [] h = _
  simp only [b158_0, mdF e, Option.bind_some, a0, if_true, b158_4]
theorem e_keep (e : MdA h V) (wf : WfH L) (rv : RV V L M T S hp P hk K) (h2 : hk < 2) : ∃ h' V', AM 158 [.ref 72] h (nI (hk + 1)) h' ∧ MdA h' V' ∧ RV V' L M T S hp P (hk + 1) (puS K M) := by
  have w12 := wf.2.2.2.2.2.2.2.2.2.2.2.1
  obtain ⟨r1, r2, r3, r4, ⟨a0, a1, a2⟩, r6⟩ := rv
  obtain ⟨h4, V4, q4, e4, s4, v4, f4⟩ := d_copies (y := 158) (k := 17) (ls := [some (.ref 72)]) (r := []) e (a := 78) (b := 76) (at0 := 12 * hk) (fr0 := 0) (n := 12) (by omega) (by show 12 * hk + 12 ≤ 24; omega) (by decide) (by omega)
  obtain ⟨h5, q5, e5, f5⟩ := mdW0 e4 13 (hk + 1) (by simp)
  have z13 : V4 0 13 = hk := by rw [s4 0 (by omega)]; exact a0
  have y13 : (uL V4 0 13 (hk + 1)) 0 13 = hk + 1 := uL_s _ _ _ _
  have row : ∀ q, q ≠ 0 → q ≠ 78 → (uL V4 0 13 (hk + 1)) q = V q := fun q h1 h2 => by rw [uL_row _ _ _ h1, s4 q h2]
  have fld : ∀ j, j ≠ 13 → (uL V4 0 13 (hk + 1)) 0 j = V 0 j := fun j hj => by rw [uL_k _ _ _ hj, s4 0 (by omega)]
  have r78 : (uL V4 0 13 (hk + 1)) 78 = V4 78 := uL_row _ _ _ (by omega)
  refine ⟨h5, _, ⟨?_, f4.tr f5⟩, e5, ?_, ?_, r3.f (fld 18 (by omega)) (row 80 (by omega) (by omega)), r4.f (fld 11 (by omega)) (row 77 (by omega) (by omega)), ⟨y13, by omega, ?_⟩, r6.f (fld 15 (by omega)) (row 79 (by omega) (by omega))⟩
  · show m_ev 158 0 [some (.ref 72)] [] h = _
    have n2 : ¬ nI hk = nI 2 := by rw [nI_eq (by omega) (by omega)]; omega
    simp (disch := omega) only [b158_0, mdF e, Option.bind_some, a0, n2, if_false, b158_6, nI_mulN, q4, b158_17, mdF e4, z13, nI_add, q5, mdF e5, y13]
  · exact r1.f (fun j hj => fld j (by omega)) (row 73 (by omega) (by omega)) (row 74 (by omega) (by omega)) (row 75 (by omega) (by omega))
  · rw [row 76 (by omega) (by omega)]; exact r2
  · intro j hj
    rw [r78]
    by_cases hj0 : j = 0
    · subst hj0
      refine StV.cp w12 r2 (fun i hi => ?_)
      rw [v4, if_pos (by omega)]
      congr 1; omega
    · have hp1 : puS K M j = K (j - 1) := by simp [puS, hj0]
      rw [hp1]
      refine StV.cp w12 (a2 (j - 1) (by omega)) (fun i hi => ?_)
      rw [v4, if_neg (by omega)]
      congr 1; omega
theorem e_back_no (e : MdA h V) (rv : RV V L M T S hp P 0 K) : AM 159 [.ref 72] h (-2) h := by
  have a0 := rv.2.2.2.2.1.1
  refine ⟨?_, Fr.rf _ _ _⟩
  show m_ev 159 0 [some (.ref 72)] [] h = _
  simp only [b159_0, mdF e, Option.bind_some, a0, if_true, b159_3]
theorem e_back (e : MdA h V) (wf : WfH L) (rv : RV V L M T S hp P (hk + 1) K) : ∃ h' V', AM 159 [.ref 72] h (nI hk) h' ∧ MdA h' V' ∧ RV V' L (K 0) T S 0 P hk (poS 2 K) := by
  have w12 := wf.2.2.2.2.2.2.2.2.2.2.2.1
  obtain ⟨r1, r2, r3, r4, ⟨a0, a1, a2⟩, r6⟩ := rv
  obtain ⟨h3, q3, e3, f3⟩ := mdW0 e 13 hk (by simp)
  obtain ⟨h4, V4, q4, e4, s4, v4, f4⟩ := d_copies (y := 159) (k := 22) (ls := [some (.ref 72)]) (r := []) e3 (a := 76) (b := 78) (at0 := 0) (fr0 := 12 * hk) (n := 12) (by omega) (by decide) (by show 12 * hk + 12 ≤ 24; omega) (by omega)
  obtain ⟨h5, q5, e5, f5⟩ := mdW0 e4 11 0 (by simp)
  have y13 : (uL V 0 13 hk) 0 13 = hk := uL_s _ _ _ _
  have z13 : (uL V4 0 11 0) 0 13 = hk := by rw [uL_k _ _ _ (by omega), s4 0 (by omega)]; exact y13
  have row : ∀ q, q ≠ 0 → q ≠ 76 → (uL V4 0 11 0) q = V q := fun q h1 h2 => by rw [uL_row _ _ _ h1, s4 q h2, uL_row _ _ _ h1]
  have fld : ∀ j, j ≠ 11 → j ≠ 13 → (uL V4 0 11 0) 0 j = V 0 j := fun j hj h13 => by rw [uL_k _ _ _ hj, s4 0 (by omega), uL_k _ _ _ h13]
  have r76 : (uL V4 0 11 0) 76 = V4 76 := uL_row _ _ _ (by omega)
  refine ⟨h5, _, ⟨?_, (f3.tr f4).tr f5⟩, e5, ?_, ?_, r3.f (fld 18 (by omega) (by omega)) (row 80 (by omega) (by omega)), ⟨uL_s _ _ _ _, by omega, fun j hj => by omega⟩, ⟨z13, by omega, ?_⟩, r6.f (fld 15 (by omega) (by omega)) (row 79 (by omega) (by omega))⟩
  · show m_ev 159 0 [some (.ref 72)] [] h = _
    have n0 : ¬ nI (hk + 1) = nI 0 := by rw [nI_eq (by omega) (by omega)]; omega
    simp (disch := omega) only [b159_0, mdF e, Option.bind_some, a0, n0, if_false, b159_5, nI_subN, Nat.add_sub_cancel, q3, mdF e3, y13, nI_mulN, q4, b159_22, mdF e4, q5, mdF e5, z13]
  · exact r1.f (fun j hj => fld j (by omega) (by omega)) (row 73 (by omega) (by omega)) (row 74 (by omega) (by omega)) (row 75 (by omega) (by omega))
  · rw [r76]
    refine StV.cp w12 (a2 0 (by omega)) (fun i hi => ?_)
    rw [v4, if_pos (by omega), uL_row _ _ _ (by omega)]
    congr 1; omega
  · intro j hj
    rw [row 78 (by omega) (by omega)]
    have : poS 2 K j = K (j + 1) := by unfold poS; rw [if_pos (by omega)]
    rw [this]
    have h1 := a2 (j + 1) (by omega)
    rw [show hk + 1 - 1 - (j + 1) = hk - 1 - j by omega] at h1
    exact h1
-- see, forget
theorem e_see_bad {x x' : Int32} (hx : x < nI 0 ∨ nI 4 ≤ x) : AM 151 [.ref 72, .int x, .int x'] h (-1) h := by
  refine ⟨?_, Fr.rf _ _ _⟩
  show m_ev 151 0 [some (.ref 72), some (.int x), some (.int x')] [] h = _
  simp only [b151_0, d_isWord0 hx, b151_2, if_true, b151_8]
theorem e_see_bad2 {w : Nat} (hw : w ≤ 3) {x' : Int32} (hx : x' < nI 0 ∨ nI 100 ≤ x') : AM 151 [.ref 72, .int (nI w), .int x'] h (-1) h := by
  refine ⟨?_, Fr.rf _ _ _⟩
  have n1 : ¬ nI 1 = nI 0 := by decide
  show m_ev 151 0 [some (.ref 72), some (.int (nI w)), some (.int x')] [] h = _
  simp only [b151_0, d_isWord hw, b151_2, n1, if_false, b151_3, d_in0 hx rfl (show 0 ≤ 100 by omega) (by omega), b151_7, if_true, b151_8]
theorem e_see_full (e : MdA h V) (rv : RV V L M T S hp P hk K) {w t : Nat} (hw : w ≤ 3) (ht : t ≤ 99) (h6 : S 2 0 = 6) : AM 151 [.ref 72, .int (nI w), .int (nI t)] h (-3) h := by
  have a0 := rv.2.2.2.2.2.1
  refine ⟨?_, Fr.rf _ _ _⟩
  have n1 : ¬ nI 1 = nI 0 := by decide
  show m_ev 151 0 [some (.ref 72), some (.int (nI w)), some (.int (nI t))] [] h = _
  simp (disch := omega) only [b151_0, d_isWord hw, b151_2, n1, if_false, b151_3, d_in1 (show 0 ≤ t by omega) ht (show 99 < 2 ^ 31 by omega), b151_7, b151_10, mdF e, Option.bind_some, a0, h6, if_true, b151_14]
theorem e_see (e : MdA h V) (rv : RV V L M T S hp P hk K) {w t : Nat} (hw : w ≤ 3) (ht : t ≤ 99) (h6 : S 2 0 < 6) : ∃ h' V', AM 151 [.ref 72, .int (nI w), .int (nI t)] h (nI (S 2 0 + 1)) h' ∧ MdA h' V' ∧ RV V' L M T (adL S w t) hp P hk K := by
  obtain ⟨r1, r2, r3, r4, r5, ⟨a0, a1, a2⟩⟩ := rv
  have n1 : ¬ nI 1 = nI 0 := by decide
  obtain ⟨h3, q3, e3, f3⟩ := mdW79 e w (k := 2 * S 2 0) (by omega)
  obtain ⟨h4, q4, e4, f4⟩ := mdW79 e3 t (k := 2 * S 2 0 + 1) (by omega)
  obtain ⟨h5, q5, e5, f5⟩ := mdW0 e4 15 (S 2 0 + 1) (by simp)
  have x4 := (Sx.u 79 V (2 * S 2 0) w).tr (Sx.u 79 _ (2 * S 2 0 + 1) t)
  have y1 : (uL V 79 (2 * S 2 0) w) 0 15 = S 2 0 := by rw [(Sx.u 79 V _ _) 0 (by omega)]; exact a0
  have y2 : (uL (uL V 79 (2 * S 2 0) w) 79 (2 * S 2 0 + 1) t) 0 15 = S 2 0 := by rw [x4 0 (by omega)]; exact a0
  have y3 : (uL (uL (uL V 79 (2 * S 2 0) w) 79 (2 * S 2 0 + 1) t) 0 15 (S 2 0 + 1)) 0 15 = S 2 0 + 1 := uL_s _ _ _ _
  have row : ∀ q, q ≠ 0 → q ≠ 79 → (uL (uL (uL V 79 (2 * S 2 0) w) 79 (2 * S 2 0 + 1) t) 0 15 (S 2 0 + 1)) q = V q := fun q h1 h2 => by rw [uL_row _ _ _ h1, x4 q h2]
  have fld : ∀ j, j ≠ 15 → (uL (uL (uL V 79 (2 * S 2 0) w) 79 (2 * S 2 0 + 1) t) 0 15 (S 2 0 + 1)) 0 j = V 0 j := fun j hj => by rw [uL_k _ _ _ hj, x4 0 (by omega)]
  have r79 : (uL (uL (uL V 79 (2 * S 2 0) w) 79 (2 * S 2 0 + 1) t) 0 15 (S 2 0 + 1)) 79 = (uL (uL V 79 (2 * S 2 0) w) 79 (2 * S 2 0 + 1) t) 79 := uL_row _ _ _ (by omega)
  have ad2 : (adL S w t) 2 0 = S 2 0 + 1 := uL_s _ _ _ _
  refine ⟨h5, _, ⟨?_, (f3.tr f4).tr f5⟩, e5, ?_, ?_, r3.f (fld 18 (by omega)) (row 80 (by omega) (by omega)), r4.f (fld 11 (by omega)) (row 77 (by omega) (by omega)), r5.f (fld 13 (by omega)) (row 78 (by omega) (by omega)), ⟨by rw [y3, ad2], by omega, ?_⟩⟩
  · show m_ev 151 0 [some (.ref 72), some (.int (nI w)), some (.int (nI t))] [] h = _
    have n6 : ¬ nI (S 2 0) = nI 6 := by rw [nI_eq (by omega) (by omega)]; omega
    simp (disch := omega) only [b151_0, d_isWord hw, b151_2, n1, if_false, b151_3, d_in1 (show 0 ≤ t by omega) ht (show 99 < 2 ^ 31 by omega), b151_7, b151_10, mdF e, Option.bind_some, a0, n6, b151_16, nI_mulN, q3, mdF e3, y1, nI_add, q4, mdF e4, y2, q5, mdF e5, y3]
  · exact r1.f (fun j hj => fld j (by omega)) (row 73 (by omega) (by omega)) (row 74 (by omega) (by omega)) (row 75 (by omega) (by omega))
  · rw [row 76 (by omega) (by omega)]; exact r2
  · intro i hi
    rw [ad2] at hi
    rw [r79]
    by_cases his : i = S 2 0
    · subst his
      constructor
      · rw [uL_k _ _ _ (by omega), uL_s]; simp [adL, uL]
      · rw [uL_s]; simp [adL, uL]
    · have := a2 i (by omega)
      constructor
      · rw [uL_k _ _ _ (by omega), uL_k _ _ _ (by omega), this.1]; simp [adL, uL, his]
      · rw [uL_k _ _ _ (by omega), uL_k _ _ _ (by omega), this.2]; simp [adL, uL, his]
theorem e_forget (e : MdA h V) (rv : RV V L M T S hp P hk K) : ∃ h' V', AM 152 [.ref 72] h (nI (S 2 0)) h' ∧ MdA h' V' ∧ RV V' L M T (uL S 2 0 0) hp P hk K := by
  obtain ⟨r1, r2, r3, r4, r5, ⟨a0, a1, a2⟩⟩ := rv
  obtain ⟨h5, q5, e5, f5⟩ := mdW0 e 15 0 (by simp)
  have row : ∀ q, q ≠ 0 → (uL V 0 15 0) q = V q := fun q h1 => uL_row _ _ _ h1
  have fld : ∀ j, j ≠ 15 → (uL V 0 15 0) 0 j = V 0 j := fun j hj => uL_k _ _ _ hj
  have z : (uL S 2 0 0) 2 0 = 0 := uL_s _ _ _ _
  refine ⟨h5, _, ⟨?_, f5⟩, e5, ?_, ?_, r3.f (fld 18 (by omega)) (row 80 (by omega)), r4.f (fld 11 (by omega)) (row 77 (by omega)), r5.f (fld 13 (by omega)) (row 78 (by omega)), ⟨by rw [z]; exact uL_s _ _ _ _, by omega, fun i hi => by omega⟩⟩
  · show m_ev 152 0 [some (.ref 72), none] [] h = _
    simp only [b152_0, mdF e, Option.bind_some, a0, q5]
  · exact r1.f (fun j hj => fld j (by omega)) (row 73 (by omega)) (row 74 (by omega)) (row 75 (by omega))
  · rw [row 76 (by omega)]; exact r2
-- letters
theorem e_write_bad {x : Int32} (hx : x < nI 32 ∨ nI 127 ≤ x) : AM 105 [.ref 72, .int x] h (-1) h := by
  refine ⟨?_, Fr.rf _ _ _⟩
  show m_ev 105 0 [some (.ref 72), some (.int x)] [] h = _
  simp only [b105_0, d_in0 hx rfl (show 32 ≤ 127 by omega) (by omega), b105_4, if_true, b105_5]
theorem e_write_full (e : MdA h V) (rv : RV V L M T S hp P hk K) {c : Nat} (hc : 32 ≤ c ∧ c ≤ 126) (hT : T 1 0 = 200) : AM 105 [.ref 72, .int (nI c)] h (-3) h := by
  have a0 := rv.2.2.1.1
  have n1 : ¬ nI 1 = nI 0 := by decide
  refine ⟨?_, Fr.rf _ _ _⟩
  show m_ev 105 0 [some (.ref 72), some (.int (nI c))] [] h = _
  simp (disch := omega) only [b105_0, d_in1 hc.1 hc.2 (show 126 < 2 ^ 31 by omega), b105_4, n1, if_false, b105_7, mdF e, Option.bind_some, a0, hT, if_true, b105_11]
theorem e_write (e : MdA h V) (rv : RV V L M T S hp P hk K) {c : Nat} (hc : 32 ≤ c ∧ c ≤ 126) (hT : T 1 0 < 200) : ∃ h' V', AM 105 [.ref 72, .int (nI c)] h (nI (T 1 0 + 1)) h' ∧ MdA h' V' ∧ RV V' L M (apL T c) S hp P hk K := by
  obtain ⟨r1, r2, ⟨a0, a2⟩, r4, r5, r6⟩ := rv
  have n1 : ¬ nI 1 = nI 0 := by decide
  obtain ⟨h3, q3, e3, f3⟩ := mdW80 e c (k := T 1 0) (by omega)
  obtain ⟨h5, q5, e5, f5⟩ := mdW0 e3 18 (T 1 0 + 1) (by simp)
  have x3 := Sx.u 80 V (T 1 0) c
  have y1 : (uL V 80 (T 1 0) c) 0 18 = T 1 0 := by rw [x3 0 (by omega)]; exact a0
  have y3 : (uL (uL V 80 (T 1 0) c) 0 18 (T 1 0 + 1)) 0 18 = T 1 0 + 1 := uL_s _ _ _ _
  have row : ∀ q, q ≠ 0 → q ≠ 80 → (uL (uL V 80 (T 1 0) c) 0 18 (T 1 0 + 1)) q = V q := fun q h1 h2 => by rw [uL_row _ _ _ h1, x3 q h2]
  have fld : ∀ j, j ≠ 18 → (uL (uL V 80 (T 1 0) c) 0 18 (T 1 0 + 1)) 0 j = V 0 j := fun j hj => by rw [uL_k _ _ _ hj, x3 0 (by omega)]
  have r80 : (uL (uL V 80 (T 1 0) c) 0 18 (T 1 0 + 1)) 80 = (uL V 80 (T 1 0) c) 80 := uL_row _ _ _ (by omega)
  have ap : (apL T c) 1 0 = T 1 0 + 1 := uL_s _ _ _ _
  refine ⟨h5, _, ⟨?_, f3.tr f5⟩, e5, ?_, ?_, ⟨by rw [y3, ap], ?_⟩, r4.f (fld 11 (by omega)) (row 77 (by omega) (by omega)), r5.f (fld 13 (by omega)) (row 78 (by omega) (by omega)), r6.f (fld 15 (by omega)) (row 79 (by omega) (by omega))⟩
  · show m_ev 105 0 [some (.ref 72), some (.int (nI c))] [] h = _
    have n2 : ¬ nI (T 1 0) = nI 200 := by rw [nI_eq (by omega) (by omega)]; omega
    simp (disch := omega) only [b105_0, d_in1 hc.1 hc.2 (show 126 < 2 ^ 31 by omega), b105_4, n1, if_false, b105_7, mdF e, Option.bind_some, a0, n2, b105_13, q3, mdF e3, y1, nI_add, q5, mdF e5, y3]
  · exact r1.f (fun j hj => fld j (by omega)) (row 73 (by omega) (by omega)) (row 74 (by omega) (by omega)) (row 75 (by omega) (by omega))
  · rw [row 76 (by omega) (by omega)]; exact r2
  · intro i hi
    rw [ap] at hi
    rw [r80]
    by_cases his : i = T 1 0
    · subst his; rw [uL_s]; simp [apL, uL]
    · rw [uL_k _ _ _ his, a2 i (by omega)]; simp [apL, uL, his]
theorem e_wipe (e : MdA h V) (rv : RV V L M T S hp P hk K) : ∃ h' V', AM 106 [.ref 72] h (nI (T 1 0)) h' ∧ MdA h' V' ∧ RV V' L M (uL T 1 0 0) S hp P hk K := by
  obtain ⟨r1, r2, ⟨a0, a2⟩, r4, r5, r6⟩ := rv
  obtain ⟨h5, q5, e5, f5⟩ := mdW0 e 18 0 (by simp)
  have row : ∀ q, q ≠ 0 → (uL V 0 18 0) q = V q := fun q h1 => uL_row _ _ _ h1
  have fld : ∀ j, j ≠ 18 → (uL V 0 18 0) 0 j = V 0 j := fun j hj => uL_k _ _ _ hj
  have z : (uL T 1 0 0) 1 0 = 0 := uL_s _ _ _ _
  refine ⟨h5, _, ⟨?_, f5⟩, e5, ?_, ?_, ⟨by rw [z]; exact uL_s _ _ _ _, fun i hi => by omega⟩, r4.f (fld 11 (by omega)) (row 77 (by omega)), r5.f (fld 13 (by omega)) (row 78 (by omega)), r6.f (fld 15 (by omega)) (row 79 (by omega))⟩
  · show m_ev 106 0 [some (.ref 72), none] [] h = _
    simp only [b106_0, mdF e, Option.bind_some, a0, q5]
  · exact r1.f (fun j hj => fld j (by omega)) (row 73 (by omega)) (row 74 (by omega)) (row 75 (by omega))
  · rw [row 76 (by omega)]; exact r2
-- count
theorem e_count_bad {x : Int32} (hx : x < nI 0 ∨ nI 11 ≤ x) : AM 160 [.ref 72, .int x] h (-1) h := by
  refine ⟨?_, Fr.rf _ _ _⟩
  show m_ev 160 0 [some (.ref 72), some (.int x)] [] h = _
  have hne : ∀ j, j < 11 → ¬ x = nI j := fun j hj => ne_ix (show 11 < 2 ^ 31 by omega) hx hj
  rw [b160_0, if_neg (hne 0 (by omega)), if_neg (hne 1 (by omega)), if_neg (hne 2 (by omega)), if_neg (hne 3 (by omega)), if_neg (hne 4 (by omega)), if_neg (hne 5 (by omega)), if_neg (hne 6 (by omega)), if_neg (hne 7 (by omega)), if_neg (hne 8 (by omega)), if_neg (hne 9 (by omega)), if_neg (hne 10 (by omega)), b160_39]
theorem e_count (e : MdA h V) (rv : RV V L M T S hp P hk K) (wf : WfH L) (wm : WfM L M 30000) {q : Nat} (hq : q < 11) : AM 160 [.ref 72, .int (nI q)] h (nI (couF L M T S hp hk q)) h := by
  obtain ⟨rh, st, ⟨t0, _⟩, ⟨a0, _⟩, ⟨k0, _⟩, ⟨z0, _⟩⟩ := rv
  obtain ⟨s0, s1, s2, s3, s4, s8⟩ := stF st
  obtain ⟨r0, r2, r3, r4, r5, r6, r8, _⟩ := id rh
  refine ⟨?_, Fr.rf _ _ _⟩
  show m_ev 160 0 [some (.ref 72), some (.int (nI q))] [] h = _
  have hj : ∀ j, j < 11 → q ≠ j → ¬ nI q = nI j := fun j h1 h2 => by rw [nI_eq (by omega) (by omega)]; exact h2
  unfold couF
  rcases (show q = 0 ∨ q = 1 ∨ q = 2 ∨ q = 3 ∨ q = 4 ∨ q = 5 ∨ q = 6 ∨ q = 7 ∨ q = 8 ∨ q = 9 ∨ q = 10 by omega) with rfl | rfl | rfl | rfl | rfl | rfl | rfl | rfl | rfl | rfl | rfl
  · rw [b160_0, if_pos rfl, b160_2]
    simp only [mdF e, Option.bind_some, r5]; rfl
  · rw [b160_0, if_neg (hj 0 (by omega) (by omega)), if_pos rfl, b160_5]
    simp only [mdF e, Option.bind_some, r6]; rfl
  · rw [b160_0, if_neg (hj 0 (by omega) (by omega)), if_neg (hj 1 (by omega) (by omega)), if_pos rfl, b160_8]
    simp only [mdF e, Option.bind_some, r8]; rfl
  · rw [b160_0, if_neg (hj 0 (by omega) (by omega)), if_neg (hj 1 (by omega) (by omega)), if_neg (hj 2 (by omega) (by omega)), if_pos rfl, b160_11]
    simp only [mdF e, Option.bind_some, r0]; rfl
  · rw [b160_0, if_neg (hj 0 (by omega) (by omega)), if_neg (hj 1 (by omega) (by omega)), if_neg (hj 2 (by omega) (by omega)), if_neg (hj 3 (by omega) (by omega)), if_pos rfl, b160_14]
    simp (disch := omega) only [mdF e, Option.bind_some, s0]; rfl
  · rw [b160_0, if_neg (hj 0 (by omega) (by omega)), if_neg (hj 1 (by omega) (by omega)), if_neg (hj 2 (by omega) (by omega)), if_neg (hj 3 (by omega) (by omega)), if_neg (hj 4 (by omega) (by omega)), if_pos rfl, b160_19]
    simp (disch := omega) only [mdF e, Option.bind_some, s2]; rfl
  · rw [b160_0, if_neg (hj 0 (by omega) (by omega)), if_neg (hj 1 (by omega) (by omega)), if_neg (hj 2 (by omega) (by omega)), if_neg (hj 3 (by omega) (by omega)), if_neg (hj 4 (by omega) (by omega)), if_neg (hj 5 (by omega) (by omega)), if_pos rfl, b160_24]
    simp only [mdF e, if_true, d_onTop e rh st wf wm, b160_26]; rfl
  · rw [b160_0, if_neg (hj 0 (by omega) (by omega)), if_neg (hj 1 (by omega) (by omega)), if_neg (hj 2 (by omega) (by omega)), if_neg (hj 3 (by omega) (by omega)), if_neg (hj 4 (by omega) (by omega)), if_neg (hj 5 (by omega) (by omega)), if_neg (hj 6 (by omega) (by omega)), if_pos rfl, b160_27]
    simp only [mdF e, Option.bind_some, z0]; rfl
  · rw [b160_0, if_neg (hj 0 (by omega) (by omega)), if_neg (hj 1 (by omega) (by omega)), if_neg (hj 2 (by omega) (by omega)), if_neg (hj 3 (by omega) (by omega)), if_neg (hj 4 (by omega) (by omega)), if_neg (hj 5 (by omega) (by omega)), if_neg (hj 6 (by omega) (by omega)), if_neg (hj 7 (by omega) (by omega)), if_pos rfl, b160_30]
    simp only [mdF e, Option.bind_some, a0]; rfl
  · rw [b160_0, if_neg (hj 0 (by omega) (by omega)), if_neg (hj 1 (by omega) (by omega)), if_neg (hj 2 (by omega) (by omega)), if_neg (hj 3 (by omega) (by omega)), if_neg (hj 4 (by omega) (by omega)), if_neg (hj 5 (by omega) (by omega)), if_neg (hj 6 (by omega) (by omega)), if_neg (hj 7 (by omega) (by omega)), if_neg (hj 8 (by omega) (by omega)), if_pos rfl, b160_33]
    simp only [mdF e, Option.bind_some, k0]; rfl
  · rw [b160_0, if_neg (hj 0 (by omega) (by omega)), if_neg (hj 1 (by omega) (by omega)), if_neg (hj 2 (by omega) (by omega)), if_neg (hj 3 (by omega) (by omega)), if_neg (hj 4 (by omega) (by omega)), if_neg (hj 5 (by omega) (by omega)), if_neg (hj 6 (by omega) (by omega)), if_neg (hj 7 (by omega) (by omega)), if_neg (hj 8 (by omega) (by omega)), if_neg (hj 9 (by omega) (by omega)), if_pos rfl, b160_36]
    simp only [mdF e, Option.bind_some, t0]; rfl
end
