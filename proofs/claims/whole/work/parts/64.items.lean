/-! the model: ways, askers; an item; a text -/
section
variable {y k : Nat} {ls : ML} {r : List Value} {h : MH} {V L M T S C : LT}
theorem d_tellsWay (e : MdA h V) {m x0 x1 x2 x3 : Nat} (hm : V 0 28 = m) (hm10 : m < 10) : ∃ h' V', m_call m_ev 98 y k [.ref 72, .int (nI x0), .int (nI x1), .int (nI x2), .int (nI x3)] ls r h = m_ev y k ls r h' ∧ MdA h' V' ∧ (∀ j, j ≠ 28 → V' 0 j = V 0 j) ∧ V' 0 28 = m + 1 ∧ (∀ q, q ≠ 0 → q ≠ 83 → V' q = V q) ∧ (∀ j, V' 83 j = if j = 4 * m + 3 then x3 else if j = 4 * m + 2 then x2 else if j = 4 * m + 1 then x1 else if j = 4 * m then x0 else V 83 j) ∧ Fr 72 89 h h' := by
  obtain ⟨h1, q1, e1, f1⟩ := mdW83 e x0 (k := 4 * m) (by omega)
  obtain ⟨h2, q2, e2, f2⟩ := mdW83 e1 x1 (k := 4 * m + 1) (by omega)
  obtain ⟨h3, q3, e3, f3⟩ := mdW83 e2 x2 (k := 4 * m + 2) (by omega)
  obtain ⟨h4, q4, e4, f4⟩ := mdW83 e3 x3 (k := 4 * m + 3) (by omega)
  obtain ⟨h5, q5, e5, f5⟩ := mdW0 e4 28 (m + 1) (by simp)
  have s1 := Sx.u 83 V (4 * m) x0
  have s2 := s1.tr (Sx.u 83 _ (4 * m + 1) x1)
  have s3 := s2.tr (Sx.u 83 _ (4 * m + 2) x2)
  have s4 := s3.tr (Sx.u 83 _ (4 * m + 3) x3)
  have v1 : (uL V 83 (4 * m) x0) 0 28 = m := by rw [s1 0 (by omega)]; exact hm
  have v2 : (uL (uL V 83 (4 * m) x0) 83 (4 * m + 1) x1) 0 28 = m := by rw [s2 0 (by omega)]; exact hm
  have v3 : (uL (uL (uL V 83 (4 * m) x0) 83 (4 * m + 1) x1) 83 (4 * m + 2) x2) 0 28 = m := by rw [s3 0 (by omega)]; exact hm
  have v4 : (uL (uL (uL (uL V 83 (4 * m) x0) 83 (4 * m + 1) x1) 83 (4 * m + 2) x2) 83 (4 * m + 3) x3) 0 28 = m := by rw [s4 0 (by omega)]; exact hm
  refine ⟨h5, _, cl_0 ?_, e5, ?_, uL_s _ _ _ _, ?_, ?_, (((f1.tr f2).tr f3).tr f4).tr f5⟩
  · show m_ev 98 0 [some (.ref 72), some (.int (nI x0)), some (.int (nI x1)), some (.int (nI x2)), some (.int (nI x3))] [] h = _
    simp (disch := omega) only [b98_0, mdF e, Option.bind_some, hm, nI_mulN, nI_add, q1, mdF e1, v1, q2, mdF e2, v2, q3, mdF e3, v3, q4, mdF e4, v4, q5]
  · intro j hj
    rw [uL_k _ _ _ hj, s4 0 (by omega)]
  · intro q h1 h2
    rw [uL_row _ _ _ h1, s4 q h2]
  · intro j
    rw [uL_row _ _ _ (by omega)]
    by_cases h3 : j = 4 * m + 3
    · rw [if_pos h3, h3, uL_s]
    · rw [if_neg h3, uL_k _ _ _ h3]
      by_cases h2 : j = 4 * m + 2
      · rw [if_pos h2, h2, uL_s]
      · rw [if_neg h2, uL_k _ _ _ h2]
        by_cases h1 : j = 4 * m + 1
        · rw [if_pos h1, h1, uL_s]
        · rw [if_neg h1, uL_k _ _ _ h1]
          by_cases h0 : j = 4 * m
          · rw [if_pos h0, h0, uL_s]
          · rw [if_neg h0, uL_k _ _ _ h0]
theorem d_tellsAsker (e : MdA h V) {m x0 x1 : Nat} (hm : V 0 30 = m) (hm4 : m < 4) : ∃ h' V', m_call m_ev 99 y k [.ref 72, .int (nI x0), .int (nI x1)] ls r h = m_ev y k ls r h' ∧ MdA h' V' ∧ (∀ j, j ≠ 30 → V' 0 j = V 0 j) ∧ V' 0 30 = m + 1 ∧ (∀ q, q ≠ 0 → q ≠ 84 → q ≠ 85 → V' q = V q) ∧ (∀ j, V' 84 j = if j = m then x0 else V 84 j) ∧ (∀ j, V' 85 j = if j = m then x1 else V 85 j) ∧ Fr 72 89 h h' := by
  obtain ⟨h1, q1, e1, f1⟩ := mdW84 e x0 (k := m) (by omega)
  obtain ⟨h2, q2, e2, f2⟩ := mdW85 e1 x1 (k := m) (by omega)
  obtain ⟨h3, q3, e3, f3⟩ := mdW0 e2 30 (m + 1) (by simp)
  have v1 : (uL V 84 m x0) 0 30 = m := by rw [uL_row _ _ _ (by omega)]; exact hm
  have v2 : (uL (uL V 84 m x0) 85 m x1) 0 30 = m := by rw [uL_row _ _ _ (by omega)]; exact v1
  refine ⟨h3, _, cl_0 ?_, e3, ?_, uL_s _ _ _ _, ?_, ?_, ?_, (f1.tr f2).tr f3⟩
  · show m_ev 99 0 [some (.ref 72), some (.int (nI x0)), some (.int (nI x1))] [] h = _
    simp (disch := omega) only [b99_0, mdF e, Option.bind_some, hm, q1, mdF e1, v1, q2, mdF e2, v2, nI_add, q3]
  · intro j hj
    rw [uL_k _ _ _ hj, uL_row _ _ _ (by omega), uL_row _ _ _ (by omega)]
  · intro q h1 h2 h3
    rw [uL_row _ _ _ h1, uL_row _ _ _ h3, uL_row _ _ _ h2]
  · intro j
    rw [uL_row _ _ _ (by omega), uL_row _ _ _ (by omega)]
    by_cases h0 : j = m
    · rw [if_pos h0, h0, uL_s]
    · rw [if_neg h0, uL_k _ _ _ h0]
  · intro j
    rw [uL_row _ _ _ (by omega)]
    by_cases h0 : j = m
    · rw [if_pos h0, h0, uL_s]
    · rw [if_neg h0, uL_k _ _ _ h0, uL_row _ _ _ (by omega)]
theorem d_wayOf (e : MdA h V) (rt : RT V T) (wt : WfT T) (rp : RP V L) (wf : WfH L) (hv : V 0 19 = C 1 0) (hC : C 1 0 < 2 ^ 27) : ∃ h' V' b, m_call m_ev 116 y k [.ref 72] ls r h = m_ev y k ls (.int (nI (b01 b)) :: r) h' ∧ MdA h' V' ∧ IT T V V' b (wayP T L C) ∧ Fr 72 89 h h' := by
  have n1 : ¬ nI 1 = nI 0 := by decide
  have w8 := wf.2.2.2.2.2.2.2.1
  have w9 := wf.2.2.2.2.2.2.2.2.1
  have w10 := wf.2.2.2.2.2.2.2.2.2.1
  obtain ⟨h1, q1, e1, f1⟩ := mdW0 e 21 1 (by simp)
  have sp1 : Sp V (uL V 0 21 1) := Sp.u (by omega)
  have p28 : (uL V 0 21 1) 0 28 = L 7 5 := by rw [uL_k _ _ _ (by omega)]; exact rp.2.2.2.2.2.1
  have v19 : (uL V 0 21 1) 0 19 = C 1 0 := by rw [uL_k _ _ _ (by omega)]; exact hv
  obtain ⟨h3, V3, b, q3, e3, s3, hb, hb2, f3⟩ := d_readNumbers (C := C) (y := 116) (k := 10) (ls := [some (.ref 72)]) (r := []) e1 (rt.sp sp1) wt (n := 4) (by omega) (by omega) v19 hC
  have hnv := num_v T 4 0 C (by intro j hj; omega)
  unfold wayP
  generalize hN : numP T 4 0 C = N at *
  by_cases h10 : L 7 5 < 10
  case neg =>
    refine ⟨h1, _, false, cl_v ?_, e1, ⟨sp1, ⟨fun q => (by cases q), ?_⟩, fun q => (by cases q)⟩, f1⟩
    · show m_ev 116 0 [some (.ref 72)] [] h = _
      simp only [b116_0, q1, Option.bind_some, mdF e1, p28, show L 7 5 = 10 by omega, if_true, b116_50, b01_f]
    · rw [if_neg (fun q => h10 q.2)]
      rintro ⟨q, _⟩; cases q
  case pos =>
    have pre : m_ev 116 0 [some (.ref 72)] [] h = m_ev 116 10 [some (.ref 72)] [.int (nI (b01 b))] h3 := by
      have n10 : ¬ nI (L 7 5) = nI 10 := by rw [nI_eq (by omega) (by omega)]; omega
      simp only [b116_0, q1, Option.bind_some, mdF e1, p28, n10, if_false, b116_7, if_true, q3]
    have noC : b = false ∨ (b = true ∧ ¬ (N.2 0 0 ≤ 3 ∧ N.2 0 1 ≠ N.2 0 2 ∧ N.2 0 1 < L 7 4 ∧ N.2 0 2 < L 7 4 ∧ 1 ≤ N.2 0 3 ∧ N.2 0 3 ≤ 12)) → m_ev 116 10 [some (.ref 72)] [.int (nI (b01 b))] h3 = some (some (.int (nI 0)), h3) → ∃ h' V' b, m_call m_ev 116 y k [.ref 72] ls r h = m_ev y k ls (.int (nI (b01 b)) :: r) h' ∧ MdA h' V' ∧ IT T V V' b (if (N.1 = true ∧ N.2 0 0 ≤ 3 ∧ N.2 0 1 ≠ N.2 0 2 ∧ N.2 0 1 < L 7 4 ∧ N.2 0 2 < L 7 4 ∧ 1 ≤ N.2 0 3 ∧ N.2 0 3 ≤ 12) ∧ L 7 5 < 10 then (true, adY L (N.2 0 0) (N.2 0 1) (N.2 0 2) (N.2 0 3), N.2) else (false, L, N.2)) ∧ Fr 72 89 h h' := by
      intro hc hq
      refine ⟨h3, V3, false, cl_v (pre.trans hq), e3, ⟨sp1.tr s3.sp, ⟨fun q => (by cases q), ?_⟩, fun q => (by cases q)⟩, f1.tr f3⟩
      split
      · rename_i hx
        rintro ⟨_, q2⟩
        have := hb.2 ⟨hx.1.1, q2⟩
        rcases hc with z | ⟨_, z⟩
        · rw [this] at z; cases z
        · exact absurd hx.1.2 z
      · rintro ⟨q, _⟩; cases q
    cases b with
    | false =>
      refine noC (Or.inl rfl) ?_
      simp only [b01_f, b116_10, if_true, b116_50]
    | true =>
      obtain ⟨z1, z2⟩ := hb.1 rfl
      obtain ⟨w1, w2⟩ := hb2 rfl
      have t0 := w2 0 (by omega)
      have t1 := w2 1 (by omega)
      have t2 := w2 2 (by omega)
      have t3 := w2 3 (by omega)
      have b0 := hnv z1 0 (by omega)
      have b1 := hnv z1 1 (by omega)
      have b2 := hnv z1 2 (by omega)
      have b3 := hnv z1 3 (by omega)
      have p27 : V3 0 27 = L 7 4 := by rw [s3.1 27 (by omega), uL_k _ _ _ (by omega)]; exact rp.2.2.2.2.1
      have i0 := d_isTold (y := 116) (k := 16) (ls := [some (.ref 72)]) (r := []) e3 (j := 0) (a := 0) (b := 3) (by omega) (by omega) (by omega) (by omega)
      have i1 := d_isToldN (y := 116) (k := 25) (ls := [some (.ref 72)]) (r := []) e3 (j := 1) (n := L 7 4) (by omega) (by omega) (by omega) (by omega)
      have i2 := d_isToldN (y := 116) (k := 34) (ls := [some (.ref 72)]) (r := []) e3 (j := 2) (n := L 7 4) (by omega) (by omega) (by omega) (by omega)
      have i3 := d_isTold (y := 116) (k := 40) (ls := [some (.ref 72)]) (r := []) e3 (j := 3) (a := 1) (b := 12) (by omega) (by omega) (by omega) (by omega)
      rw [t0] at i0
      rw [t1] at i1
      rw [t2] at i2
      rw [t3] at i3
      by_cases c0 : 0 ≤ N.2 0 0 ∧ N.2 0 0 ≤ 3
      case neg =>
        rw [decide_eq_false c0] at i0
        refine noC (Or.inr ⟨rfl, by omega⟩) ?_
        simp only [b01_t, b01_f, b116_10, n1, if_false, b116_11, mdF e3, if_true, i0, b116_16, b116_50]
      case pos =>
        rw [decide_eq_true c0] at i0
        by_cases c1 : N.2 0 1 < L 7 4
        case neg =>
          rw [decide_eq_false c1] at i1
          refine noC (Or.inr ⟨rfl, by omega⟩) ?_
          simp only [b01_t, b01_f, b116_10, n1, if_false, b116_11, mdF e3, if_true, i0, b116_16, b116_17, Option.bind_some, p27, i1, b116_25, b116_50]
        case pos =>
          rw [decide_eq_true c1] at i1
          by_cases c2 : N.2 0 2 < L 7 4
          case neg =>
            rw [decide_eq_false c2] at i2
            refine noC (Or.inr ⟨rfl, by omega⟩) ?_
            simp only [b01_t, b01_f, b116_10, n1, if_false, b116_11, mdF e3, if_true, i0, b116_16, b116_17, Option.bind_some, p27, i1, b116_25, b116_26, i2, b116_34, b116_50]
          case pos =>
            rw [decide_eq_true c2] at i2
            by_cases c3 : 1 ≤ N.2 0 3 ∧ N.2 0 3 ≤ 12
            case neg =>
              rw [decide_eq_false c3] at i3
              refine noC (Or.inr ⟨rfl, by omega⟩) ?_
              simp only [b01_t, b01_f, b116_10, n1, if_false, b116_11, mdF e3, if_true, i0, b116_16, b116_17, Option.bind_some, p27, i1, b116_25, b116_26, i2, b116_34, b116_35, i3, b116_40, b116_50]
            case pos =>
              rw [decide_eq_true c3] at i3
              by_cases c4 : N.2 0 1 = N.2 0 2
              case pos =>
                refine noC (Or.inr ⟨rfl, by omega⟩) ?_
                simp (disch := omega) only [b01_t, b116_10, n1, if_false, b116_11, mdF e3, if_true, i0, b116_16, b116_17, Option.bind_some, p27, i1, b116_25, b116_26, i2, b116_34, b116_35, i3, b116_40, b116_41, t1, t2, c4, b116_50]
              case neg =>
                have m28 : V3 0 28 = L 7 5 := by rw [s3.1 28 (by omega)]; exact p28
                obtain ⟨h4, V4, q4, e4, k4, m4, o4, x4, f4⟩ := d_tellsWay (y := 116) (k := 70) (ls := [some (.ref 72)]) (r := []) (x0 := N.2 0 0) (x1 := N.2 0 1) (x2 := N.2 0 2) (x3 := N.2 0 3) e3 m28 h10
                have sp4 : Sp V3 V4 := ⟨fun j hj => k4 j (by omega), fun q h1 h2 => o4 q (by omega) (by omega)⟩
                rw [if_pos ⟨⟨z1, by omega, c4, c1, c2, by omega, by omega⟩, h10⟩]
                refine ⟨h4, V4, true, cl_v ?_, e4, ⟨(sp1.tr s3.sp).tr sp4, ⟨fun _ => ⟨rfl, z2⟩, fun _ => rfl⟩, fun _ => ⟨?_, ?_⟩⟩, (f1.tr f3).tr f4⟩
                · show m_ev 116 0 [some (.ref 72)] [] h = _
                  have nn : ¬ nI (N.2 0 1) = nI (N.2 0 2) := by rw [nI_eq (by omega) (by omega)]; exact c4
                  rw [pre]
                  simp (disch := omega) only [b01_t, b116_10, n1, if_false, b116_11, mdF e3, if_true, i0, b116_16, b116_17, Option.bind_some, p27, i1, b116_25, b116_26, i2, b116_34, b116_35, i3, b116_40, b116_41, t0, t1, t2, t3, nn, b116_52, q4, b116_70]
                · show RP V4 (adY L (N.2 0 0) (N.2 0 1) (N.2 0 2) (N.2 0 3))
                  obtain ⟨p1, p2, p3, p4, p5, p6, p7, p8, p9, p10, p11⟩ := rp
                  have fl : ∀ j, j ≠ 28 → j ≠ 19 → j ≠ 21 → V4 0 j = V 0 j := fun j h1 h2 h3 => by rw [k4 j h1, s3.1 j h2, uL_k _ _ _ h3]
                  have rw' : ∀ q, q ≠ 0 → q ≠ 83 → q ≠ 81 → V4 q = V q := fun q h1 h2 h3 => by rw [o4 q h1 h2, s3.2 q h1 h3, uL_row _ _ _ h1]
                  have r83 : V3 83 = V 83 := by rw [s3.2 83 (by omega) (by omega), uL_row _ _ _ (by omega)]
                  have a75 : (adY L (N.2 0 0) (N.2 0 1) (N.2 0 2) (N.2 0 3)) 7 5 = L 7 5 + 1 := by simp [adY, uL]
                  have a7 : ∀ j, j ≠ 5 → (adY L (N.2 0 0) (N.2 0 1) (N.2 0 2) (N.2 0 3)) 7 j = L 7 j := fun j hj => by simp [adY, uL, hj]
                  refine ⟨?_, ?_, ?_, ?_, ?_, ?_, ?_, ?_, ?_, ?_, ?_⟩
                  · rw [fl 22 (by omega) (by omega) (by omega), a7 0 (by omega)]; exact p1
                  · rw [fl 24 (by omega) (by omega) (by omega), a7 1 (by omega)]; exact p2
                  · rw [fl 25 (by omega) (by omega) (by omega), a7 2 (by omega)]; exact p3
                  · rw [fl 26 (by omega) (by omega) (by omega), a7 3 (by omega)]; exact p4
                  · rw [fl 27 (by omega) (by omega) (by omega), a7 4 (by omega)]; exact p5
                  · rw [m4, a75]
                  · rw [fl 30 (by omega) (by omega) (by omega), a7 6 (by omega)]; exact p7
                  · rw [k4 21 (by omega), s3.1 21 (by omega), uL_s, a75, if_pos (Or.inl (by omega))]
                  · rw [a7 0 (by omega), rw' 82 (by omega) (by omega) (by omega)]
                    intro i hi
                    rw [p9 i hi]; simp [adY, uL]
                  · rw [a75]
                    intro w hw
                    rw [x4, x4, x4, x4, r83]
                    by_cases hwl : w = L 7 5
                    · subst hwl
                      rw [if_neg (by omega), if_neg (by omega), if_neg (by omega), if_pos rfl, if_neg (by omega), if_neg (by omega), if_pos rfl, if_neg (by omega), if_pos rfl, if_pos rfl]
                      simp [adY, uL]
                    · rw [if_neg (by omega), if_neg (by omega), if_neg (by omega), if_neg (by omega), if_neg (by omega), if_neg (by omega), if_neg (by omega), if_neg (by omega), if_neg (by omega), if_neg (by omega), if_neg (by omega), if_neg (by omega), if_neg (by omega), if_neg (by omega), if_neg (by omega), if_neg (by omega)]
                      have := p10 w (by omega)
                      simpa [adY, uL, hwl] using this
                  · rw [a7 6 (by omega), rw' 84 (by omega) (by omega) (by omega), rw' 85 (by omega) (by omega) (by omega)]
                    intro a ha
                    have := p11 a ha
                    simpa [adY, uL] using this
                · rw [k4 19 (by omega)]; exact w1
theorem d_askerOf (e : MdA h V) (rt : RT V T) (wt : WfT T) (rp : RP V L) (wf : WfH L) (hv : V 0 19 = C 1 0) (hC : C 1 0 < 2 ^ 27) : ∃ h' V' b, m_call m_ev 117 y k [.ref 72] ls r h = m_ev y k ls (.int (nI (b01 b)) :: r) h' ∧ MdA h' V' ∧ IT T V V' b (askP T L C) ∧ Fr 72 89 h h' := by
  have n1 : ¬ nI 1 = nI 0 := by decide
  have w8 := wf.2.2.2.2.2.2.2.1
  have w9 := wf.2.2.2.2.2.2.2.2.1
  have w12 := wf.2.2.2.2.2.2.2.2.2.2.2.1
  obtain ⟨h1, q1, e1, f1⟩ := mdW0 e 21 1 (by simp)
  have sp1 : Sp V (uL V 0 21 1) := Sp.u (by omega)
  have p30 : (uL V 0 21 1) 0 30 = L 7 6 := by rw [uL_k _ _ _ (by omega)]; exact rp.2.2.2.2.2.2.1
  have v19 : (uL V 0 21 1) 0 19 = C 1 0 := by rw [uL_k _ _ _ (by omega)]; exact hv
  obtain ⟨h3, V3, b, q3, e3, s3, hb, hb2, f3⟩ := d_readNumbers (C := C) (y := 117) (k := 10) (ls := [some (.ref 72)]) (r := []) e1 (rt.sp sp1) wt (n := 2) (by omega) (by omega) v19 hC
  have hnv := num_v T 2 0 C (by intro j hj; omega)
  unfold askP
  generalize hN : numP T 2 0 C = N at *
  by_cases h4' : L 7 6 < 4
  case neg =>
    refine ⟨h1, _, false, cl_v ?_, e1, ⟨sp1, ⟨fun q => (by cases q), ?_⟩, fun q => (by cases q)⟩, f1⟩
    · show m_ev 117 0 [some (.ref 72)] [] h = _
      simp only [b117_0, q1, Option.bind_some, mdF e1, p30, show L 7 6 = 4 by omega, if_true, b117_26, b01_f]
    · rw [if_neg (fun q => h4' q.2)]
      rintro ⟨q, _⟩; cases q
  case pos =>
    have pre : m_ev 117 0 [some (.ref 72)] [] h = m_ev 117 10 [some (.ref 72)] [.int (nI (b01 b))] h3 := by
      have n10 : ¬ nI (L 7 6) = nI 4 := by rw [nI_eq (by omega) (by omega)]; omega
      simp only [b117_0, q1, Option.bind_some, mdF e1, p30, n10, if_false, b117_7, if_true, q3]
    have noC : b = false ∨ (b = true ∧ ¬ (N.2 0 0 < L 7 4 ∧ N.2 0 1 ≤ 3)) → m_ev 117 10 [some (.ref 72)] [.int (nI (b01 b))] h3 = some (some (.int (nI 0)), h3) → ∃ h' V' b, m_call m_ev 117 y k [.ref 72] ls r h = m_ev y k ls (.int (nI (b01 b)) :: r) h' ∧ MdA h' V' ∧ IT T V V' b (if (N.1 = true ∧ N.2 0 0 < L 7 4 ∧ N.2 0 1 ≤ 3) ∧ L 7 6 < 4 then (true, adK L (N.2 0 0) (N.2 0 1), N.2) else (false, L, N.2)) ∧ Fr 72 89 h h' := by
      intro hc hq
      refine ⟨h3, V3, false, cl_v (pre.trans hq), e3, ⟨sp1.tr s3.sp, ⟨fun q => (by cases q), ?_⟩, fun q => (by cases q)⟩, f1.tr f3⟩
      split
      · rename_i hx
        rintro ⟨_, q2⟩
        have := hb.2 ⟨hx.1.1, q2⟩
        rcases hc with z | ⟨_, z⟩
        · rw [this] at z; cases z
        · exact absurd hx.1.2 z
      · rintro ⟨q, _⟩; cases q
    cases b with
    | false =>
      refine noC (Or.inl rfl) ?_
      simp only [b01_f, b117_10, if_true, b117_26]
    | true =>
      obtain ⟨z1, z2⟩ := hb.1 rfl
      obtain ⟨w1, w2⟩ := hb2 rfl
      have t0 := w2 0 (by omega)
      have t1 := w2 1 (by omega)
      have b0 := hnv z1 0 (by omega)
      have b1 := hnv z1 1 (by omega)
      have p27 : V3 0 27 = L 7 4 := by rw [s3.1 27 (by omega), uL_k _ _ _ (by omega)]; exact rp.2.2.2.2.1
      have i0 := d_isToldN (y := 117) (k := 19) (ls := [some (.ref 72)]) (r := []) e3 (j := 0) (n := L 7 4) (by omega) (by omega) (by omega) (by omega)
      have i1 := d_isTold (y := 117) (k := 25) (ls := [some (.ref 72)]) (r := []) e3 (j := 1) (a := 0) (b := 3) (by omega) (by omega) (by omega) (by omega)
      rw [t0] at i0
      rw [t1] at i1
      by_cases c0 : N.2 0 0 < L 7 4
      case neg =>
        rw [decide_eq_false c0] at i0
        refine noC (Or.inr ⟨rfl, by omega⟩) ?_
        simp only [b01_t, b01_f, b117_10, n1, if_false, b117_11, mdF e3, Option.bind_some, p27, if_true, i0, b117_19, b117_26]
      case pos =>
        rw [decide_eq_true c0] at i0
        by_cases c1 : 0 ≤ N.2 0 1 ∧ N.2 0 1 ≤ 3
        case neg =>
          rw [decide_eq_false c1] at i1
          refine noC (Or.inr ⟨rfl, by omega⟩) ?_
          simp only [b01_t, b01_f, b117_10, n1, if_false, b117_11, mdF e3, Option.bind_some, p27, if_true, i0, b117_19, b117_20, i1, b117_25, b117_26]
        case pos =>
          rw [decide_eq_true c1] at i1
          have m30 : V3 0 30 = L 7 6 := by rw [s3.1 30 (by omega)]; exact p30
          obtain ⟨h4, V4, q4, e4, k4, m4, o4, x4, y4, f4⟩ := d_tellsAsker (y := 117) (k := 38) (ls := [some (.ref 72)]) (r := []) (x0 := N.2 0 0) (x1 := N.2 0 1) e3 m30 h4'
          have sp4 : Sp V3 V4 := ⟨fun j hj => k4 j (by omega), fun q h1 h2 => o4 q (by omega) (by omega) (by omega)⟩
          rw [if_pos ⟨⟨z1, c0, by omega⟩, h4'⟩]
          refine ⟨h4, V4, true, cl_v ?_, e4, ⟨(sp1.tr s3.sp).tr sp4, ⟨fun _ => ⟨rfl, z2⟩, fun _ => rfl⟩, fun _ => ⟨?_, ?_⟩⟩, (f1.tr f3).tr f4⟩
          · show m_ev 117 0 [some (.ref 72)] [] h = _
            rw [pre]
            simp (disch := omega) only [b01_t, b117_10, n1, if_false, b117_11, mdF e3, Option.bind_some, p27, if_true, i0, b117_19, b117_20, i1, b117_25, b117_28, t0, t1, q4, b117_38]
          · show RP V4 (adK L (N.2 0 0) (N.2 0 1))
            obtain ⟨p1, p2, p3, p4, p5, p6, p7, p8, p9, p10, p11⟩ := rp
            have fl : ∀ j, j ≠ 30 → j ≠ 19 → j ≠ 21 → V4 0 j = V 0 j := fun j h1 h2 h3 => by rw [k4 j h1, s3.1 j h2, uL_k _ _ _ h3]
            have rw' : ∀ q, q ≠ 0 → q ≠ 84 → q ≠ 85 → q ≠ 81 → V4 q = V q := fun q h1 h2 h3 h4 => by rw [o4 q h1 h2 h3, s3.2 q h1 h4, uL_row _ _ _ h1]
            have r84 : V3 84 = V 84 := by rw [s3.2 84 (by omega) (by omega), uL_row _ _ _ (by omega)]
            have r85 : V3 85 = V 85 := by rw [s3.2 85 (by omega) (by omega), uL_row _ _ _ (by omega)]
            have a76 : (adK L (N.2 0 0) (N.2 0 1)) 7 6 = L 7 6 + 1 := by simp [adK, uL]
            have a7 : ∀ j, j ≠ 6 → (adK L (N.2 0 0) (N.2 0 1)) 7 j = L 7 j := fun j hj => by simp [adK, uL, hj]
            refine ⟨?_, ?_, ?_, ?_, ?_, ?_, ?_, ?_, ?_, ?_, ?_⟩
            · rw [fl 22 (by omega) (by omega) (by omega), a7 0 (by omega)]; exact p1
            · rw [fl 24 (by omega) (by omega) (by omega), a7 1 (by omega)]; exact p2
            · rw [fl 25 (by omega) (by omega) (by omega), a7 2 (by omega)]; exact p3
            · rw [fl 26 (by omega) (by omega) (by omega), a7 3 (by omega)]; exact p4
            · rw [fl 27 (by omega) (by omega) (by omega), a7 4 (by omega)]; exact p5
            · rw [fl 28 (by omega) (by omega) (by omega), a7 5 (by omega)]; exact p6
            · rw [m4, a76]
            · rw [k4 21 (by omega), s3.1 21 (by omega), uL_s, a76, if_pos (Or.inr (by omega))]
            · rw [a7 0 (by omega), rw' 82 (by omega) (by omega) (by omega) (by omega)]
              intro i hi
              rw [p9 i hi]; simp [adK, uL]
            · rw [a7 5 (by omega), rw' 83 (by omega) (by omega) (by omega) (by omega)]
              intro w hw
              have := p10 w hw
              simpa [adK, uL] using this
            · rw [a76]
              intro a ha
              rw [x4, y4, r84, r85]
              by_cases hal : a = L 7 6
              · subst hal
                rw [if_pos rfl, if_pos rfl]
                simp [adK, uL]
              · rw [if_neg hal, if_neg hal]
                have := p11 a (by omega)
                simpa [adK, uL, hal] using this
          · rw [k4 19 (by omega)]; exact w1
-- an item
theorem d_readItem (e : MdA h V) (rt : RT V T) (wt : WfT T) (rp : RP V L) (wf : WfH L) (hv : V 0 19 = C 1 0) (hC : C 1 0 < 2 ^ 26) : ∃ h' V' b, m_call m_ev 118 y k [.ref 72] ls r h = m_ev y k ls (.int (nI (b01 b)) :: r) h' ∧ MdA h' V' ∧ IT T V V' b (itmP T (ltT T (C 1 0)) L (avC C)) ∧ Fr 72 89 h h' := by
  have hl := ltT_lt wt (C 1 0)
  obtain ⟨h1, q1, e1, f1⟩ := mdW0 e 19 (C 1 0 + 1) (by simp)
  have sp1 : Sp V (uL V 0 19 (C 1 0 + 1)) := Sp.u (by omega)
  have rt1 := rt.sp sp1
  have rp1 : RP (uL V 0 19 (C 1 0 + 1)) L := rp.sq (Sq.a _ _)
  have v1 : (uL V 0 19 (C 1 0 + 1)) 0 19 = (avC C) 1 0 := by rw [uL_s, avC_at]
  have hC1 : (avC C) 1 0 < 2 ^ 27 := by rw [avC_at]; omega
  have pre : m_ev 118 0 [some (.ref 72), none] [] h = (if ltT T (C 1 0) = 97 then m_ev 118 25 [some (.ref 72), some (.int (mlt T (C 1 0)))] [] h1 else if ltT T (C 1 0) = 104 then m_ev 118 19 [some (.ref 72), some (.int (mlt T (C 1 0)))] [] h1 else if ltT T (C 1 0) = 114 then m_ev 118 13 [some (.ref 72), some (.int (mlt T (C 1 0)))] [] h1 else if ltT T (C 1 0) = 115 then m_ev 118 16 [some (.ref 72), some (.int (mlt T (C 1 0)))] [] h1 else if ltT T (C 1 0) = 119 then m_ev 118 22 [some (.ref 72), some (.int (mlt T (C 1 0)))] [] h1 else m_ev 118 28 [some (.ref 72), some (.int (mlt T (C 1 0)))] [] h1) := by
    simp (disch := omega) only [b118_0, mdF e, Option.bind_some, hv, if_true, d_letterAt e rt wt (show C 1 0 < 2 ^ 31 by omega), b118_4, nI_add, q1, mlt_eq wt]
  have fin : ∀ {p : Bool × LT × LT} {h2 V2 b}, m_ev 118 0 [some (.ref 72), none] [] h = some (some (.int (nI (b01 b))), h2) → MdA h2 V2 → IT T (uL V 0 19 (C 1 0 + 1)) V2 b p → Fr 72 89 h1 h2 → ∃ h' V' b, m_call m_ev 118 y k [.ref 72] ls r h = m_ev y k ls (.int (nI (b01 b)) :: r) h' ∧ MdA h' V' ∧ IT T V V' b p ∧ Fr 72 89 h h' := by
    intro p h2 V2 b q e2 it f
    exact ⟨h2, V2, b, cl_v q, e2, ⟨sp1.tr it.1, it.2⟩, f1.tr f⟩
  unfold itmP
  by_cases c1 : ltT T (C 1 0) = 97
  · obtain ⟨h2, V2, b, q2, e2, it, f2⟩ := d_askerOf (y := 118) (k := 27) (ls := [some (.ref 72), some (.int (mlt T (C 1 0)))]) (r := []) e1 rt1 wt rp1 wf v1 hC1
    rw [if_pos c1]
    refine fin ?_ e2 it f2
    rw [pre, if_pos c1]
    simp only [b118_25, mdF e1, if_true, q2, b118_27, if_pos (b01_01 b)]
  · rw [if_neg c1]
    by_cases c2 : ltT T (C 1 0) = 104
    · obtain ⟨h2, V2, b, q2, e2, it, f2⟩ := d_placesOf (y := 118) (k := 21) (ls := [some (.ref 72), some (.int (mlt T (C 1 0)))]) (r := []) e1 rt1 wt rp1 v1 hC1
      rw [if_pos c2]
      refine fin ?_ e2 it f2
      rw [pre, if_neg c1, if_pos c2]
      simp only [b118_19, mdF e1, if_true, q2, b118_21, if_pos (b01_01 b)]
    · rw [if_neg c2]
      by_cases c3 : ltT T (C 1 0) = 114
      · obtain ⟨h2, V2, b, q2, e2, it, f2⟩ := d_ringOf (y := 118) (k := 15) (ls := [some (.ref 72), some (.int (mlt T (C 1 0)))]) (r := []) e1 rt1 wt rp1 v1 hC1
        rw [if_pos c3]
        refine fin ?_ e2 it f2
        rw [pre, if_neg c1, if_neg c2, if_pos c3]
        simp only [b118_13, mdF e1, if_true, q2, b118_15, if_pos (b01_01 b)]
      · rw [if_neg c3]
        by_cases c4 : ltT T (C 1 0) = 115
        · obtain ⟨h2, V2, b, q2, e2, it, f2⟩ := d_turnOf (y := 118) (k := 18) (ls := [some (.ref 72), some (.int (mlt T (C 1 0)))]) (r := []) e1 rt1 wt rp1 v1 hC1
          rw [if_pos c4]
          refine fin ?_ e2 it f2
          rw [pre, if_neg c1, if_neg c2, if_neg c3, if_pos c4]
          simp only [b118_16, mdF e1, if_true, q2, b118_18, if_pos (b01_01 b)]
        · rw [if_neg c4]
          by_cases c5 : ltT T (C 1 0) = 119
          · obtain ⟨h2, V2, b, q2, e2, it, f2⟩ := d_wayOf (y := 118) (k := 24) (ls := [some (.ref 72), some (.int (mlt T (C 1 0)))]) (r := []) e1 rt1 wt rp1 wf v1 hC1
            rw [if_pos c5]
            refine fin ?_ e2 it f2
            rw [pre, if_neg c1, if_neg c2, if_neg c3, if_neg c4, if_pos c5]
            simp only [b118_22, mdF e1, if_true, q2, b118_24, if_pos (b01_01 b)]
          · rw [if_neg c5]
            refine fin (b := false) ?_ e1 ⟨Sp.rf _, ⟨fun q => (by cases q), fun q => (by cases q.1)⟩, fun q => (by cases q)⟩ (Fr.rf _ _ _)
            rw [pre, if_neg c1, if_neg c2, if_neg c3, if_neg c4, if_neg c5, b118_28, b01_f]
-- how far
theorem num_mono (T : LT) : ∀ (d i : Nat) (C : LT), C 1 0 ≤ (numP T d i C).2 1 0 := by
  intro d
  induction d with
  | zero => intro i C; exact Nat.le_refl _
  | succ d ih =>
    intro i C
    have hs : C 1 0 ≤ (sgP i C) 1 0 := by
      unfold sgP; split
      · exact Nat.le_refl _
      · rw [avC_at]; omega
    unfold numP
    split
    · split
      · obtain ⟨g1, _, _⟩ := fg_v T i (sgP i C)
        have := ih (i + 1) (fgP T i (sgP i C))
        have hg : (sgP i C) 1 0 ≤ fgN T ((sgP i C) 1 0) := by unfold fgN; split <;> omega
        omega
      · exact hs
    · exact Nat.le_refl _
theorem rng_mono (T : LT) : ∀ (d : Nat) (L C : LT), C 1 0 ≤ (rngP T d L C).2 1 0 := by
  intro d
  induction d with
  | zero => intro L C; exact Nat.le_refl _
  | succ d ih =>
    intro L C
    unfold rngP
    split
    · exact Nat.le_refl _
    · rename_i w _
      have := ih (adW L w) (avC C)
      rw [avC_at] at this
      omega
theorem itm_mono (T : LT) (c : Nat) (L C : LT) : C 1 0 ≤ (itmP T c L C).2.2 1 0 := by
  have n1 := num_mono T 1 0 C
  have n2 := num_mono T 2 0 C
  have n3 := num_mono T 3 0 C
  have n4 := num_mono T 4 0 C
  have n5 := rng_mono T 12 (uL L 7 0 0) C
  unfold itmP
  split
  · unfold askP; split <;> assumption
  · split
    · unfold plaP; split
      · exact Nat.le_refl _
      · split <;> assumption
    · split
      · exact n5
      · split
        · unfold lawP; split <;> assumption
        · split
          · unfold wayP; split <;> assumption
          · exact Nat.le_refl _
theorem flt_lp (wt : WfT T) : ∀ (d : Nat) (h : MH) (V L C : LT) (d1 : Option Value), MdA h V → RT V T → RP V L → WfH L → V 0 19 = C 1 0 → T 1 0 ≤ C 1 0 + d → C 1 0 + 14 * d < 2 ^ 26 → ∃ h' V', m_ev 119 5 [some (.ref 72), d1] [] h = some (some (.int (nO (copP T d L C).1)), h') ∧ MdA h' V' ∧ Sp V V' ∧ ((copP T d L C).1 = none → RP V' (copP T d L C).2.1) ∧ Fr 72 89 h h' := by
  have n1 : ¬ nI 1 = nI 0 := by decide
  have w1 := wt.1
  intro d
  induction d with
  | zero =>
    intro h V L C d1 e rt rp wf hv hd hC
    refine ⟨h, V, ?_, e, Sp.rf _, fun _ => rp, Fr.rf _ _ _⟩
    have t0 := rt.1
    rw [b119_5]
    simp (disch := omega) only [mdF e, Option.bind_some, hv, t0, nI_leI, show T 1 0 ≤ C 1 0 by omega, if_true, b119_19, copP, nO]
  | succ d ih =>
    intro h V L C d1 e rt rp wf hv hd hC
    have t0 := rt.1
    by_cases hn : T 1 0 ≤ C 1 0
    · have hc : copP T (d + 1) L C = (none, L, C) := by rw [copP, if_pos hn]
      rw [hc]
      refine ⟨h, V, ?_, e, Sp.rf _, fun _ => rp, Fr.rf _ _ _⟩
      rw [b119_5]
      simp (disch := omega) only [mdF e, Option.bind_some, hv, t0, nI_leI, hn, if_true, b119_19, nO]
    · obtain ⟨h2, V2, b, q2, e2, ⟨sp2, hb, hb2⟩, f2⟩ := d_readItem (y := 119) (k := 15) (ls := [some (.ref 72), some (.int (nI (C 1 0)))]) (r := []) e rt wt rp wf hv (by omega)
      have hm := itm_mono T (ltT T (C 1 0)) L (avC C)
      have ha := itm_at T (ltT T (C 1 0)) L (avC C)
      rw [avC_at] at hm ha
      have pre : m_ev 119 5 [some (.ref 72), d1] [] h = m_ev 119 15 [some (.ref 72), some (.int (nI (C 1 0)))] [.int (nI (b01 b))] h2 := by
        rw [b119_5]
        simp (disch := omega) only [mdF e, Option.bind_some, hv, t0, nI_leI, hn, if_false, b119_10, if_true, q2]
      cases b with
      | false =>
        have hc : copP T (d + 1) L C = (some (C 1 0), (itmP T (ltT T (C 1 0)) L (avC C)).2) := by
          rw [copP, if_neg hn]
          by_cases hi : (itmP T (ltT T (C 1 0)) L (avC C)).1 = true
          · rw [if_pos hi, if_neg (fun z => by have := hb.2 ⟨hi, z⟩; cases this)]
          · rw [if_neg hi]
        rw [hc]
        refine ⟨h2, V2, ?_, e2, sp2, fun z => (by cases z), f2⟩
        rw [pre]
        simp only [b01_f, b119_15, if_true, b119_16, nO]
      | true =>
        obtain ⟨hi, h59⟩ := hb.1 rfl
        obtain ⟨rp2, v2⟩ := hb2 rfl
        have hc : copP T (d + 1) L C = copP T d (itmP T (ltT T (C 1 0)) L (avC C)).2.1 (avC (itmP T (ltT T (C 1 0)) L (avC C)).2.2) := by rw [copP, if_neg hn, if_pos hi, if_pos h59]
        rw [hc]
        obtain ⟨h3, V3, q3, e3, sp3, rp3, f3⟩ := ih h2 V2 (itmP T (ltT T (C 1 0)) L (avC C)).2.1 (avC (itmP T (ltT T (C 1 0)) L (avC C)).2.2) (some (.int (nI (C 1 0)))) e2 (rt.sp sp2) rp2 (itm_wf T _ wf hi) (by rw [v2, avC_at]) (by rw [avC_at]; omega) (by rw [avC_at]; omega)
        refine ⟨h3, V3, ?_, e3, sp2.tr sp3, rp3, f2.tr f3⟩
        rw [pre]
        simp only [b01_t, b119_15, n1, if_false, b119_18]
        exact q3
theorem d_clearTold (e : MdA h V) (L' : LT) : ∃ h' V', m_call m_ev 111 y k [.ref 72] ls r h = m_ev y k ls r h' ∧ MdA h' V' ∧ Sp V V' ∧ RP V' (clL L') ∧ V' 0 19 = V 0 19 ∧ Fr 72 89 h h' := by
  obtain ⟨h1, q1, e1, f1⟩ := mdW0 e 21 0 (by simp)
  obtain ⟨h2, q2, e2, f2⟩ := mdW0 e1 22 2 (by simp)
  obtain ⟨h3, q3, e3, f3⟩ := mdW82 e2 0 (k := 0) (by omega)
  obtain ⟨h4, q4, e4, f4⟩ := mdW82 e3 1 (k := 1) (by omega)
  obtain ⟨h5, q5, e5, f5⟩ := mdW0 e4 24 1 (by simp)
  obtain ⟨h6, q6, e6, f6⟩ := mdW0 e5 25 24 (by simp)
  obtain ⟨h7, q7, e7, f7⟩ := mdW0 e6 26 0 (by simp)
  obtain ⟨h8, q8, e8, f8⟩ := mdW0 e7 27 4 (by simp)
  obtain ⟨h9, q9, e9, f9⟩ := mdW0 e8 28 0 (by simp)
  obtain ⟨h10, q10, e10, f10⟩ := mdW0 e9 30 0 (by simp)
  refine ⟨h10, _, cl_0 ?_, e10, ?_, ?_, ?_, ((((((((f1.tr f2).tr f3).tr f4).tr f5).tr f6).tr f7).tr f8).tr f9).tr f10⟩
  · show m_ev 111 0 [some (.ref 72)] [] h = _
    simp only [b111_0, q1, Option.bind_some, q2, mdF e2, q3, mdF e3, q4, q5, q6, q7, q8, q9, q10]
  · exact (((((((((Sp.u (by omega)).tr (Sp.u (by omega))).tr (Sp.v (by omega))).tr (Sp.v (by omega))).tr (Sp.u (by omega))).tr (Sp.u (by omega))).tr (Sp.u (by omega))).tr (Sp.u (by omega))).tr (Sp.u (by omega))).tr (Sp.u (by omega))
  · unfold RP clL adW
    simp [uL]
    intro i hi
    rcases (show i = 0 ∨ i = 1 by omega) with rfl | rfl <;> simp
  · simp [uL]
theorem d_fault (e : MdA h V) (rt : RT V T) (wt : WfT T) (L' C' : LT) : ∃ h' V', m_call m_ev 119 y k [.ref 72] ls r h = m_ev y k ls (.int (nO (cop0 T L' C').1) :: r) h' ∧ m_ev 119 0 [some (.ref 72), none] [] h = some (some (.int (nO (cop0 T L' C').1)), h') ∧ MdA h' V' ∧ Sp V V' ∧ ((cop0 T L' C').1 = none → RP V' (cop0 T L' C').2.1) ∧ Fr 72 89 h h' := by
  have w1 := wt.1
  obtain ⟨h1, q1, e1, f1⟩ := mdW0 e 19 0 (by simp)
  have sp1 : Sp V (uL V 0 19 0) := Sp.u (by omega)
  obtain ⟨h2, V2, q2, e2, sp2, rp2, v2, f2⟩ := d_clearTold (y := 119) (k := 5) (ls := [some (.ref 72), none]) (r := []) e1 L'
  obtain ⟨h3, V3, q3, e3, sp3, rp3, f3⟩ := flt_lp wt 200 h2 V2 (clL L') (uL C' 1 0 0) none e2 (rt.sp (sp1.tr sp2)) rp2 (clL_wf L') (by rw [v2, uL_s, uL_s]) (by rw [uL_s]; omega) (by rw [uL_s]; omega)
  have key : m_ev 119 0 [some (.ref 72), none] [] h = some (some (.int (nO (cop0 T L' C').1)), h3) := by
    simp only [b119_0, q1, Option.bind_some, mdF e1, if_true, q2]
    exact q3
  exact ⟨h3, V3, cl_v key, key, e3, (sp1.tr sp2).tr sp3, rp3, (f1.tr f2).tr f3⟩
end
