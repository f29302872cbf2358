/-! the model: what is told is laid -/
def RQ (V L : LT) : Prop := V 0 22 = L 7 0 ∧ V 0 24 = L 7 1 ∧ V 0 25 = L 7 2 ∧ V 0 26 = L 7 3 ∧ V 0 27 = L 7 4 ∧ V 0 28 = L 7 5 ∧ V 0 30 = L 7 6 ∧ (∀ i, i < L 7 0 → V 82 i = L 0 i) ∧ (∀ w, w < L 7 5 → V 83 (4 * w) = L 1 w ∧ V 83 (4 * w + 1) = L 2 w ∧ V 83 (4 * w + 2) = L 3 w ∧ V 83 (4 * w + 3) = L 4 w) ∧ (∀ a, a < L 7 6 → V 84 a = L 5 a ∧ V 85 a = L 6 a)
theorem RP.rq {V L : LT} (r : RP V L) : RQ V L := by
  obtain ⟨p1, p2, p3, p4, p5, p6, p7, p8, p9, p10, p11⟩ := r
  exact ⟨p1, p2, p3, p4, p5, p6, p7, p9, p10, p11⟩
section
variable {y k : Nat} {ls : ML} {r : List Value} {h : MH} {V L M T S C : LT} {hp hk : Nat} {P K : Nat → LT}
theorem set0_lp : ∀ (d i : Nat), i + d = 12 → ∀ (h : MH) (V : LT), MdA h V → (∀ j, j < i → V 76 j = 0) → ∃ h' V', m_ev 122 46 [some (.ref 72), some (.int (nI i))] [] h = m_ev 122 56 [some (.ref 72), some (.int (nI 12))] [] h' ∧ MdA h' V' ∧ Sx 76 V V' ∧ (∀ j, j < 12 → V' 76 j = 0) ∧ Fr 72 89 h h' := by
  intro d
  induction d with
  | zero =>
    intro i hi h V e v
    obtain rfl : i = 12 := by omega
    refine ⟨h, V, ?_, e, Sx.rf _ _, v, Fr.rf _ _ _⟩
    rw [b122_46, if_pos (nI_le (Nat.le_refl _) (by omega))]
  | succ d ih =>
    intro i hi h V e v
    obtain ⟨h3, q3, e3, f3⟩ := mdW76 e 0 (k := i) (by omega)
    obtain ⟨h4, V4, q4, e4, s4, v4, f4⟩ := ih (i + 1) (by omega) h3 _ e3 (by
      intro j hj
      by_cases hji : j = i
      · subst hji; exact uL_s _ _ _ _
      · rw [uL_k _ _ _ hji]; exact v j (by omega))
    refine ⟨h4, V4, ?_, e4, (Sx.u 76 V _ _).tr s4, v4, f3.tr f4⟩
    rw [b122_46, if_neg (nI_ge (show i < 12 by omega) (by omega)), b122_49]
    simp (disch := omega) only [mdF e, Option.bind_some, q3, nI_add]
    exact q4
theorem set1_lp {n : Nat} (hn : n ≤ 4) : ∀ (d i : Nat), i + d = n → ∀ (h : MH) (V : LT), MdA h V → V 0 8 = n → ∃ h' V', m_ev 122 58 [some (.ref 72), some (.int (nI i))] [] h = m_ev 122 82 [some (.ref 72), some (.int (nI n))] [] h' ∧ MdA h' V' ∧ (∀ q, q ≠ 75 → q ≠ 76 → V' q = V q) ∧ (∀ j, V' 75 j = if i ≤ j ∧ j < n then V 85 j else V 75 j) ∧ (∀ j, V' 76 j = if 4 + i ≤ j ∧ j < 4 + n then V 84 (j - 4) else V 76 j) ∧ Fr 72 89 h h' := by
  intro d
  induction d with
  | zero =>
    intro i hi h V e v8
    obtain rfl : i = n := by omega
    refine ⟨h, V, ?_, e, fun _ _ _ => rfl, fun j => by rw [if_neg (by omega)], fun j => by rw [if_neg (by omega)], Fr.rf _ _ _⟩
    rw [b122_58]
    simp (disch := omega) only [mdF e, Option.bind_some, v8, nI_leI, Nat.le_refl, if_true]
  | succ d ih =>
    intro i hi h V e v8
    obtain ⟨h3, q3, e3, f3⟩ := mdW75 e (V 85 i) (k := i) (by omega)
    obtain ⟨h4, q4, e4, f4⟩ := mdW76 e3 (V 84 i) (k := 4 + i) (by omega)
    have r84 : (uL V 75 i (V 85 i)) 84 i = V 84 i := by rw [uL_row _ _ _ (by omega)]
    obtain ⟨h5, V5, q5, e5, o5, x5, y5, f5⟩ := ih (i + 1) (by omega) h4 _ e4 (by rw [uL_row _ _ _ (by omega), uL_row _ _ _ (by omega)]; exact v8)
    refine ⟨h5, V5, ?_, e5, ?_, ?_, ?_, (f3.tr f4).tr f5⟩
    · rw [b122_58]
      simp (disch := omega) only [mdF e, Option.bind_some, v8, nI_leI, show ¬ n ≤ i by omega, if_false, b122_62, q3, mdF e3, r84, nI_add, q4]
      exact q5
    · intro q h1 h2
      rw [o5 q h1 h2, uL_row _ _ _ h2, uL_row _ _ _ h1]
    · intro j
      rw [x5 j, uL_row _ _ _ (by omega), uL_row _ _ _ (by omega), uL_row _ _ _ (by omega)]
      by_cases hj : i + 1 ≤ j ∧ j < n
      · rw [if_pos hj, if_pos (by omega)]
      · rw [if_neg hj]
        by_cases hji : j = i
        · subst hji; rw [if_pos (by omega), uL_s]
        · rw [if_neg (by omega), uL_k _ _ _ hji]
    · intro j
      rw [y5 j]
      by_cases hj : 4 + (i + 1) ≤ j ∧ j < 4 + n
      · rw [if_pos hj, if_pos (by omega), uL_row _ _ _ (by omega), uL_row _ _ _ (by omega)]
      · rw [if_neg hj]
        by_cases hji : j = 4 + i
        · subst hji; rw [if_pos (by omega), uL_s, show 4 + i - 4 = i by omega]
        · rw [if_neg (by omega), uL_k _ _ _ hji, uL_row _ _ _ (by omega)]
theorem d_settles (e : MdA h V) (rq : RQ V L) (wf : WfH L) : ∃ h' V', m_call m_ev 122 y k [.ref 72] ls r h = m_ev y k ls r h' ∧ MdA h' V' ∧ RH V' L ∧ StV (V' 76) 0 L (st0 L) ∧ V' 0 11 = 0 ∧ V' 0 13 = 0 ∧ V' 0 15 = 0 ∧ V' 0 18 = V 0 18 ∧ V' 80 = V 80 ∧ Fr 72 89 h h' := by
  have w2 := wf.2.1
  have w10 := wf.2.2.2.2.2.2.2.2.2.1
  have w12 := wf.2.2.2.2.2.2.2.2.2.2.2.1
  obtain ⟨p1, p2, p3, p4, p5, p6, p7, p9, p10, p11⟩ := rq
  obtain ⟨h1, q1, e1, f1⟩ := mdW0 e 0 (L 7 0) (by simp)
  obtain ⟨h2, V2, q2, e2, x2, v2, f2⟩ := d_copies (y := 122) (k := 12) (ls := [some (.ref 72), none]) (r := []) e1 (a := 73) (b := 82) (at0 := 0) (fr0 := 0) (n := 12) (by omega) (by decide) (by decide) (by omega)
  have F2 : ∀ j, j ≠ 0 → V2 0 j = V 0 j := fun j hj => by rw [x2 0 (by omega), uL_k _ _ _ hj]
  have R2 : ∀ q, q ≠ 0 → q ≠ 73 → V2 q = V q := fun q a b => by rw [x2 q b, uL_row _ _ _ a]
  have z24 : V2 0 24 = L 7 1 := by rw [F2 24 (by omega)]; exact p2
  obtain ⟨h3, q3, e3, f3⟩ := mdW0 e2 2 (L 7 1) (by simp)
  have z25 : (uL V2 0 2 (L 7 1)) 0 25 = L 7 2 := by rw [uL_k _ _ _ (by omega), F2 25 (by omega)]; exact p3
  obtain ⟨h4, q4, e4, f4⟩ := mdW0 e3 3 (L 7 2) (by simp)
  have z26 : (uL (uL V2 0 2 (L 7 1)) 0 3 (L 7 2)) 0 26 = L 7 3 := by rw [uL_k _ _ _ (by omega), uL_k _ _ _ (by omega), F2 26 (by omega)]; exact p4
  obtain ⟨h5, q5, e5, f5⟩ := mdW0 e4 4 (L 7 3) (by simp)
  have z27 : (uL (uL (uL V2 0 2 (L 7 1)) 0 3 (L 7 2)) 0 4 (L 7 3)) 0 27 = L 7 4 := by rw [uL_k _ _ _ (by omega), uL_k _ _ _ (by omega), uL_k _ _ _ (by omega), F2 27 (by omega)]; exact p5
  obtain ⟨h6, q6, e6, f6⟩ := mdW0 e5 5 (L 7 4) (by simp)
  have z28 : (uL (uL (uL (uL V2 0 2 (L 7 1)) 0 3 (L 7 2)) 0 4 (L 7 3)) 0 5 (L 7 4)) 0 28 = L 7 5 := by rw [uL_k _ _ _ (by omega), uL_k _ _ _ (by omega), uL_k _ _ _ (by omega), uL_k _ _ _ (by omega), F2 28 (by omega)]; exact p6
  obtain ⟨h7, q7, e7, f7⟩ := mdW0 e6 6 (L 7 5) (by simp)
  generalize hV7 : uL (uL (uL (uL (uL V2 0 2 (L 7 1)) 0 3 (L 7 2)) 0 4 (L 7 3)) 0 5 (L 7 4)) 0 6 (L 7 5) = V7 at *
  have R7 : ∀ q, q ≠ 0 → V7 q = V2 q := fun q a => by rw [← hV7, uL_row _ _ _ a, uL_row _ _ _ a, uL_row _ _ _ a, uL_row _ _ _ a, uL_row _ _ _ a]
  have F7 : ∀ j, 7 ≤ j → V7 0 j = V 0 j := fun j hj => by rw [← hV7, uL_k _ _ _ (by omega), uL_k _ _ _ (by omega), uL_k _ _ _ (by omega), uL_k _ _ _ (by omega), uL_k _ _ _ (by omega), F2 j (by omega)]
  have k0 : V7 0 0 = L 7 0 := by rw [← hV7, uL_k _ _ _ (by omega), uL_k _ _ _ (by omega), uL_k _ _ _ (by omega), uL_k _ _ _ (by omega), uL_k _ _ _ (by omega), x2 0 (by omega), uL_s]
  have k2 : V7 0 2 = L 7 1 := by rw [← hV7]; simp [uL]
  have k3 : V7 0 3 = L 7 2 := by rw [← hV7]; simp [uL]
  have k4 : V7 0 4 = L 7 3 := by rw [← hV7]; simp [uL]
  have k5 : V7 0 5 = L 7 4 := by rw [← hV7]; simp [uL]
  have k6 : V7 0 6 = L 7 5 := by rw [← hV7]; simp [uL]
  obtain ⟨h8, V8, q8, e8, x8, v8, f8⟩ := d_copies (y := 122) (k := 40) (ls := [some (.ref 72), none]) (r := []) e7 (a := 74) (b := 83) (at0 := 0) (fr0 := 0) (n := 40) (by omega) (by decide) (by decide) (by omega)
  have z30 : V8 0 30 = L 7 6 := by rw [x8 0 (by omega), F7 30 (by omega)]; exact p7
  obtain ⟨h9, q9, e9, f9⟩ := mdW0 e8 8 (L 7 6) (by simp)
  obtain ⟨h10, V10, q10, e10, x10, v10, f10⟩ := set0_lp 12 0 rfl h9 _ e9 (fun j hj => by omega)
  have z8 : V10 0 8 = L 7 6 := by rw [x10 0 (by omega)]; exact uL_s _ _ _ _
  obtain ⟨h11, V11, q11, e11, o11, u11, v11, f11⟩ := set1_lp w12 (L 7 6) 0 (by omega) h10 V10 e10 z8
  obtain ⟨h12, q12, e12, f12⟩ := mdW0 e11 11 0 (by simp)
  obtain ⟨h13, q13, e13, f13⟩ := mdW0 e12 13 0 (by simp)
  obtain ⟨h14, q14, e14, f14⟩ := mdW0 e13 15 0 (by simp)
  generalize hV14 : uL (uL (uL V11 0 11 0) 0 13 0) 0 15 0 = V14 at *
  have R14 : ∀ q, q ≠ 0 → q ≠ 75 → q ≠ 76 → V14 q = V8 q := fun q a b c => by rw [← hV14, uL_row _ _ _ a, uL_row _ _ _ a, uL_row _ _ _ a, o11 q b c, x10 q c, uL_row _ _ _ a]
  have F14 : ∀ j, j ≠ 8 → j ≠ 11 → j ≠ 13 → j ≠ 15 → V14 0 j = V7 0 j := fun j a b c d => by rw [← hV14, uL_k _ _ _ d, uL_k _ _ _ c, uL_k _ _ _ b, o11 0 (by omega) (by omega), x10 0 (by omega), uL_k _ _ _ a, x8 0 (by omega)]
  have R75 : V14 75 = V11 75 := by rw [← hV14, uL_row _ _ _ (by omega), uL_row _ _ _ (by omega), uL_row _ _ _ (by omega)]
  have R76 : V14 76 = V11 76 := by rw [← hV14, uL_row _ _ _ (by omega), uL_row _ _ _ (by omega), uL_row _ _ _ (by omega)]
  have O10 : ∀ q, q ≠ 0 → q ≠ 73 → q ≠ 74 → q ≠ 76 → V10 q = V q := fun q a b c d => by rw [x10 q d, uL_row _ _ _ a, x8 q c, R7 q a, R2 q a b]
  refine ⟨h14, V14, cl_0 ?_, e14, ⟨?_, ?_, ?_, ?_, ?_, ?_, ?_, ?_, ?_, ?_⟩, ⟨?_, ?_, ?_, ?_, ?_⟩, ?_, ?_, ?_, ?_, ?_, ((((((((((((f1.tr f2).tr f3).tr f4).tr f5).tr f6).tr f7).tr f8).tr f9).tr f10).tr f11).tr f12).tr f13).tr f14⟩
  · show m_ev 122 0 [some (.ref 72), none] [] h = _
    simp only [b122_0, mdF e, Option.bind_some, p1, q1, mdF e1, q2, b122_12, mdF e2, z24, q3, mdF e3, z25, q4, mdF e4, z26, q5, mdF e5, z27, q6, mdF e6, z28, q7, mdF e7, q8, b122_40, mdF e8, z30, q9, q10, b122_56, q11, b122_82, q12, q13, q14]
  · rw [F14 0 (by omega) (by omega) (by omega) (by omega)]; exact k0
  · rw [F14 2 (by omega) (by omega) (by omega) (by omega)]; exact k2
  · rw [F14 3 (by omega) (by omega) (by omega) (by omega)]; exact k3
  · rw [F14 4 (by omega) (by omega) (by omega) (by omega)]; exact k4
  · rw [F14 5 (by omega) (by omega) (by omega) (by omega)]; exact k5
  · rw [F14 6 (by omega) (by omega) (by omega) (by omega)]; exact k6
  · rw [← hV14, uL_k _ _ _ (by omega), uL_k _ _ _ (by omega), uL_k _ _ _ (by omega), o11 0 (by omega) (by omega)]; exact z8
  · intro i hi
    rw [R14 73 (by omega) (by omega) (by omega), x8 73 (by omega), R7 73 (by omega), v2, if_pos (by omega), uL_row _ _ _ (by omega), show 0 + (i - 0) = i by omega]
    exact p9 i hi
  · intro w hw
    rw [R14 74 (by omega) (by omega) (by omega)]
    have hx : ∀ j, j < 40 → V8 74 j = V 83 j := fun j hj => by rw [v8, if_pos (by omega), show 0 + (j - 0) = j by omega, R7 83 (by omega), R2 83 (by omega) (by omega)]
    rw [hx _ (by omega), hx _ (by omega), hx _ (by omega), hx _ (by omega)]
    exact p10 w hw
  · intro a ha
    rw [R75, u11, if_pos (by omega), O10 85 (by omega) (by omega) (by omega) (by omega)]
    exact (p11 a ha).2
  · rw [R76, v11, if_neg (by omega), v10 0 (by omega)]; rfl
  · rw [R76, v11, if_neg (by omega), v10 _ (by omega)]; rfl
  · rw [R76, v11, if_neg (by omega), v10 _ (by omega)]; rfl
  · rw [R76, v11, if_neg (by omega), v10 _ (by omega)]; rfl
  · intro a ha
    rw [Nat.zero_add, Nat.zero_add, R76]
    constructor
    · rw [v11, if_pos (by omega), O10 84 (by omega) (by omega) (by omega) (by omega), show 4 + a - 4 = a by omega]
      exact (p11 a ha).1
    · rw [v11, if_neg (by omega), v10 _ (by omega)]; rfl
  · rw [← hV14, uL_k _ _ _ (by omega), uL_k _ _ _ (by omega), uL_s]
  · rw [← hV14, uL_k _ _ _ (by omega), uL_s]
  · rw [← hV14, uL_s]
  · rw [F14 18 (by omega) (by omega) (by omega) (by omega), F7 18 (by omega)]
  · rw [R14 80 (by omega) (by omega) (by omega), x8 80 (by omega), R7 80 (by omega), R2 80 (by omega) (by omega)]
theorem e_fault (e : MdA h V) (rv : RV V L M T S hp P hk K) (wt : WfT T) (L' C' : LT) : ∃ h' V', AM 119 [.ref 72] h (nO (cop0 T L' C').1) h' ∧ MdA h' V' ∧ RV V' L M T S hp P hk K := by
  obtain ⟨h3, V3, _, q3, e3, s3, _, f3⟩ := d_fault (y := 0) (k := 0) (ls := []) (r := []) e rv.2.2.1 wt L' C'
  exact ⟨h3, V3, ⟨q3, f3⟩, e3, rv.sp s3⟩
theorem e_lay_no (e : MdA h V) (rv : RV V L M T S hp P hk K) (wt : WfT T) (L' C' : LT) (hc : (cop0 T L' C').1 ≠ none ∨ (cop0 T L' C').2.1 7 6 = 0) : ∃ h' V', AM 120 [.ref 72] h (-2) h' ∧ MdA h' V' ∧ RV V' L M T S hp P hk K := by
  obtain ⟨h3, V3, q3, _, e3, s3, rp3, f3⟩ := d_fault (y := 120) (k := 2) (ls := [some (.ref 72)]) (r := []) e rv.2.2.1 wt L' C'
  refine ⟨h3, V3, ⟨?_, f3⟩, e3, rv.sp s3⟩
  show m_ev 120 0 [some (.ref 72)] [] h = _
  simp only [b120_0, mdF e, if_true, q3]
  have w0 := wt.1
  cases hn : (cop0 T L' C').1 with
  | some v =>
    have hv := copP_lt T 200 _ _ v hn
    simp only [nO, b120_2, if_neg (nI_neg4 (show v < 2 ^ 31 by omega)), b120_7]
  | none =>
    have h0 : (cop0 T L' C').2.1 7 6 = 0 := by
      rcases hc with q | q
      · exact absurd hn q
      · exact q
    have p7 := (rp3 hn).2.2.2.2.2.2.1
    simp only [nO, b120_2, if_true, b120_4, mdF e3, Option.bind_some, p7, h0, b120_7]
theorem e_lay (e : MdA h V) (rv : RV V L M T S hp P hk K) (wt : WfT T) (L' C' : LT) (hn : (cop0 T L' C').1 = none) (h0 : (cop0 T L' C').2.1 7 6 ≠ 0) : ∃ h' V', AM 120 [.ref 72] h (nI ((cop0 T L' C').2.1 7 4)) h' ∧ MdA h' V' ∧ RV V' (cop0 T L' C').2.1 (st0 (cop0 T L' C').2.1) T (uL S 2 0 0) 0 P 0 K := by
  have wf1 : WfH (cop0 T L' C').2.1 := copP_wf T 200 _ _ (clL_wf L') hn
  have w12 := wf1.2.2.2.2.2.2.2.2.2.2.2.1
  obtain ⟨h3, V3, q3, _, e3, s3, rp3, f3⟩ := d_fault (y := 120) (k := 2) (ls := [some (.ref 72)]) (r := []) e rv.2.2.1 wt L' C'
  have rp := rp3 hn
  have p7 := rp.2.2.2.2.2.2.1
  obtain ⟨h4, V4, q4, e4, rh4, st4, a11, a13, a15, a18, a80, f4⟩ := d_settles (y := 120) (k := 11) (ls := [some (.ref 72)]) (r := []) e3 rp.rq wf1
  have rt4 : RT V4 T := (rv.2.2.1.sp s3).f a18 a80
  have zz : (uL S 2 0 0) 2 0 = 0 := uL_s _ _ _ _
  refine ⟨h4, V4, ⟨?_, f3.tr f4⟩, e4, rh4, st4, rt4, ⟨a11, by omega, fun j hj => by omega⟩, ⟨a13, by omega, fun j hj => by omega⟩, ⟨by rw [zz]; exact a15, by omega, fun i hi => by omega⟩⟩
  show m_ev 120 0 [some (.ref 72)] [] h = _
  have n0 : ¬ nI ((cop0 T L' C').2.1 7 6) = nI 0 := by rw [nI_eq (by omega) (by omega)]; exact h0
  have r5 := rh4.2.2.2.2.1
  rw [hn] at q3
  simp only [b120_0, mdF e, if_true, q3, nO, b120_2, b120_4, mdF e3, Option.bind_some, p7, n0, if_false, b120_9, q4, b120_11, mdF e4, r5]
end
