/-! the model: TOP, READ, BOTH, HOLD -/
def AM (z : Nat) (as : List Value) (h : MH) (v : Int32) (h' : MH) : Prop := m_ev z 0 (m_ent (m_maxL z) as) [] h = some (some (.int v), h') ∧ Fr 72 89 h h'
/-- the model's rows that are kept: all but what it scribbles on -/
def Sk (V V' : LT) : Prop := ∀ r, r ≤ 80 → V' r = V r
theorem Sk.rf (V : LT) : Sk V V := fun _ _ => rfl
theorem Sk.tr {V V1 V2 : LT} (a : Sk V V1) (b : Sk V1 V2) : Sk V V2 := fun r h => (b r h).trans (a r h)
theorem Sx.sk {q : Nat} {V V' : LT} (s : Sx q V V') (hq : 80 < q) : Sk V V' := fun r h => s r (by omega)
theorem RH.sk {V V' L : LT} (rh : RH V L) (s : Sk V V') : RH V' L := by
  unfold RH
  rw [s 0 (by omega), s 73 (by omega), s 74 (by omega), s 75 (by omega)]
  exact rh
theorem upL_sp {L M : LT} {s : Nat} {f : Nat → Nat} (h : f s = spotL L M (L 7 1) (L 7 2) s) : L 0 (f s) = upL L M s := by
  rw [h]; rfl
section
variable {y k : Nat} {ls : ML} {r : List Value} {h : MH} {V L M : LT}
theorem can_rc (wf : WfH L) {c A : Nat → Nat} {p0 left : Nat} (hA : ∀ j, j < 100 → A j = upL L M j) (hc : ∀ i, i < 100 → c i = if i = left then 2 ^ p0 else 0) {t b : Nat} (ht : t < 100) : ((cnK L (M 2 0) A c 99 t).testBit b = true) ↔ RCa L M p0 left t b := by
  rw [cnK_bit wf (I := fun t p => t = left ∧ p = p0) (by
    intro i b hi
    rw [hc i hi]
    by_cases hil : i = left
    · rw [if_pos hil, Nat.testBit_two_pow, decide_eq_true_eq]
      constructor
      · intro q; exact ⟨hil, q.symm⟩
      · intro q; exact q.2.symm
    · rw [if_neg hil, Nat.zero_testBit]
      constructor
      · intro q; cases q
      · intro q; exact absurd q.1 hil) 99 (Nat.le_refl _) t b ht]
  unfold RCa
  constructor
  · intro q
    exact rcF_up (rcF_cg 99 (fun j hj => hA j (by omega)) t b q) 100 (by omega)
  · intro q
    exact rcF_cg 99 (fun j hj => (hA j (by omega)).symm) t b (rcF_dn wf (show t ≤ 99 by omega) 100 (by omega) q)
theorem d_findOf (e : MdA h V) (rh : RH V L) (wf : WfH L) (h0 : V 76 0 = M 2 0) (h1 : V 76 1 = M 2 1) {a : Nat} (ha : a < L 7 6) (hp : V 76 (4 + a) = M 0 a) (hl : V 76 (8 + a) = M 1 a) (wm : WfM L M 30000) : ∃ h' V', m_call m_ev 145 y k [.ref 72, .int (nI a), .int (nI (M 2 2))] ls r h = m_ev y k ls r h' ∧ MdA h' V' ∧ Sk V V' ∧ (∀ j, j < 100 → V' 86 j = spotL L M (L 7 1) (L 7 2) j) ∧ BC (V' 87) ∧ (∀ t b, t < 100 → (((V' 87 t).testBit b = true) ↔ RCa L M (M 0 a) (M 1 a) t b)) ∧ Fr 72 89 h h' := by
  have wf0 := wf
  obtain ⟨w1, w2, w3, w4, w5, w6, w7, w8, w9, w10, w11, w12, w13⟩ := wf0
  obtain ⟨m1, m2, m3, m4, m5⟩ := wm
  obtain ⟨p1, p2⟩ := m5 a ha
  have r2 := rh.2.1
  have r3 := rh.2.2.1
  obtain ⟨h3, V3, q3, e3, s3, u3, f3⟩ := d_findUps (M := M) (y := 145) (k := 8) (ls := [some (.ref 72), some (.int (nI a)), some (.int (nI (M 2 2)))]) (r := []) e rh wf (n := 99) (by omega) w4 w5 w6 m1 m3 m2 h0 h1
  have rh3 := rh.sx s3 (by omega)
  have hu3 : ∀ j, j < 100 → V3 86 j < L 7 0 := fun j hj => by rw [u3 j (by omega)]; exact spotL_lt wf M _ _ _
  have hh3 : V3 76 0 = M 2 0 := by rw [s3 76 (by omega)]; exact h0
  obtain ⟨h4, V4, c, q4, e4, s4, v4, b4, c4, f4⟩ := d_findCan (y := 145) (k := 22) (ls := [some (.ref 72), some (.int (nI a)), some (.int (nI (M 2 2)))]) (r := []) e3 rh3 wf (by rw [hh3]; exact m1) hu3 (p0 := M 0 a) (left := M 1 a) (by omega) (by omega)
  refine ⟨h4, V4, cl_0 ?_, e4, (s3.sk (by omega)).tr (s4.sk (by omega)), ?_, ?_, ?_, f3.tr f4⟩
  · show m_ev 145 0 [some (.ref 72), some (.int (nI a)), some (.int (nI (M 2 2)))] [] h = _
    have g4 : V3 76 (4 + a) = M 0 a := by rw [s3 76 (by omega)]; exact hp
    have g8 : V3 76 (8 + a) = M 1 a := by rw [s3 76 (by omega)]; exact hl
    simp (disch := omega) only [b145_0, mdF e, Option.bind_some, if_true, r2, r3, q3, b145_8, mdF e3, nI_add, g4, g8, q4, b145_22]
  · intro j hj
    rw [s4 86 (by omega)]
    exact u3 j (by omega)
  · rw [v4]; exact cnK_bc wf b4 99 (Nat.le_refl _)
  · intro t b ht
    rw [v4, hh3]
    exact can_rc wf (fun j hj => upL_sp (u3 j (by omega))) c4 ht
theorem top0_loop (e : MdA h V) (hb : BC (V 87)) : ∀ (d i : Nat), i + d = 100 → m_ev 144 2 [some (.ref 72), some (.int (-1)), some (.int (nI i))] [] h = some (some (.int (nO (ffL (fun t => (V 87 t).testBit 0) d i))), h) := by
  have n1 : ¬ nI 1 = nI 0 := by decide
  have n2 : (-1 : Int32) < nI 0 := by decide
  intro d
  induction d with
  | zero =>
    intro i hi
    obtain rfl : i = 100 := by omega
    rw [b144_2]
    simp (disch := omega) only [nI_ltI, show 99 < 100 by omega, if_true, b144_23, ffL, nO]
  | succ d ih =>
    intro i hi
    have hni : ¬ 99 < i := by omega
    have hbi := hb i (by omega)
    rw [b144_2]
    simp (disch := omega) only [nI_ltI, hni, if_false, b144_5, mdF e, Option.bind_some, d_has, b144_11]
    cases hc : (V 87 i).testBit 0 with
    | true => simp only [b01_t, n1, if_false, b144_12, n2, if_true, b144_19, ffL, hc, nO]
    | false => simp (disch := omega) only [b01_f, if_true, b144_21, nI_add, ih (i + 1) (by omega), ffL, hc, Bool.false_eq_true, if_false]
theorem d_topBy0 (e : MdA h V) (hb : BC (V 87)) : m_call m_ev 144 y k [.ref 72, .int (-1)] ls r h = m_ev y k ls (.int (nO (ffL (fun t => (V 87 t).testBit 0) 100 0)) :: r) h := by
  refine cl_v ?_
  show m_ev 144 0 [some (.ref 72), some (.int (-1)), none] [] h = _
  rw [b144_0]
  exact top0_loop e hb 100 0 rfl
theorem topW_loop (e : MdA h V) (rh : RH V L) (wf : WfH L) (hb : BC (V 87)) (hu : ∀ j, j < 100 → V 86 j < L 7 0) {w : Nat} (hw : w ≤ 3) : ∀ (d i : Nat), i + d = 100 → m_ev 144 2 [some (.ref 72), some (.int (nI w)), some (.int (nI i))] [] h = some (some (.int (nO (ffL (fun t => (V 87 t).testBit 0 && (L 0 (V 86 t) == w)) d i))), h) := by
  have n1 : ¬ nI 1 = nI 0 := by decide
  have n2 : ¬ nI w < nI 0 := by rw [nI_ltI (by omega) (by omega)]; omega
  have w2 := wf.2.1
  have w3 := wf.2.2.1
  have r73 := rh.2.2.2.2.2.2.2.1
  intro d
  induction d with
  | zero =>
    intro i hi
    obtain rfl : i = 100 := by omega
    rw [b144_2]
    simp (disch := omega) only [nI_ltI, show 99 < 100 by omega, if_true, b144_23, ffL, nO]
  | succ d ih =>
    intro i hi
    have hni : ¬ 99 < i := by omega
    have hbi := hb i (by omega)
    have hui := hu i (by omega)
    have h4 := w3 _ hui
    have h7 := r73 _ hui
    rw [b144_2]
    simp (disch := omega) only [nI_ltI, hni, if_false, b144_5, mdF e, Option.bind_some, d_has, b144_11]
    cases hc : (V 87 i).testBit 0 with
    | true =>
      simp (disch := omega) only [b01_t, n1, if_false, b144_12, n2, mdF e, if_true, b144_14, d_wordBy e (show i < 577 by omega) (show V 86 i < 12 by omega), h7, b144_17, nI_eq, b144_19, b144_21, nI_add, ih (i + 1) (by omega), ffL, hc, Bool.true_and, beq_iff_eq]
      by_cases hw2 : L 0 (V 86 i) = w
      · rw [if_pos hw2, if_pos hw2]; rfl
      · rw [if_neg hw2, if_neg hw2]
    | false => simp (disch := omega) only [b01_f, if_true, b144_21, nI_add, ih (i + 1) (by omega), ffL, hc, Bool.false_and, Bool.false_eq_true, if_false]
theorem d_topByW (e : MdA h V) (rh : RH V L) (wf : WfH L) (hb : BC (V 87)) (hu : ∀ j, j < 100 → V 86 j < L 7 0) {w : Nat} (hw : w ≤ 3) : m_call m_ev 144 y k [.ref 72, .int (nI w)] ls r h = m_ev y k ls (.int (nO (ffL (fun t => (V 87 t).testBit 0 && (L 0 (V 86 t) == w)) 100 0)) :: r) h := by
  refine cl_v ?_
  show m_ev 144 0 [some (.ref 72), some (.int (nI w)), none] [] h = _
  rw [b144_0]
  exact topW_loop e rh wf hb hu hw 100 0 rfl
/-- what the bits say is TOP -/
theorem top_rc (wf : WfH L) (wm : WfM L M 30000) {a : Nat} (ha : a < L 7 6) {c : Nat → Nat} (hc : ∀ t b, t < 100 → (((c t).testBit b = true) ↔ RCa L M (M 0 a) (M 1 a) t b)) : ffL (fun t => (c t).testBit 0) 100 0 = topF L M a := by
  obtain ⟨p1, p2⟩ := wm.2.2.2.2 a ha
  unfold topF
  exact ffL_cg 100 0 (fun j _ hj => bo_eq (hc j 0 (by omega)) (tpB_bit wf p1 (by omega) (by omega)))
theorem rea_rc (wf : WfH L) (wm : WfM L M 30000) {a w : Nat} (ha : a < L 7 6) {c u : Nat → Nat} (hc : ∀ t b, t < 100 → (((c t).testBit b = true) ↔ RCa L M (M 0 a) (M 1 a) t b)) (hu : ∀ j, j < 100 → u j = spotL L M (L 7 1) (L 7 2) j) : ffL (fun t => (c t).testBit 0 && (L 0 (u t) == w)) 100 0 = reaF L M a w := by
  rw [ffL_and 100 0 (fun j _ hj q => (hc (j + 1) 0 (by omega)).2 (rcF_wait wf (by omega) ((hc j 0 (by omega)).1 q))), top_rc wf wm ha hc]
  unfold reaF
  cases ht : topF L M a with
  | none => rfl
  | some t =>
    have htl := (ffL_lt _ _ _ ht).2.1
    show ffL _ (0 + 100 - t) t = ffL _ (100 - t) t
    rw [show 0 + 100 - t = 100 - t by omega]
    exact ffL_cg _ _ (fun j _ hj => by rw [upL_sp (hu j (by omega))])
theorem e_top_bad (e : MdA h V) (rh : RH V L) (wf : WfH L) {x : Int32} (hx : x < nI 0 ∨ nI (L 7 6) ≤ x) : AM 146 [.ref 72, .int x] h (-1) h := by
  refine ⟨?_, Fr.rf _ _ _⟩
  have r8 := rh.2.2.2.2.2.2.1
  have w12 := wf.2.2.2.2.2.2.2.2.2.2.2.1
  show m_ev 146 0 [some (.ref 72), some (.int x)] [] h = _
  simp only [b146_0, mdF e, if_true, d_isAsker0 e (by omega) (by rw [r8]; exact hx), b146_3, b146_4]
theorem e_top (e : MdA h V) (rh : RH V L) (st : StV (V 76) 0 L M) (wf : WfH L) (wm : WfM L M 30000) {a : Nat} (ha : a < L 7 6) : ∃ h' V', AM 146 [.ref 72, .int (nI a)] h (nO (topF L M a)) h' ∧ MdA h' V' ∧ Sk V V' := by
  obtain ⟨s0, s1, s2, s3, s4, s8⟩ := stF st
  have r8 := rh.2.2.2.2.2.2.1
  have w12 := wf.2.2.2.2.2.2.2.2.2.2.2.1
  have n1 : ¬ nI 1 = nI 0 := by decide
  obtain ⟨h3, V3, q3, e3, k3, u3, b3, c3, f3⟩ := d_findOf (M := M) (y := 146) (k := 13) (ls := [some (.ref 72), some (.int (nI a))]) (r := []) e rh wf s0 s1 ha (s4 a ha) (s8 a ha) wm
  refine ⟨h3, V3, ⟨?_, f3⟩, e3, k3⟩
  show m_ev 146 0 [some (.ref 72), some (.int (nI a))] [] h = _
  simp (disch := omega) only [b146_0, mdF e, if_true, d_isAsker e (show V 0 8 < 2 ^ 31 by omega) (show a < V 0 8 by omega), b146_3, n1, if_false, b146_6, Option.bind_some, s2, q3, b146_13, mdF e3, d_topBy0 e3 b3, b146_16, top_rc wf wm ha c3]
theorem e_read_bad (e : MdA h V) (rh : RH V L) (wf : WfH L) {x x' : Int32} (hx : x < nI 0 ∨ nI (L 7 6) ≤ x) : AM 147 [.ref 72, .int x, .int x'] h (-1) h := by
  refine ⟨?_, Fr.rf _ _ _⟩
  have r8 := rh.2.2.2.2.2.2.1
  have w12 := wf.2.2.2.2.2.2.2.2.2.2.2.1
  show m_ev 147 0 [some (.ref 72), some (.int x), some (.int x')] [] h = _
  simp only [b147_0, mdF e, if_true, d_isAsker0 e (by omega) (by rw [r8]; exact hx), b147_3, b147_7]
theorem e_read_bad2 (e : MdA h V) (rh : RH V L) (wf : WfH L) {a : Nat} (ha : a < L 7 6) {x' : Int32} (hx : x' < nI 0 ∨ nI 4 ≤ x') : AM 147 [.ref 72, .int (nI a), .int x'] h (-1) h := by
  refine ⟨?_, Fr.rf _ _ _⟩
  have r8 := rh.2.2.2.2.2.2.1
  have w12 := wf.2.2.2.2.2.2.2.2.2.2.2.1
  have n1 : ¬ nI 1 = nI 0 := by decide
  show m_ev 147 0 [some (.ref 72), some (.int (nI a)), some (.int x')] [] h = _
  simp only [b147_0, mdF e, if_true, d_isAsker e (show V 0 8 < 2 ^ 31 by omega) (show a < V 0 8 by omega), b147_3, n1, if_false, b147_4, d_isWord0 hx, b147_6, b147_7]
theorem e_read (e : MdA h V) (rh : RH V L) (st : StV (V 76) 0 L M) (wf : WfH L) (wm : WfM L M 30000) {a w : Nat} (ha : a < L 7 6) (hw : w ≤ 3) : ∃ h' V', AM 147 [.ref 72, .int (nI a), .int (nI w)] h (nO (reaF L M a w)) h' ∧ MdA h' V' ∧ Sk V V' := by
  obtain ⟨s0, s1, s2, s3, s4, s8⟩ := stF st
  have r8 := rh.2.2.2.2.2.2.1
  have w12 := wf.2.2.2.2.2.2.2.2.2.2.2.1
  have n1 : ¬ nI 1 = nI 0 := by decide
  obtain ⟨h3, V3, q3, e3, k3, u3, b3, c3, f3⟩ := d_findOf (M := M) (y := 147) (k := 16) (ls := [some (.ref 72), some (.int (nI a)), some (.int (nI w))]) (r := []) e rh wf s0 s1 ha (s4 a ha) (s8 a ha) wm
  have hu3 : ∀ j, j < 100 → V3 86 j < L 7 0 := fun j hj => by rw [u3 j hj]; exact spotL_lt wf M _ _ _
  refine ⟨h3, V3, ⟨?_, f3⟩, e3, k3⟩
  show m_ev 147 0 [some (.ref 72), some (.int (nI a)), some (.int (nI w))] [] h = _
  simp (disch := omega) only [b147_0, mdF e, if_true, d_isAsker e (show V 0 8 < 2 ^ 31 by omega) (show a < V 0 8 by omega), b147_3, n1, if_false, b147_4, d_isWord hw, b147_6, b147_9, Option.bind_some, s2, q3, b147_16, mdF e3, d_topByW e3 (rh.sk k3) wf b3 hu3 hw, b147_19, rea_rc wf wm ha c3 u3]
-- both
theorem both_loop {x1 x2 x4 x5 x6 : Int32} (e : MdA h V) (rh : RH V L) (wf : WfH L) (hu : ∀ j, j < 100 → V 86 j < L 7 0) {w : Nat} (hw : w ≤ 3) : ∀ (d i : Nat), i + d = 100 → m_ev 148 53 [some (.ref 72), some (.int x1), some (.int x2), some (.int (nI w)), some (.int x4), some (.int x5), some (.int x6), some (.int (nI i))] [] h = some (some (.int (nO (ffL (fun t => L 0 (V 86 t) == w) d i))), h) := by
  have w2 := wf.2.1
  have w3 := wf.2.2.1
  have r73 := rh.2.2.2.2.2.2.2.1
  intro d
  induction d with
  | zero =>
    intro i hi
    obtain rfl : i = 100 := by omega
    rw [b148_53]
    simp (disch := omega) only [nI_ltI, show 99 < 100 by omega, if_true, b148_65, ffL, nO]
  | succ d ih =>
    intro i hi
    have hni : ¬ 99 < i := by omega
    have hui := hu i (by omega)
    have h4 := w3 _ hui
    have h7 := r73 _ hui
    rw [b148_53]
    simp (disch := omega) only [nI_ltI, hni, if_false, b148_56, mdF e, if_true, d_wordBy e (show i < 577 by omega) (show V 86 i < 12 by omega), h7, b148_59, nI_eq, b148_61, b148_63, nI_add, ih (i + 1) (by omega), ffL, beq_iff_eq]
    by_cases hw2 : L 0 (V 86 i) = w
    · rw [if_pos hw2, if_pos hw2]; rfl
    · rw [if_neg hw2, if_neg hw2]
theorem e_both_bad (e : MdA h V) (rh : RH V L) (wf : WfH L) {x x' x'' : Int32} (hx : x < nI 0 ∨ nI (L 7 6) ≤ x) : AM 148 [.ref 72, .int x, .int x', .int x''] h (-1) h := by
  refine ⟨?_, Fr.rf _ _ _⟩
  have r8 := rh.2.2.2.2.2.2.1
  have w12 := wf.2.2.2.2.2.2.2.2.2.2.2.1
  show m_ev 148 0 [some (.ref 72), some (.int x), some (.int x'), some (.int x''), none, none, none, none] [] h = _
  simp only [b148_0, mdF e, if_true, d_isAsker0 e (by omega) (by rw [r8]; exact hx), b148_3, b148_14]
theorem e_both_bad2 (e : MdA h V) (rh : RH V L) (wf : WfH L) {a : Nat} (ha : a < L 7 6) {x' x'' : Int32} (hx : x' < nI 0 ∨ nI (L 7 6) ≤ x') : AM 148 [.ref 72, .int (nI a), .int x', .int x''] h (-1) h := by
  refine ⟨?_, Fr.rf _ _ _⟩
  have r8 := rh.2.2.2.2.2.2.1
  have w12 := wf.2.2.2.2.2.2.2.2.2.2.2.1
  have n1 : ¬ nI 1 = nI 0 := by decide
  show m_ev 148 0 [some (.ref 72), some (.int (nI a)), some (.int x'), some (.int x''), none, none, none, none] [] h = _
  simp only [b148_0, mdF e, if_true, d_isAsker e (show V 0 8 < 2 ^ 31 by omega) (show a < V 0 8 by omega), d_isAsker0 e (by omega) (show x' < nI 0 ∨ nI (V 0 8) ≤ x' by rw [r8]; exact hx), b148_3, n1, if_false, b148_4, b148_7, b148_14]
theorem e_both_bad3 (e : MdA h V) (rh : RH V L) (wf : WfH L) {a : Nat} (ha : a < L 7 6) {x'' : Int32} : AM 148 [.ref 72, .int (nI a), .int (nI a), .int x''] h (-1) h := by
  refine ⟨?_, Fr.rf _ _ _⟩
  have r8 := rh.2.2.2.2.2.2.1
  have w12 := wf.2.2.2.2.2.2.2.2.2.2.2.1
  have n1 : ¬ nI 1 = nI 0 := by decide
  show m_ev 148 0 [some (.ref 72), some (.int (nI a)), some (.int (nI a)), some (.int x''), none, none, none, none] [] h = _
  simp only [b148_0, mdF e, if_true, d_isAsker e (show V 0 8 < 2 ^ 31 by omega) (show a < V 0 8 by omega), b148_3, n1, if_false, b148_4, b148_7, b148_8, b148_14]
theorem e_both_bad4 (e : MdA h V) (rh : RH V L) (wf : WfH L) {a b : Nat} (ha : a < L 7 6) (hb : b < L 7 6) (hab : a ≠ b) {x'' : Int32} (hx : x'' < nI 0 ∨ nI 4 ≤ x'') : AM 148 [.ref 72, .int (nI a), .int (nI b), .int x''] h (-1) h := by
  refine ⟨?_, Fr.rf _ _ _⟩
  have r8 := rh.2.2.2.2.2.2.1
  have w12 := wf.2.2.2.2.2.2.2.2.2.2.2.1
  have n1 : ¬ nI 1 = nI 0 := by decide
  have n2 : ¬ nI a = nI b := by rw [nI_eq (by omega) (by omega)]; exact hab
  show m_ev 148 0 [some (.ref 72), some (.int (nI a)), some (.int (nI b)), some (.int x''), none, none, none, none] [] h = _
  simp only [b148_0, mdF e, if_true, d_isAsker e (show V 0 8 < 2 ^ 31 by omega) (show a < V 0 8 by omega), d_isAsker e (show V 0 8 < 2 ^ 31 by omega) (show b < V 0 8 by omega), b148_3, n1, if_false, b148_4, b148_7, b148_8, n2, b148_11, d_isWord0 hx, b148_13, b148_14]
theorem e_both (e : MdA h V) (rh : RH V L) (st : StV (V 76) 0 L M) (wf : WfH L) (wm : WfM L M 30000) {a b w : Nat} (ha : a < L 7 6) (hb : b < L 7 6) (hab : a ≠ b) (hw : w ≤ 3) : ∃ h' V', AM 148 [.ref 72, .int (nI a), .int (nI b), .int (nI w)] h (nO (botF L M a b w)) h' ∧ MdA h' V' ∧ Sk V V' := by
  have st0 := st
  obtain ⟨s0, s1, s2, s3, s4, s8⟩ := stF st0
  have r8 := rh.2.2.2.2.2.2.1
  have w12 := wf.2.2.2.2.2.2.2.2.2.2.2.1
  have n1 : ¬ nI 1 = nI 0 := by decide
  have n2 : ¬ nI a = nI b := by rw [nI_eq (by omega) (by omega)]; exact hab
  obtain ⟨h3, V3, q3, e3, k3, u3, b3, c3, f3⟩ := d_findOf (M := M) (y := 148) (k := 23) (ls := [some (.ref 72), some (.int (nI a)), some (.int (nI b)), some (.int (nI w)), none, none, none, none]) (r := []) e rh wf s0 s1 ha (s4 a ha) (s8 a ha) wm
  have k76 := k3 76 (by omega)
  obtain ⟨h4, V4, q4, e4, k4, u4, b4, c4, f4⟩ := d_findOf (M := M) (y := 148) (k := 34) (ls := [some (.ref 72), some (.int (nI a)), some (.int (nI b)), some (.int (nI w)), some (.int (nO (topF L M a))), none, none, none]) (r := []) e3 (rh.sk k3) wf (by rw [k76]; exact s0) (by rw [k76]; exact s1) hb (by rw [k76]; exact s4 b hb) (by rw [k76]; exact s8 b hb) wm
  have hu4 : ∀ j, j < 100 → V4 86 j < L 7 0 := fun j hj => by rw [u4 j hj]; exact spotL_lt wf M _ _ _
  have s2' : V3 76 2 = M 2 2 := by rw [k76]; exact s2
  refine ⟨h4, V4, ⟨?_, f3.tr f4⟩, e4, k3.tr k4⟩
  show m_ev 148 0 [some (.ref 72), some (.int (nI a)), some (.int (nI b)), some (.int (nI w)), none, none, none, none] [] h = _
  simp (disch := omega) only [b148_0, mdF e, if_true, d_isAsker e (show V 0 8 < 2 ^ 31 by omega) (show a < V 0 8 by omega), d_isAsker e (show V 0 8 < 2 ^ 31 by omega) (show b < V 0 8 by omega), b148_3, n1, if_false, b148_4, b148_7, b148_8, n2, b148_11, d_isWord hw, b148_13, b148_16, Option.bind_some, s2, q3, b148_23, mdF e3, d_topBy0 e3 b3, top_rc wf wm ha c3, b148_26, s2', q4, b148_34, mdF e4, d_topBy0 e4 b4, top_rc wf wm hb c4, b148_37]
  have big : ffL (fun t => L 0 (V4 86 t) == w) 0 100 = none := rfl
  have l100 := fun x4 x5 x6 => both_loop (x1 := nI a) (x2 := nI b) (x4 := x4) (x5 := x5) (x6 := x6) e4 (rh.sk (k3.tr k4)) wf hu4 hw 0 100 rfl
  unfold botF
  cases hta : topF L M a with
  | none =>
    cases htb : topF L M b with
    | none =>
      rw [if_pos (show nO none ≤ nO none from Int32.le_refl _), b148_43, if_pos (show nO none < nI 0 from by decide), b148_49, l100, big]
    | some u =>
      have hul := (ffL_lt _ _ _ htb).2.1
      have : nO none ≤ nO (some u) := Int32.le_of_lt (neg4_lt (by omega))
      rw [if_pos this, b148_43, if_pos (show nO none < nI 0 from by decide), b148_49, l100, big]
  | some t =>
    have htl := (ffL_lt _ _ _ hta).2.1
    have ht0 : ¬ nI t < nI 0 := by rw [nI_ltI (by omega) (by omega)]; omega
    cases htb : topF L M b with
    | none =>
      have h1 : ¬ nO (some t) ≤ nO none := by
        intro q
        exact Int32.lt_irrefl (Int32.lt_of_lt_of_le (neg4_lt (show t < 2 ^ 31 by omega)) q)
      rw [if_neg h1, b148_41, if_neg (show ¬ nO (some t) < nI 0 from ht0), b148_47, if_neg (show ¬ nI 0 ≤ nO none from by decide), b148_49, l100, big]
    | some u =>
      have hul := (ffL_lt _ _ _ htb).2.1
      have hu0 : nI 0 ≤ nI u := nI_le (by omega) (by omega)
      have hcg : ∀ m, m < 100 → ffL (fun t => L 0 (V4 86 t) == w) (100 - m) m = ffL (fun v => upL L M v == w) (100 - m) m := fun m hm => ffL_cg _ _ (fun j _ hj => by rw [upL_sp (u4 j (by omega))])
      have ll : ∀ (x4 x5 x6 : Int32) (m : Nat), m < 100 → m_ev 148 53 [some (.ref 72), some (.int (nI a)), some (.int (nI b)), some (.int (nI w)), some (.int x4), some (.int x5), some (.int x6), some (.int (nO (some m)))] [] h4 = some (some (.int (nO (ffL (fun t => L 0 (V4 86 t) == w) (100 - m) m))), h4) := fun x4 x5 x6 m hm => both_loop e4 (rh.sk (k3.tr k4)) wf hu4 hw (100 - m) m (by omega)
      have ht0' : ¬ nO (some t) < nI 0 := ht0
      have hu0' : nI 0 ≤ nO (some u) := hu0
      by_cases htu : t ≤ u
      · have hle : nO (some t) ≤ nO (some u) := nI_le htu (by omega)
        rw [if_pos hle, b148_43, if_neg ht0', b148_47, if_pos hu0', b148_51, ll _ _ _ u (by omega), hcg u (by omega)]
        show _ = some (some (Value.int (nO (ffL (fun v => upL L M v == w) (100 - max t u) (max t u)))), h4)
        rw [show max t u = u by omega]
      · have hle : ¬ nO (some t) ≤ nO (some u) := nI_ge (show u < t by omega) (by omega)
        rw [if_neg hle, b148_41, if_neg ht0', b148_47, if_pos hu0', b148_51, ll _ _ _ t (by omega), hcg t (by omega)]
        show _ = some (some (Value.int (nO (ffL (fun v => upL L M v == w) (100 - max t u) (max t u)))), h4)
        rw [show max t u = t by omega]
-- hold
theorem uL2_self (M : LT) : uL M 2 2 (M 2 2) = M := by
  funext r i
  unfold uL
  by_cases hr : r = 2
  · subst hr
    by_cases hi : i = 2
    · subst hi; simp
    · simp [hi]
  · simp [hr]
theorem wm_foot (wm : WfM L M 30000) {n : Nat} (hn : n ≤ 12) : WfM L (uL M 2 2 n) 30000 := by
  obtain ⟨m1, m2, m3, m4, m5⟩ := wm
  exact ⟨by simpa [uL] using m1, by simpa [uL] using m2, by simp [uL]; omega, by simpa [uL] using m4, fun b hb => by simpa [uL] using m5 b hb⟩
/-- behind findOf: does he read what he wants? -/
theorem hold_step (e : MdA h V) (rh : RH V L) (st : StV (V 76) 0 L M) (wf : WfH L) (wm : WfM L M 30000) {a n g : Nat} (ha : a < L 7 6) (hg : g ≤ 12) (d3 : Option Value) : ∃ h' V', (∃ x3, m_call m_ev 145 149 29 [.ref 72, .int (nI a), .int (nI g)] [some (.ref 72), some (.int (nI a)), some (.int (nI n)), d3] [] h = (if wisF L (uL M 2 2 g) a = true then m_ev 149 43 [some (.ref 72), some (.int (nI a)), some (.int (nI n)), some (.int x3)] [] h' else m_ev 149 45 [some (.ref 72), some (.int (nI a)), some (.int (nI n)), some (.int x3)] [] h')) ∧ MdA h' V' ∧ Sk V V' ∧ Fr 72 89 h h' := by
  obtain ⟨s0, s1, s2, s3, s4, s8⟩ := stF st
  have w2 := wf.2.1
  have w3 := wf.2.2.1
  have w12 := wf.2.2.2.2.2.2.2.2.2.2.2.1
  have w13 := (wf.2.2.2.2.2.2.2.2.2.2.2.2 a ha).2
  have wm2 := wm_foot wm hg
  have g22 : (uL M 2 2 g) 2 2 = g := uL_s _ _ _ _
  obtain ⟨h3, V3, q3, e3, k3, u3, b3, c3, f3⟩ := d_findOf (M := uL M 2 2 g) (y := 149) (k := 29) (ls := [some (.ref 72), some (.int (nI a)), some (.int (nI n)), d3]) (r := []) e rh wf (by rw [uL_k _ _ _ (by omega)]; exact s0) (by rw [uL_k _ _ _ (by omega)]; exact s1) ha (by rw [uL_r _ _ _ _ (by omega)]; exact s4 a ha) (by rw [uL_r _ _ _ _ (by omega)]; exact s8 a ha) wm2
  rw [g22] at q3
  have hu3 : ∀ j, j < 100 → V3 86 j < L 7 0 := fun j hj => by rw [u3 j hj]; exact spotL_lt wf _ _ _ _
  have rh3 := rh.sk k3
  have r73 := rh3.2.2.2.2.2.2.2.1
  have r75 := rh3.2.2.2.2.2.2.2.2.2 a ha
  refine ⟨h3, V3, ⟨nO (topF L (uL M 2 2 g) a), ?_⟩, e3, k3, f3⟩
  rw [q3]
  simp only [b149_29, mdF e3, if_true, d_topBy0 e3 b3, top_rc wf wm2 ha c3, b149_32]
  unfold wisF
  cases ht : topF L (uL M 2 2 g) a with
  | none => rw [if_pos (show nO none < nI 0 from by decide)]; simp
  | some t =>
    have htl := (ffL_lt _ _ _ ht).2.1
    have hut := hu3 t (by omega)
    have h4 := w3 _ hut
    have hul4 := upL_lt wf (uL M 2 2 g) t
    rw [if_neg (show ¬ nO (some t) < nI 0 from by show ¬ nI t < nI 0; rw [nI_ltI (by omega) (by omega)]; omega)]
    simp (disch := omega) only [b149_35, nO, mdF e3, if_true, d_wordBy e3 (show t < 577 by omega) (show V3 86 t < 12 by omega), b149_38, Option.bind_some, r73 _ hut, r75, nI_eq, upL_sp (u3 t (by omega)), beq_iff_eq]
theorem hold_lp (wf : WfH L) (wm : WfM L M 30000) {a : Nat} (ha : a < L 7 6) (hu : M 2 3 = 0) : ∀ (d n : Nat), n + d = 13 → 1 ≤ n → ∀ (h : MH) (V : LT) (d3 : Option Value), MdA h V → RH V L → StV (V 76) 0 L M → ∃ h' V', m_ev 149 8 [some (.ref 72), some (.int (nI a)), some (.int (nI n)), d3] [] h = some (some (.int (nO (ffL (fun n => wisF L (uL M 2 2 n) a) d n))), h') ∧ MdA h' V' ∧ Sk V V' ∧ Fr 72 89 h h' := by
  intro d
  induction d with
  | zero =>
    intro n hn h1 h V d3 e rh st
    obtain rfl : n = 13 := by omega
    refine ⟨h, V, ?_, e, Sk.rf _, Fr.rf _ _ _⟩
    rw [b149_8]
    simp (disch := omega) only [nI_ltI, show 12 < 13 by omega, if_true, b149_47, ffL, nO]
  | succ d ih =>
    intro n hn h1 h V d3 e rh st
    obtain ⟨s0, s1, s2, s3, s4, s8⟩ := stF st
    obtain ⟨h3, V3, ⟨x3, q3⟩, e3, k3, f3⟩ := hold_step (n := n) e rh st wf wm ha (show n ≤ 12 by omega) d3
    have hn12 : ¬ 12 < n := by omega
    have hn0 : ¬ n = 0 := by omega
    cases hw : wisF L (uL M 2 2 n) a with
    | true =>
      refine ⟨h3, V3, ?_, e3, k3, f3⟩
      rw [b149_8]
      simp (disch := omega) only [nI_ltI, hn12, if_false, b149_11, nI_eq, hn0, b149_13, mdF e, Option.bind_some, s3, hu, if_true, b149_18, b149_27, q3, hw, b149_43, ffL, nO]
    | false =>
      obtain ⟨h4, V4, q4, e4, k4, f4⟩ := ih (n + 1) (by omega) (by omega) h3 V3 (some (.int x3)) e3 (rh.sk k3) (by rw [k3 76 (by omega)]; exact st)
      refine ⟨h4, V4, ?_, e4, k3.tr k4, f3.tr f4⟩
      rw [b149_8]
      simp (disch := omega) only [nI_ltI, hn12, if_false, b149_11, nI_eq, hn0, b149_13, mdF e, Option.bind_some, s3, hu, if_true, b149_18, b149_27, q3, hw, Bool.false_eq_true, b149_45, nI_add, ffL]
      exact q4
theorem e_hold_bad (e : MdA h V) (rh : RH V L) (wf : WfH L) {x : Int32} (hx : x < nI 0 ∨ nI (L 7 6) ≤ x) : AM 149 [.ref 72, .int x] h (-1) h := by
  refine ⟨?_, Fr.rf _ _ _⟩
  have r8 := rh.2.2.2.2.2.2.1
  have w12 := wf.2.2.2.2.2.2.2.2.2.2.2.1
  show m_ev 149 0 [some (.ref 72), some (.int x), none, none] [] h = _
  simp only [b149_0, mdF e, if_true, d_isAsker0 e (by omega) (by rw [r8]; exact hx), b149_3, b149_4]
theorem e_hold (e : MdA h V) (rh : RH V L) (st : StV (V 76) 0 L M) (wf : WfH L) (wm : WfM L M 30000) {a : Nat} (ha : a < L 7 6) : ∃ h' V', AM 149 [.ref 72, .int (nI a)] h (nO (holF L M a)) h' ∧ MdA h' V' ∧ Sk V V' := by
  obtain ⟨s0, s1, s2, s3, s4, s8⟩ := stF st
  have r8 := rh.2.2.2.2.2.2.1
  have w12 := wf.2.2.2.2.2.2.2.2.2.2.2.1
  have m4 := wm.2.2.2.1
  have n1 : ¬ nI 1 = nI 0 := by decide
  obtain ⟨h3, V3, ⟨x3, q3⟩, e3, k3, f3⟩ := hold_step (n := 0) (g := M 2 2) e rh st wf wm ha wm.2.2.1 none
  rw [uL2_self] at q3
  have pre : m_ev 149 0 [some (.ref 72), some (.int (nI a)), none, none] [] h = m_call m_ev 145 149 29 [.ref 72, .int (nI a), .int (nI (M 2 2))] [some (.ref 72), some (.int (nI a)), some (.int (nI 0)), none] [] h := by
    simp (disch := omega) only [b149_0, mdF e, if_true, d_isAsker e (show V 0 8 < 2 ^ 31 by omega) (show a < V 0 8 by omega), b149_3, n1, if_false, b149_6, b149_8, nI_ltI, show ¬ 12 < 0 by omega, b149_11, b149_18, b149_22, Option.bind_some, s2]
  unfold holF
  cases hw : wisF L M a with
  | true =>
    refine ⟨h3, V3, ⟨?_, f3⟩, e3, k3⟩
    show m_ev 149 0 [some (.ref 72), some (.int (nI a)), none, none] [] h = _
    rw [pre, q3, if_pos hw, b149_43]; rfl
  | false =>
    have k76 := k3 76 (by omega)
    by_cases hu : M 2 3 = 0
    · obtain ⟨h4, V4, q4, e4, k4, f4⟩ := hold_lp wf wm ha hu 12 1 rfl (by omega) h3 V3 (some (.int x3)) e3 (rh.sk k3) (by rw [k76]; exact st)
      refine ⟨h4, V4, ⟨?_, f3.tr f4⟩, e4, k3.tr k4⟩
      show m_ev 149 0 [some (.ref 72), some (.int (nI a)), none, none] [] h = _
      rw [pre, q3, if_neg (by rw [hw]; simp), b149_45, nI_add, q4, if_neg (by simp), if_pos hu]
    · refine ⟨h3, V3, ⟨?_, f3⟩, e3, k3⟩
      show m_ev 149 0 [some (.ref 72), some (.int (nI a)), none, none] [] h = _
      have s3' : V3 76 3 = M 2 3 := by rw [k76]; exact s3
      rw [pre, q3, if_neg (by rw [hw]; simp), b149_45, nI_add, if_neg (by simp), if_neg hu, b149_8]
      simp (disch := omega) only [nI_ltI, show ¬ 12 < 0 + 1 by omega, if_false, b149_11, nI_eq, show ¬ 0 + 1 = 0 by omega, b149_13, mdF e3, Option.bind_some, s3', hu, b149_47, nO]
end
