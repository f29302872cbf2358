/-! the model: signs and numbers of a text -/
def mlt (T : LT) (i : Nat) : Int32 := if i < T 1 0 then nI (T 0 i) else -1
theorem mlt_c {T : LT} {i : Nat} (h : i < T 1 0) : mlt T i = nI (ltT T i) := by unfold mlt ltT; rw [if_pos h, if_pos h]
theorem mlt_n {T : LT} {i : Nat} (h : ¬ i < T 1 0) : mlt T i = -1 ∧ ltT T i = 0 := by unfold mlt ltT; rw [if_neg h, if_neg h]; exact ⟨rfl, rfl⟩
theorem m1_ne {c : Nat} (h : c < 2 ^ 31) : ¬ (-1 : Int32) = nI c := by
  intro e
  have h1 := congrArg Int32.toInt e
  rw [nI_toInt h] at h1
  have h2 : (-1 : Int32).toInt = -1 := by decide
  omega
theorem mlt_eq {T : LT} (wt : WfT T) {i c : Nat} (h0 : 0 < c) (h1 : c < 128) : (mlt T i = nI c) = (ltT T i = c) := by
  by_cases h : i < T 1 0
  · have := ltT_lt wt i
    rw [mlt_c h, nI_eq (by omega) (by omega)]
  · obtain ⟨a, b⟩ := mlt_n h
    rw [a, b]
    apply propext
    constructor
    · intro q; exact absurd q (m1_ne (by omega))
    · intro q; omega
def Sq (V V' : LT) : Prop := (∀ k, k ≠ 19 → V' 0 k = V 0 k) ∧ ∀ r, r ≠ 0 → r ≠ 81 → V' r = V r
theorem Sq.rf (V : LT) : Sq V V := ⟨fun _ _ => rfl, fun _ _ _ => rfl⟩
theorem Sq.tr {V V1 V2 : LT} (a : Sq V V1) (b : Sq V1 V2) : Sq V V2 := ⟨fun k h => (b.1 k h).trans (a.1 k h), fun r h1 h2 => (b.2 r h1 h2).trans (a.2 r h1 h2)⟩
theorem Sq.a (V : LT) (x : Nat) : Sq V (uL V 0 19 x) := ⟨fun _ h => uL_k _ _ _ h, fun _ h _ => uL_row _ _ _ h⟩
theorem Sq.b (V : LT) (i x : Nat) : Sq V (uL V 81 i x) := ⟨fun k _ => by rw [uL_row _ _ _ (by omega)], fun _ _ h => uL_row _ _ _ h⟩
theorem Sq.sp {V V' : LT} (s : Sq V V') : Sp V V' := ⟨fun k h => s.1 k (by omega), fun r h1 h2 => s.2 r (by omega) (by omega)⟩
theorem RT.sp {V V' T : LT} (r : RT V T) (s : Sp V V') : RT V' T := r.f (s.1 18 (by omega)) (s.2 80 (by omega) (by omega))
section
variable {y k : Nat} {ls : ML} {r : List Value} {h : MH} {V L M T S C : LT}
theorem d_letterAt (e : MdA h V) (rt : RT V T) (wt : WfT T) {i : Nat} (hi : i < 2 ^ 31) : m_call m_ev 107 y k [.ref 72, .int (nI i)] ls r h = m_ev y k ls (.int (mlt T i) :: r) h := by
  obtain ⟨t0, t1⟩ := rt
  have w1 := wt.1
  refine cl_v ?_
  show m_ev 107 0 [some (.ref 72), some (.int (nI i))] [] h = _
  by_cases hc : i < T 1 0
  · have := t1 i hc
    simp (disch := omega) only [b107_0, mdF e, Option.bind_some, t0, nI_leI, show ¬ T 1 0 ≤ i by omega, if_false, b107_4, this, mlt, if_pos hc]
  · simp (disch := omega) only [b107_0, mdF e, Option.bind_some, t0, nI_leI, show T 1 0 ≤ i by omega, if_true, b107_9, mlt, if_neg hc]
theorem d_isFigure (wt : WfT T) {i : Nat} : m_call m_ev 108 y k [.int (mlt T i)] ls r h = m_ev y k ls (.int (nI (b01 (isF (ltT T i)))) :: r) h := by
  refine cl_v ?_
  show m_ev 108 0 [some (.int (mlt T i))] [] h = _
  have hb : ∀ b : Bool, (nI (b01 b) = nI 0 ∨ nI (b01 b) = nI 1) := b01_01
  rw [b108_0, d_in_any (by omega) (by omega), b108_4, if_pos (hb _)]
  have : decide (¬ (mlt T i < nI 48 ∨ nI 57 < mlt T i)) = isF (ltT T i) := by
    unfold isF
    have hl := ltT_lt wt i
    by_cases hc : i < T 1 0
    · have e1 : (¬ (mlt T i < nI 48 ∨ nI 57 < mlt T i)) = (48 ≤ ltT T i ∧ ltT T i ≤ 57) := by
        rw [mlt_c hc, nI_ltI (by omega) (by omega), nI_ltI (by omega) (by omega)]
        apply propext; omega
      simp only [e1]
    · obtain ⟨a, b⟩ := mlt_n hc
      rw [b, a]
      decide
  rw [this]
theorem d_wordOf (wt : WfT T) {i : Nat} : m_call m_ev 112 y k [.int (mlt T i)] ls r h = m_ev y k ls (.int (nJ (wiN (ltT T i))) :: r) h := by
  refine cl_v ?_
  show m_ev 112 0 [some (.int (mlt T i))] [] h = _
  simp (disch := omega) only [b112_0, mlt_eq wt, b112_2, b112_4, b112_6, b112_8, b112_10, wiN]
  (repeat' split) <;> first | rfl | (exfalso; omega)
theorem sg_j (i j : Nat) (C : LT) : (sgP i C) 0 j = C 0 j := by
  unfold sgP; split
  · rfl
  · unfold avC; exact uL_r _ _ _ _ (by omega)
def fgV (T : LT) (p : Nat) : Nat := if isF (ltT T (p + 1)) = true then 10 * (ltT T p - 48) + (ltT T (p + 1) - 48) else ltT T p - 48
def fgN (T : LT) (p : Nat) : Nat := if isF (ltT T (p + 1)) = true then p + 2 else p + 1
theorem fg_v (T : LT) (i : Nat) (X : LT) : (fgP T i X) 1 0 = fgN T (X 1 0) ∧ (fgP T i X) 0 i = fgV T (X 1 0) ∧ ∀ j, j ≠ i → (fgP T i X) 0 j = X 0 j := by
  unfold fgP fgN fgV
  by_cases hc : isF (ltT T (X 1 0 + 1)) = true
  · simp only [if_pos hc]
    refine ⟨?_, uL_s _ _ _ _, fun j hj => ?_⟩
    · rw [uC_at, avC_at, uC_at, avC_at]
    · rw [uL_k _ _ _ hj]; unfold avC; rw [uL_r _ _ _ _ (by omega), uL_k _ _ _ hj, uL_r _ _ _ _ (by omega)]
  · simp only [if_neg hc]
    refine ⟨?_, uL_s _ _ _ _, fun j hj => ?_⟩
    · rw [uC_at, avC_at]
    · rw [uL_k _ _ _ hj]; unfold avC; rw [uL_r _ _ _ _ (by omega)]
theorem n_fig (e : MdA h V) (rt : RT V T) (wt : WfT T) {n i p : Nat} (hi : i < 4) (hv : V 0 19 = p) (hp : p < 2 ^ 29) (hF : isF (ltT T p) = true) : ∃ h' V', m_ev 109 13 [some (.ref 72), some (.int (nI n)), some (.int (nI i))] [] h = m_ev 109 62 [some (.ref 72), some (.int (nI n)), some (.int (nI i))] [.int (mlt T (fgN T p))] h' ∧ MdA h' V' ∧ Sq V V' ∧ V' 0 19 = fgN T p ∧ V' 81 i = fgV T p ∧ (∀ j, j ≠ i → V' 81 j = V 81 j) ∧ Fr 72 89 h h' := by
  have h48 := isF_48 hF
  have hc : p < T 1 0 := by
    refine Decidable.byContradiction (fun hn => ?_)
    rw [(mlt_n hn).2] at h48
    omega
  obtain ⟨h3, q3, e3, f3⟩ := mdW81 e (ltT T p - 48) (k := i) (by omega)
  obtain ⟨h4, q4, e4, f4⟩ := mdW0 e3 19 (p + 1) (by simp)
  have s4 := (Sq.b V i (ltT T p - 48)).tr (Sq.a _ (p + 1))
  have v3 : (uL V 81 i (ltT T p - 48)) 0 19 = p := by rw [uL_row _ _ _ (by omega)]; exact hv
  have v4 : (uL (uL V 81 i (ltT T p - 48)) 0 19 (p + 1)) 0 19 = p + 1 := uL_s _ _ _ _
  have rt4 := rt.sp s4.sp
  have w4 : (uL (uL V 81 i (ltT T p - 48)) 0 19 (p + 1)) 81 i = ltT T p - 48 := by rw [uL_row _ _ _ (by omega), uL_s]
  have o4 : ∀ j, j ≠ i → (uL (uL V 81 i (ltT T p - 48)) 0 19 (p + 1)) 81 j = V 81 j := fun j hj => by rw [uL_row _ _ _ (by omega), uL_k _ _ _ hj]
  have n1 : ¬ nI 1 = nI 0 := by decide
  have pre : m_ev 109 13 [some (.ref 72), some (.int (nI n)), some (.int (nI i))] [] h = m_ev 109 34 [some (.ref 72), some (.int (nI n)), some (.int (nI i))] [.int (nI (b01 (isF (ltT T (p + 1)))))] h4 := by
    simp (disch := omega) only [b109_13, mdF e, Option.bind_some, hv, if_true, d_letterAt e rt wt (show p < 2 ^ 31 by omega), mlt_c hc, b109_20, nI_subN, q3, mdF e3, v3, nI_add, q4, mdF e4, v4, d_letterAt e4 rt4 wt (show p + 1 < 2 ^ 31 by omega), b109_33, d_isFigure wt]
  unfold fgN fgV
  by_cases hF2 : isF (ltT T (p + 1)) = true
  · have h482 := isF_48 hF2
    have hc2 : p + 1 < T 1 0 := by
      refine Decidable.byContradiction (fun hn => ?_)
      rw [(mlt_n hn).2] at h482
      omega
    obtain ⟨h5, q5, e5, f5⟩ := mdW81 e4 (10 * (ltT T p - 48) + ltT T (p + 1) - 48) (k := i) (by omega)
    obtain ⟨h6, q6, e6, f6⟩ := mdW0 e5 19 (p + 2) (by simp)
    have s6 := (Sq.b (uL (uL V 81 i (ltT T p - 48)) 0 19 (p + 1)) i (10 * (ltT T p - 48) + ltT T (p + 1) - 48)).tr (Sq.a _ (p + 2))
    have v5 : (uL (uL (uL V 81 i (ltT T p - 48)) 0 19 (p + 1)) 81 i (10 * (ltT T p - 48) + ltT T (p + 1) - 48)) 0 19 = p + 1 := by rw [uL_row _ _ _ (by omega)]; exact v4
    have v6 : (uL (uL (uL (uL V 81 i (ltT T p - 48)) 0 19 (p + 1)) 81 i (10 * (ltT T p - 48) + ltT T (p + 1) - 48)) 0 19 (p + 2)) 0 19 = p + 2 := uL_s _ _ _ _
    refine ⟨h6, _, ?_, e6, s4.tr s6, by rw [if_pos hF2]; exact v6, ?_, ?_, ((f3.tr f4).tr f5).tr f6⟩
    · rw [pre, hF2, if_pos rfl]
      simp (disch := omega) only [b01_t, b109_34, n1, if_false, b109_35, mdF e4, Option.bind_some, w4, v4, if_true, nI_mulN, d_letterAt e4 rt4 wt (show p + 1 < 2 ^ 31 by omega), mlt_c hc2, b109_48, nI_add, nI_subN, q5, mdF e5, v5, q6, mdF e6, v6, d_letterAt e6 (rt4.sp s6.sp) wt (show p + 2 < 2 ^ 31 by omega)]
    · rw [if_pos hF2, uL_row _ _ _ (by omega), uL_s]; omega
    · intro j hj
      rw [uL_row _ _ _ (by omega), uL_k _ _ _ hj]
      exact o4 j hj
  · refine ⟨h4, _, ?_, e4, s4, by rw [if_neg hF2]; exact v4, by rw [if_neg hF2]; exact w4, o4, f3.tr f4⟩
    have hF2' : isF (ltT T (p + 1)) = false := by simpa using hF2
    rw [pre, hF2', if_neg (by simp)]
    simp (disch := omega) only [b01_f, b109_34, if_true, b109_58, mdF e4, Option.bind_some, v4, d_letterAt e4 rt4 wt (show p + 1 < 2 ^ 31 by omega)]
theorem num_lp (wt : WfT T) {n : Nat} (hn : n ≤ 4) : ∀ (d i : Nat), i + d + 1 = n → ∀ (h : MH) (V C : LT), MdA h V → RT V T → (i = 0 ∨ ltT T (C 1 0) = 44) → V 0 19 = (sgP i C) 1 0 → (∀ j, j < i → V 81 j = C 0 j) → C 1 0 + 4 * d < 2 ^ 28 → ∃ h' V' b, m_ev 109 2 [some (.ref 72), some (.int (nI n)), some (.int (nI i))] [] h = some (some (.int (nI (b01 b))), h') ∧ MdA h' V' ∧ Sq V V' ∧ ((b = true) ↔ ((numP T (d + 1) i C).1 = true ∧ ltT T ((numP T (d + 1) i C).2 1 0) = 59)) ∧ (b = true → V' 0 19 = (numP T (d + 1) i C).2 1 0 + 1 ∧ ∀ j, j < n → V' 81 j = (numP T (d + 1) i C).2 0 j) ∧ Fr 72 89 h h' := by
  have n1 : ¬ nI 1 = nI 0 := by decide
  intro d
  induction d with
  | zero =>
    intro i hi h V C e rt hs hv hj hC
    have hni : ¬ n ≤ i := by omega
    have hsa := sgP_at i C
    by_cases hF : isF (ltT T ((sgP i C) 1 0)) = true
    · obtain ⟨h3, V3, q3, e3, s3, v3, x3, o3, f3⟩ := n_fig (n := n) (i := i) e rt wt (by omega) hv (by omega) hF
      obtain ⟨g1, g2, g3⟩ := fg_v T i (sgP i C)
      have hnum : numP T (0 + 1) i C = (true, fgP T i (sgP i C)) := by rw [numP, if_pos hs, if_pos hF, numP]
      have hfa := fgP_at T i (sgP i C)
      have pre : m_ev 109 2 [some (.ref 72), some (.int (nI n)), some (.int (nI i))] [] h = (if mlt T (fgN T ((sgP i C) 1 0)) = nI 59 then m_ev 109 73 [some (.ref 72), some (.int (nI n)), some (.int (nI i))] [] h3 else m_ev 109 71 [some (.ref 72), some (.int (nI n)), some (.int (nI i))] [] h3) := by
        rw [b109_2]
        simp (disch := omega) only [nI_leI, hni, if_false, b109_5, mdF e, Option.bind_some, hv, if_true, d_letterAt e rt wt (show (sgP i C) 1 0 < 2 ^ 31 by omega), b109_9, d_isFigure wt, hF, b01_t, b109_10, n1, q3, b109_62, nI_subN, show n - 1 ≤ i by omega, b109_69]
      simp (disch := omega) only [mlt_eq wt] at pre
      rw [← g1] at pre
      rw [hnum]
      by_cases h59 : ltT T ((fgP T i (sgP i C)) 1 0) = 59
      · obtain ⟨h4, q4, e4, f4⟩ := mdW0 e3 19 (fgN T ((sgP i C) 1 0) + 1) (by simp)
        refine ⟨h4, _, true, ?_, e4, s3.tr (Sq.a _ _), ⟨fun _ => ⟨rfl, h59⟩, fun _ => rfl⟩, fun _ => ⟨?_, ?_⟩, f3.tr f4⟩
        · rw [pre, if_pos h59]
          simp (disch := omega) only [b109_73, mdF e3, Option.bind_some, v3, nI_add, q4]
          rw [b109_2, if_pos (nI_le (show n ≤ i + 1 by omega) (by omega)), b109_81, b01_t]
        · show _ = (fgP T i (sgP i C)) 1 0 + 1
          rw [uL_s, g1]
        · intro j hjn
          show _ = (fgP T i (sgP i C)) 0 j
          rw [uL_row _ _ _ (by omega)]
          by_cases hji : j = i
          · subst hji; rw [x3, g2]
          · rw [o3 j hji, g3 j hji, sg_j]; exact hj j (by omega)
      · refine ⟨h3, V3, false, ?_, e3, s3, ⟨fun q => (by cases q), fun q => absurd q.2 h59⟩, fun q => (by cases q), f3⟩
        rw [pre, if_neg h59, b109_71, b01_f]
    · have hnum : numP T (0 + 1) i C = (false, sgP i C) := by rw [numP, if_pos hs, if_neg hF]
      have hF' : isF (ltT T ((sgP i C) 1 0)) = false := by simpa using hF
      rw [hnum]
      refine ⟨h, V, false, ?_, e, Sq.rf _, ⟨fun q => (by cases q), fun q => (by cases q.1)⟩, fun q => (by cases q), Fr.rf _ _ _⟩
      rw [b109_2]
      simp (disch := omega) only [nI_leI, hni, if_false, b109_5, mdF e, Option.bind_some, hv, if_true, d_letterAt e rt wt (show (sgP i C) 1 0 < 2 ^ 31 by omega), b109_9, d_isFigure wt, hF', b01_f, b109_10, b109_11]
  | succ d ih =>
    intro i hi h V C e rt hs hv hj hC
    have hni : ¬ n ≤ i := by omega
    have hsa := sgP_at i C
    by_cases hF : isF (ltT T ((sgP i C) 1 0)) = true
    · obtain ⟨h3, V3, q3, e3, s3, v3, x3, o3, f3⟩ := n_fig (n := n) (i := i) e rt wt (by omega) hv (by omega) hF
      obtain ⟨g1, g2, g3⟩ := fg_v T i (sgP i C)
      have hnum : numP T (d + 1 + 1) i C = numP T (d + 1) (i + 1) (fgP T i (sgP i C)) := by rw [numP, if_pos hs, if_pos hF]
      have hfa := fgP_at T i (sgP i C)
      have pre : m_ev 109 2 [some (.ref 72), some (.int (nI n)), some (.int (nI i))] [] h = (if mlt T (fgN T ((sgP i C) 1 0)) = nI 44 then m_ev 109 73 [some (.ref 72), some (.int (nI n)), some (.int (nI i))] [] h3 else m_ev 109 71 [some (.ref 72), some (.int (nI n)), some (.int (nI i))] [] h3) := by
        rw [b109_2]
        simp (disch := omega) only [nI_leI, hni, if_false, b109_5, mdF e, Option.bind_some, hv, if_true, d_letterAt e rt wt (show (sgP i C) 1 0 < 2 ^ 31 by omega), b109_9, d_isFigure wt, hF, b01_t, b109_10, n1, q3, b109_62, nI_subN, show ¬ n - 1 ≤ i by omega, b109_67]
      simp (disch := omega) only [mlt_eq wt] at pre
      rw [← g1] at pre
      rw [hnum]
      by_cases h44 : ltT T ((fgP T i (sgP i C)) 1 0) = 44
      · obtain ⟨h4, q4, e4, f4⟩ := mdW0 e3 19 (fgN T ((sgP i C) 1 0) + 1) (by simp)
        obtain ⟨h5, V5, b, q5, e5, s5, hb, hb2, f5⟩ := ih (i + 1) (by omega) h4 _ (fgP T i (sgP i C)) e4 (rt.sp (s3.tr (Sq.a _ _)).sp) (Or.inr h44) (by
          rw [uL_s, ← g1]
          have sg1 : ∀ X, (sgP (i + 1) X) 1 0 = X 1 0 + 1 := fun X => by unfold sgP; rw [if_neg (by omega), avC_at]
          rw [sg1]) (by
          intro j hjn
          rw [uL_row _ _ _ (by omega)]
          by_cases hji : j = i
          · subst hji; rw [x3, g2]
          · rw [o3 j hji, g3 j hji, sg_j]; exact hj j (by omega)) (by omega)
        refine ⟨h5, V5, b, ?_, e5, (s3.tr (Sq.a _ _)).tr s5, hb, hb2, (f3.tr f4).tr f5⟩
        rw [pre, if_pos h44]
        simp (disch := omega) only [b109_73, mdF e3, Option.bind_some, v3, nI_add, q4]
        exact q5
      · refine ⟨h3, V3, false, ?_, e3, s3, ⟨fun q => (by cases q), fun q => ?_⟩, fun q => (by cases q), f3⟩
        · rw [pre, if_neg h44, b109_71, b01_f]
        · have : numP T (d + 1) (i + 1) (fgP T i (sgP i C)) = (false, fgP T i (sgP i C)) := by rw [numP, if_neg (by omega)]
          rw [this] at q
          cases q.1
    · have hnum : numP T (d + 1 + 1) i C = (false, sgP i C) := by rw [numP, if_pos hs, if_neg hF]
      have hF' : isF (ltT T ((sgP i C) 1 0)) = false := by simpa using hF
      rw [hnum]
      refine ⟨h, V, false, ?_, e, Sq.rf _, ⟨fun q => (by cases q), fun q => (by cases q.1)⟩, fun q => (by cases q), Fr.rf _ _ _⟩
      rw [b109_2]
      simp (disch := omega) only [nI_leI, hni, if_false, b109_5, mdF e, Option.bind_some, hv, if_true, d_letterAt e rt wt (show (sgP i C) 1 0 < 2 ^ 31 by omega), b109_9, d_isFigure wt, hF', b01_f, b109_10, b109_11]
theorem d_readNumbers (e : MdA h V) (rt : RT V T) (wt : WfT T) {n : Nat} (h1 : 1 ≤ n) (hn : n ≤ 4) (hv : V 0 19 = C 1 0) (hC : C 1 0 < 2 ^ 27) : ∃ h' V' b, m_call m_ev 109 y k [.ref 72, .int (nI n)] ls r h = m_ev y k ls (.int (nI (b01 b)) :: r) h' ∧ MdA h' V' ∧ Sq V V' ∧ ((b = true) ↔ ((numP T n 0 C).1 = true ∧ ltT T ((numP T n 0 C).2 1 0) = 59)) ∧ (b = true → V' 0 19 = (numP T n 0 C).2 1 0 + 1 ∧ ∀ j, j < n → V' 81 j = (numP T n 0 C).2 0 j) ∧ Fr 72 89 h h' := by
  obtain ⟨h5, V5, b, q5, e5, s5, hb, hb2, f5⟩ := num_lp wt hn (n - 1) 0 (by omega) h V C e rt (Or.inl rfl) (by unfold sgP; rw [if_pos rfl]; exact hv) (fun j hj => by omega) (by omega)
  rw [show n - 1 + 1 = n by omega] at hb hb2
  refine ⟨h5, V5, b, cl_v ?_, e5, s5, hb, hb2, f5⟩
  show m_ev 109 0 [some (.ref 72), some (.int (nI n)), none] [] h = _
  rw [b109_0]
  exact q5
theorem d_isTold (e : MdA h V) {j a b : Nat} (hj : j < 4) (hb : b < 2 ^ 31) (hab : a ≤ b) (hv : V 81 j < 2 ^ 31) : m_call m_ev 110 y k [.ref 72, .int (nI j), .int (nI a), .int (nI b)] ls r h = m_ev y k ls (.int (nI (b01 (decide (a ≤ V 81 j ∧ V 81 j ≤ b)))) :: r) h := by
  refine cl_v ?_
  show m_ev 110 0 [some (.ref 72), some (.int (nI j)), some (.int (nI a)), some (.int (nI b))] [] h = _
  simp (disch := omega) only [b110_0, mdF e, Option.bind_some, d_in_any hb hab, b110_7]
  rw [if_pos (b01_01 _)]
  have : (¬ (nI (V 81 j) < nI a ∨ nI b < nI (V 81 j))) = (a ≤ V 81 j ∧ V 81 j ≤ b) := by
    rw [nI_ltI (by omega) (by omega), nI_ltI (by omega) (by omega)]
    apply propext; omega
  simp only [this]
theorem d_isToldN (e : MdA h V) {j n : Nat} (hj : j < 4) (hn : n < 2 ^ 31) (h1 : 1 ≤ n) (hv : V 81 j < 2 ^ 31) : m_call m_ev 110 y k [.ref 72, .int (nI j), .int (nI 0), .int (nI n - nI 1)] ls r h = m_ev y k ls (.int (nI (b01 (decide (V 81 j < n)))) :: r) h := by
  rw [nI_subN h1, d_isTold e hj (by omega) (by omega) hv]
  have : (0 ≤ V 81 j ∧ V 81 j ≤ n - 1) = (V 81 j < n) := by apply propext; omega
  simp only [this]
end
