/-! copyOut, firstHill -/
section
variable {y k : Nat} {ls : ML} {r : List Value} {h : MH} {g m a t : Nat} {L M T C : LT}
theorem Fr2.sc {lo hi lo2 hi2 a t : Nat} {h h' : MH} {C : LT} (f : Fr2 lo hi lo2 hi2 h h') (hb : a + 2 ≤ lo ∨ hi ≤ a) (hb2 : a + 2 ≤ lo2 ∨ hi2 ≤ a) (e : ScA h a t C) : ScA h' a t C := ⟨f.at (by omega) (by omega) e.1, f.at (by omega) (by omega) e.2⟩
theorem Fr2.hi {lo hi lo2 hi2 g : Nat} {h h' : MH} {L : LT} (f : Fr2 lo hi lo2 hi2 h h') (hb : g + 8 ≤ lo ∨ hi ≤ g) (hb2 : g + 8 ≤ lo2 ∨ hi2 ≤ g) (e : HiA h g L) : HiA h' g L := by
  obtain ⟨e0, e1, e2, e3, e4, e5, e6, e7⟩ := e
  exact ⟨f.at (by omega) (by omega) e0, f.at (by omega) (by omega) e1, f.at (by omega) (by omega) e2, f.at (by omega) (by omega) e3, f.at (by omega) (by omega) e4, f.at (by omega) (by omega) e5, f.at (by omega) (by omega) e6, f.at (by omega) (by omega) e7⟩
theorem Fr2.wd {lo hi lo2 hi2 p q p2 q2 : Nat} {h h' : MH} (f : Fr2 lo hi lo2 hi2 h h') (h1 : p ≤ lo) (h2 : hi ≤ q) (h3 : p2 ≤ lo2) (h4 : hi2 ≤ q2) : Fr2 p q p2 q2 h h' := ⟨f.1, fun b hb hb2 => f.2 b (by omega) (by omega)⟩
theorem copP_wf (T : LT) : ∀ (d : Nat) (L C : LT), WfH L → (copP T d L C).1 = none → WfH (copP T d L C).2.1 := by
  intro d
  induction d with
  | zero => intro L C wf _; exact wf
  | succ d ih =>
    intro L C wf
    unfold copP
    split
    · intro _; exact wf
    · split
      · rename_i h1
        split
        · intro hn
          exact ih _ _ (itm_wf T _ wf h1) hn
        · intro hn; cases hn
      · intro hn; cases hn
theorem copP_lt (T : LT) : ∀ (d : Nat) (L C : LT), ∀ v, (copP T d L C).1 = some v → v < T 1 0 := by
  intro d
  induction d with
  | zero => intro L C v hv; cases hv
  | succ d ih =>
    intro L C v
    unfold copP
    split
    · intro hv; cases hv
    · split
      · split
        · exact ih _ _ v
        · intro hv; cases hv; omega
      · intro hv; cases hv; omega
theorem cop_loop (wt : WfT T) (ha : t + 2 ≤ a ∨ a + 2 ≤ t) (hg : g + 8 ≤ a ∨ a + 2 ≤ g) (hg2 : g + 8 ≤ t ∨ t + 2 ≤ g) : ∀ (d i : Nat), i + d = 200 → ∀ (h : MH) (L C : LT) (d3 d4 : Option Value), ScA h a t C → TxA h t T → HiA h g L → WfH L → C 1 0 + 14 * d < 2 ^ 28 → ∃ h', m_ev 37 7 [some (.ref a), some (.ref g), some (.int (nI i)), d3, d4] [] h = some (some (.int (nO (copP T d L C).1)), h') ∧ ScA h' a t (copP T d L C).2.2 ∧ HiA h' g (copP T d L C).2.1 ∧ Fr2 a (a + 2) g (g + 8) h h' := by
  intro d
  induction d with
  | zero =>
    intro i hi h L C d3 d4 e f u wf hC
    obtain rfl : i = 200 := by omega
    refine ⟨h, ?_, e, u, Fr2.rf _ _ _ _ _⟩
    rw [b37_7]
    simp (disch := omega) only [b37_42, nI_leI, Nat.le_refl, if_true, copP, nO]
  | succ d ih =>
    intro i hi h L C d3 d4 e f u wf hC
    have w0 := wt.1
    have hni : ¬ 200 ≤ i := by omega
    by_cases hn : T 1 0 ≤ C 1 0
    · have hc : copP T (d + 1) L C = (none, L, C) := by rw [copP, if_pos hn]
      rw [hc]
      refine ⟨h, ?_, e, u, Fr2.rf _ _ _ _ _⟩
      rw [b37_7]
      simp (disch := omega) only [b37_10, b37_42, scF e, txF f, Option.bind_some, nI_leI, hni, if_false, if_pos hn, nO]
    · have hl := ltT_lt wt (C 1 0)
      obtain ⟨h1, q1, e1, f1⟩ := scW1 e (C 1 0 + 1)
      have x1 := f1.tx (T := T) (a := t) (by omega) f
      have u1 := f1.hi (by omega) u
      obtain ⟨h2, q2, e2, u2, f2⟩ := c_copyItem (y := 37) (k := 33) (ls := [some (.ref a), some (.ref g), some (.int (nI i)), some (.int (nI (C 1 0))), some (.int (nI (ltT T (C 1 0))))]) (r := []) (C := avC C) e1 x1 u1 wf wt ha hg hg2 (by rw [avC_at]; omega) hl
      have x2 := f2.tx (T := T) (a := t) (by omega) (by omega) x1
      have hat := itm_at T (ltT T (C 1 0)) L (avC C)
      rw [avC_at] at hat
      have n1 : ¬ nI 1 = nI 0 := by decide
      cases hb : (itmP T (ltT T (C 1 0)) L (avC C)).1 with
      | false =>
        have hc : copP T (d + 1) L C = (some (C 1 0), (itmP T (ltT T (C 1 0)) L (avC C)).2) := by rw [copP, if_neg hn, if_neg (by rw [hb]; simp)]
        rw [hc]
        refine ⟨h2, ?_, e2, u2, (f1.l _ _).tr f2⟩
        rw [hb] at q2
        rw [b37_7]
        simp (disch := omega) only [b37_10, b37_16, b37_23, b37_33, b37_38, scF e, scF e1, txF f, Option.bind_some, nI_leI, hni, if_false, if_neg hn, if_true, c_lt f wt, nI_add, q1, q2, b01_f, nO]
      | true =>
        rw [hb] at q2
        by_cases h59 : ltT T ((itmP T (ltT T (C 1 0)) L (avC C)).2.2 1 0) = 59
        · have hc : copP T (d + 1) L C = copP T d (itmP T (ltT T (C 1 0)) L (avC C)).2.1 (avC (itmP T (ltT T (C 1 0)) L (avC C)).2.2) := by rw [copP, if_neg hn, if_pos hb, if_pos h59]
          rw [hc]
          obtain ⟨h3, q3, e3, f3⟩ := c_takes (y := 37) (k := 37) (ls := [some (.ref a), some (.ref g), some (.int (nI i)), some (.int (nI (C 1 0))), some (.int (nI (ltT T (C 1 0))))]) (r := []) e2 x2 wt (by omega) h59
          obtain ⟨h4, q4, e4, u4, f4⟩ := ih (i + 1) (by omega) h3 _ _ (some (.int (nI (C 1 0)))) (some (.int (nI (ltT T (C 1 0))))) e3 (f3.tx (by omega) x2) (f3.hi (by omega) u2) (itm_wf T _ wf hb) (by rw [avC_at]; omega)
          refine ⟨h4, ?_, e4, u4, (((f1.l _ _).tr f2).tr (f3.l _ _)).tr f4⟩
          rw [b37_7]
          simp (disch := omega) only [b37_10, b37_16, b37_23, b37_33, b37_34, b37_37, b37_40, scF e, scF e1, scF e2, txF f, Option.bind_some, nI_leI, hni, if_false, if_neg hn, if_true, c_lt f wt, nI_add, q1, q2, b01_t, n1, q3]
          exact q4
        · have hc : copP T (d + 1) L C = (some (C 1 0), (itmP T (ltT T (C 1 0)) L (avC C)).2) := by rw [copP, if_neg hn, if_pos hb, if_neg h59]
          rw [hc]
          refine ⟨h2, ?_, e2, u2, (f1.l _ _).tr f2⟩
          rw [b37_7]
          simp (disch := omega) only [b37_10, b37_16, b37_23, b37_33, b37_34, b37_37, b37_38, scF e, scF e1, scF e2, txF f, Option.bind_some, nI_leI, hni, if_false, if_neg hn, if_true, c_lt f wt, nI_add, q1, q2, b01_t, n1, c_takes_no e2 x2 wt (show (itmP T (ltT T (C 1 0)) L (avC C)).2.2 1 0 < 2 ^ 30 by omega) (show 59 < 128 by omega) h59, nO]
def cop0 (T L C : LT) : Option Nat × LT × LT := copP T 200 (clL L) (uL C 1 0 0)
theorem c_copyOut (e : ScA h a t C) (f : TxA h t T) (u : HiA h g L) (wt : WfT T) (ha : t + 2 ≤ a ∨ a + 2 ≤ t) (hg : g + 8 ≤ a ∨ a + 2 ≤ g) (hg2 : g + 8 ≤ t ∨ t + 2 ≤ g) : ∃ h', m_call m_ev 37 y k [.ref a, .ref g] ls r h = m_ev y k ls (.int (nO (cop0 T L C).1) :: r) h' ∧ ScA h' a t (cop0 T L C).2.2 ∧ HiA h' g (cop0 T L C).2.1 ∧ Fr2 a (a + 2) g (g + 8) h h' := by
  obtain ⟨h1, q1, e1, f1⟩ := scW1 e 0
  have u1 := f1.hi (by omega) u
  obtain ⟨h2, q2, e2, f2⟩ := c_clearHill (y := 37) (k := 5) (ls := [some (.ref a), some (.ref g), none, none, none]) (r := []) u1
  obtain ⟨h3, q3, e3, u3, f3⟩ := cop_loop wt ha hg hg2 200 0 rfl h2 (clL L) (uL C 1 0 0) none none (f2.sc (by omega) e1) (f2.tx (by omega) (f1.tx (by omega) f)) e2 (clL_wf L) (by rw [uL_s]; omega)
  refine ⟨h3, cl_v ?_, e3, u3, ((f1.l _ _).tr (f2.r _ _)).tr f3⟩
  show m_ev 37 0 [some (.ref a), some (.ref g), none, none, none] [] h = _
  simp only [b37_0, q1, Option.bind_some, hiF u1, if_true, q2, b37_5]
  exact q3
end
