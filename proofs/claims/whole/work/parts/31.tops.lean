/-! TOP, and who gets his wish -/
theorem mkB_cg {B B' : Nat → Nat} {t p who who' : Nat} (hw : who = who') (hB : ∀ i, i < 800 → B i = B' i) : ∀ i, i < 800 → mkB B t p who i = mkB B' t p who' i := by
  intro i hi
  unfold mkB
  rw [hB i hi, hw]
theorem swB_cg {L : LT} {ho wd t p who : Nat} {B B' : Nat → Nat} (hB : ∀ i, i < 800 → B i = B' i) : ∀ w, ∀ i, i < 800 → swB L ho wd t p who B w i = swB L ho wd t p who B' w i := by
  intro w
  induction w with
  | zero => exact hB
  | succ w ih =>
    unfold swB
    cases otL L w p with
    | none => exact ih
    | some q =>
      cases hoL L w ho wd with
      | none => exact ih
      | some d => exact mkB_cg rfl ih
theorem spB_cg {L : LT} {ho wd t : Nat} (ht : t ≤ 99) {B B' : Nat → Nat} (hB : ∀ i, i < 800 → B i = B' i) : ∀ p, p ≤ 8 → ∀ i, i < 800 → spB L ho wd t B p i = spB L ho wd t B' p i := by
  intro p
  induction p with
  | zero => intro _; exact hB
  | succ p ih =>
    intro hp
    have ih' := ih (by omega)
    unfold spB
    rw [ih' (t * 8 + p) (by omega)]
    split
    · exact ih'
    · exact swB_cg (mkB_cg rfl ih') _
theorem spT_cg {L : LT} (wf : WfH L) {hour : Nat} {A A' B B' : Nat → Nat} (hA : ∀ t, t < 100 → A t = A' t) (hB : ∀ i, i < 800 → B i = B' i) : ∀ t, t ≤ 100 → ∀ i, i < 800 → spT L hour A B t i = spT L hour A' B' t i := by
  intro t
  induction t with
  | zero => intro _; exact hB
  | succ t ih =>
    intro ht
    unfold spT
    rw [hA t (by omega)]
    obtain ⟨w1, w2, w3, w4, w5, w6, w7, w8, w9, w10, w11, w12, w13⟩ := wf
    exact spB_cg (by omega) (ih (by omega)) _ (by omega)
theorem ffL_cg {P P' : Nat → Bool} : ∀ (d i : Nat), (∀ j, i ≤ j → j < i + d → P j = P' j) → ffL P d i = ffL P' d i := by
  intro d
  induction d with
  | zero => intro i _; rfl
  | succ d ih =>
    intro i h
    unfold ffL
    rw [h i (by omega) (by omega), ih (i + 1) (fun j h1 h2 => h j (by omega) (by omega))]
theorem ffL_lt {P : Nat → Bool} : ∀ (d i v : Nat), ffL P d i = some v → i ≤ v ∧ v < i + d ∧ P v = true := by
  intro d
  induction d with
  | zero => intro i v h; cases h
  | succ d ih =>
    intro i v h
    unfold ffL at h
    split at h
    · cases h; exact ⟨by omega, by omega, by assumption⟩
    · have := ih _ _ h; exact ⟨by omega, by omega, this.2.2⟩
def tpB (L M : LT) (a : Nat) : Nat → Nat := spT L (M 2 0) (upL L M) (mkB (fun _ => 0) (M 1 a) (M 0 a) 1) 100
def topF (L M : LT) (a : Nat) : Option Nat := ffL (fun t => tpB L M a (t * 8) != 0) 100 0
def wisF (L M : LT) (a : Nat) : Bool := match topF L M a with
  | none => false
  | some t => upL L M t == L 6 a
theorem prX_0 (L M X : LT) {t : Nat} (ht : t < 100) : prX L M X 0 t = upL L M t := by simp [prX, sR, lkF, ht]
theorem prX_1 (L M X : LT) {i : Nat} (hi : i < 800) : prX L M X 1 i = 0 := by simp [prX, sR, hi]
theorem prX_b {L M X : LT} (wf : WfH L) (b : OuB X) : OuB (prX L M X) := by
  constructor
  · intro i
    show (prX L M X) 1 i < 2048
    simp only [prX, sR, if_true]
    split
    · omega
    · exact b.1 i
  · intro i
    have e1 : prX L M X 0 i = lkF L M 100 (X 0) i := by simp [prX, sR]
    rw [e1]
    unfold lkF
    split
    · exact upL_lt wf M i
    · exact b.2 i
section
variable {y k : Nat} {ls : ML} {r : List Value} {h h' : MH} {hl sp hp hk : Nat} {L M T S : LT} {P K : Nat → LT}
theorem c_soonestTop (e : CA h hl sp L M T S hp P hk K) (wf : WfH L) {m : Nat} {Q : LT} (hm : m = 25 ∨ m = 28) (f : MoA h m Q) (wm : WfM L Q 30000) {a : Nat} (ha : a < L 7 6) : ∃ h' X', m_call m_ev 89 y k [.ref 0, .ref m, .int (nI a)] ls r h = m_ev y k ls (.int (nO (topF L Q a)) :: r) h' ∧ OuA h' 68 X' ∧ OuB X' ∧ (∀ t, t < 100 → X' 0 t = upL L Q t) ∧ Fr 68 71 h h' := by
  have wf0 := wf
  obtain ⟨w1, w2, w3, w4, w5, w6, w7, w8, w9, w10, w11, w12, w13⟩ := wf0
  obtain ⟨m1, m2, m3, m4, m5⟩ := wm
  obtain ⟨p1, p2⟩ := m5 a ha
  obtain ⟨c_sw, c_o, c_hi, c_spa, c_tx, c_sc, c_mo, c_tri, c_sh, c_ke, c_se, ⟨X, c_ou, c_b⟩, c_ch⟩ := e
  have hdl : hl + 8 ≤ 68 := by omega
  obtain ⟨h1, q1, e1, f1⟩ := c_prepare (y := 89) (k := 13) (ls := [some (.ref 0), some (.ref m), some (.int (nI a))]) (r := []) c_hi f c_ou wf ⟨m1, m2, m3, m4, m5⟩ (by omega) (by omega)
  have b1 := prX_b (M := Q) wf c_b
  have o1 := f1.at (b := 0) (by omega) c_o
  have g1 := f1.mo (by omega) f
  have i1 := f1.hi (by omega) c_hi
  obtain ⟨h2, q2, e2, f2⟩ := c_mark (y := 89) (k := 25) (ls := [some (.ref 0), some (.ref m), some (.int (nI a))]) (r := []) (t := Q 1 a) (p := Q 0 a) (who := 1) e1 (by omega) (by omega)
  have o2 := f2.at (b := 0) (by omega) o1
  have g2 := f2.mo (by omega) g1
  have i2 := f2.hi (by omega) i1
  obtain ⟨h3, q3, e3, f3⟩ := c_spread (y := 89) (k := 32) (ls := [some (.ref 0), some (.ref m), some (.int (nI a))]) (r := []) i2 e2 wf (by omega) (hour := Q 2 0) m1 (by intro t ht; rw [sR_n _ _ (by omega)]; exact b1.2 t) (by rw [sR_s]; exact mkB_bb b1.1 (by omega))
  have o3 := f3.at (b := 0) (by omega) o2
  rw [sR_sR, sR_s] at e3
  have hx0 : ∀ X2 B, (sR X2 1 B) 0 = X2 0 := fun X2 B => sR_n _ _ (by omega)
  rw [hx0] at e3
  have b3 : BB (spT L (Q 2 0) ((prX L Q X) 0) (mkB ((prX L Q X) 1) (Q 1 a) (Q 0 a) 1) 100) := spT_bb (mkB_bb b1.1 (by omega)) 100
  have hcg : ∀ i, i < 800 → spT L (Q 2 0) ((prX L Q X) 0) (mkB ((prX L Q X) 1) (Q 1 a) (Q 0 a) 1) 100 i = tpB L Q a i := fun i hi => spT_cg wf (fun t ht => prX_0 L Q X ht) (mkB_cg rfl (fun i hi => prX_1 L Q X hi)) 100 (by omega) i hi
  refine ⟨h3, _, cl_v ?_, e3, ⟨?_, ?_⟩, ?_, (f1.tr f2).tr f3⟩
  · show m_ev 89 0 [some (.ref 0), some (.ref m), some (.int (nI a))] [] h = _
    have n1 : ¬ nI 1 = nI 0 := by decide
    have ht : ffL (fun t => (sR (prX L Q X) 1 (spT L (Q 2 0) ((prX L Q X) 0) (mkB ((prX L Q X) 1) (Q 1 a) (Q 0 a) 1) 100)) 1 (t * 8) != 0) 100 0 = topF L Q a := by
      unfold topF
      refine ffL_cg 100 0 (fun j _ hj => ?_)
      rw [sR_s, hcg _ (by omega)]
    simp (disch := omega) only [b89_0, b89_4, b89_7, b89_13, b89_25, b89_32, b89_35, oF c_o, hiF c_hi, ouF c_ou, if_true, Option.bind_some, c_hasAsker c_hi w12 ha, n1, if_false, q1, oF o1, moF g1, ouF e1, q2, oF o2, moF g2, ouF e2, q3, oF o3, ouF e3, c_soonestTopOfAny e3 (by rw [sR_s]; exact b3), ht]
  · rw [sR_s]; exact b3
  · intro i; rw [hx0]; exact b1.2 i
  · intro t ht; rw [hx0]; exact prX_0 L Q X ht
theorem c_getsHisWish (e : CA h hl sp L M T S hp P hk K) (wf : WfH L) {m : Nat} {Q : LT} (hm : m = 25 ∨ m = 28) (f : MoA h m Q) (wm : WfM L Q 30000) {a : Nat} (ha : a < L 7 6) : ∃ h' X', m_call m_ev 90 y k [.ref 0, .ref m, .int (nI a)] ls r h = m_ev y k ls (.int (nI (b01 (wisF L Q a))) :: r) h' ∧ OuA h' 68 X' ∧ OuB X' ∧ Fr 68 71 h h' := by
  obtain ⟨h1, X', q1, e1, b1, x1, f1⟩ := c_soonestTop (y := 90) (k := 4) (ls := [some (.ref 0), some (.ref m), some (.int (nI a)), none]) (r := []) e wf hm f wm ha
  have e' := e
  obtain ⟨c_sw, c_o, c_hi, c_spa, c_tx, c_sc, c_mo, c_tri, c_sh, c_ke, c_se, c_ou, c_ch⟩ := e'
  have o1 := f1.at (b := 0) (by omega) c_o
  have g1 := f1.mo (by omega) f
  have i1 := f1.hi (by omega) c_hi
  have hwi := (wf.2.2.2.2.2.2.2.2.2.2.2.2 a ha).2
  have ha4 := wf.2.2.2.2.2.2.2.2.2.2.2.1
  refine ⟨h1, X', cl_v ?_, e1, b1, f1⟩
  show m_ev 90 0 [some (.ref 0), some (.ref m), some (.int (nI a)), none] [] h = _
  simp (disch := omega) only [b90_0, oF c_o, if_true, q1]
  unfold wisF
  cases ht : topF L Q a with
  | none =>
    simp (disch := omega) only [b90_4, nO, if_true, b90_21, b01_f]
  | some t =>
    have htl := (ffL_lt _ _ _ ht).2.1
    have hul := upL_lt wf Q t
    simp (disch := omega) only [b90_4, nO, if_neg (nI_neg4 (show t < 2 ^ 31 by omega)), b90_8, b90_13, oF o1, moF g1, hiF i1, Option.bind_some, if_true, c_uppermost i1 g1 wf wm (show t ≤ 1000 by omega), nI_eq]
    by_cases hc : upL L Q t = L 6 a
    · rw [if_pos hc, b90_19]; simp [hc, b01]
    · rw [if_neg hc, b90_21]; simp [hc, b01]
end
