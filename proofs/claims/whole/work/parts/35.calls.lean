/-! the calls: first, laws, from -/
theorem sh_k : ∀ i : Nat, i < 32 → ((nI i &&& 31).toBitVec.smod 32).toNat = i := by decide
theorem one_shl {i : Nat} (hi : i < 31) : nI 1 <<< (nI i &&& 31) = nI (2 ^ i) := by
  have h2 : 2 ^ i < 2 ^ 31 := Nat.pow_lt_pow_right (by omega) hi
  rw [pk_shlN _ i (sh_k i (by omega)) (by omega), Nat.one_mul]
def lowF (n : Nat) : Option Nat := ffL (fun i => n / 2 ^ i % 2 == 1) 32 0
def mk0 : Nat → (Nat → Nat)
  | 0 => fun _ => 0
  | p + 1 => mkB (mk0 p) 0 p (2 ^ p)
def froB (L M : LT) : Nat → Nat := spT L (M 2 0) (upL L M) (mk0 (L 7 4)) 100
def fsM (L M : LT) (a : Nat) : Nat → (Nat → Nat)
  | 0 => mkB (fun _ => 0) 0 (M 0 a) 1024
  | w + 1 => match setL L M a w with
    | none => fsM L M a w
    | some d => mkB (fsM L M a w) d ((otL L w (M 0 a)).getD 0) (2 ^ w)
def firB (L M : LT) (a : Nat) : Nat → Nat := spT L (M 2 0) (upL L M) (fsM L M a (L 7 5)) 100
def firF (L M : LT) (a : Nat) : Option Nat := if 0 < M 1 a ∨ M 0 a = 0 then none else match ffL (fun t => firB L M a (t * 8) != 0) 100 0 with
  | none => none
  | some t => lowF (firB L M a (t * 8))
def lawE (L M S : LT) (s : Nat) : Nat → Nat → Nat × Option Nat → Nat × Option Nat
  | 0, _, p => p
  | d + 1, e, p => lawE L M S s d (e + 1) (if alL (fitL L M S s e) (S 2 0) 0 = true then (p.1 + 1, if p.1 = 0 then some (100 * s + e) else p.2) else p)
def lawD (L M S : LT) : Nat → Nat → Nat × Option Nat → Nat × Option Nat
  | 0, _, p => p
  | d + 1, s, p => lawD L M S d (s + 1) (lawE L M S s 24 1 p)
theorem lawE_le (L M S : LT) (s : Nat) : ∀ (d e : Nat) (p : Nat × Option Nat), (lawE L M S s d e p).1 ≤ p.1 + d := by
  intro d
  induction d with
  | zero => intro e p; exact Nat.le_refl _
  | succ d ih =>
    intro e p
    unfold lawE
    refine Nat.le_trans (ih _ _) ?_
    split
    · show p.1 + 1 + d ≤ _; omega
    · omega
section
variable {y k : Nat} {ls : ML} {r : List Value} {h h' : MH} {hl sp hp hk B o : Nat} {L M T S X : LT} {P K : Nat → LT}
theorem low_loop {n : Nat} (hn : n < 2 ^ 31) : ∀ (d i : Nat), i + d = 32 → m_ev 91 2 [some (.int (nI n)), some (.int (nI i))] [] h = some (some (.int (nO (ffL (fun i => n / 2 ^ i % 2 == 1) d i))), h) := by
  intro d
  induction d with
  | zero =>
    intro i hi
    obtain rfl : i = 32 := by omega
    rw [b91_2]
    simp (disch := omega) only [b91_16, nI_leI, Nat.le_refl, if_true, ffL, nO]
  | succ d ih =>
    intro i hi
    have hni : ¬ 32 ≤ i := by omega
    have hs : nI n >>> (nI i &&& 31) = nI (n / 2 ^ i) := pk_shrN hn _ i (sh_k i (by omega))
    have hd : n / 2 ^ i ≤ n := Nat.div_le_self _ _
    have ha : nI (n / 2 ^ i) &&& nI 1 = nI (n / 2 ^ i % 2) := pk_andN (by omega) 1 (by decide)
    have hm : n / 2 ^ i % 2 < 2 := Nat.mod_lt _ (by omega)
    rw [b91_2]
    simp (disch := omega) only [b91_5, b91_12, b91_14, nI_leI, hni, if_false, hs, ha, nI_eq, nI_add, ih (i + 1) (by omega), ffL, beq_iff_eq]
    by_cases hc : n / 2 ^ i % 2 = 1
    · rw [if_pos hc, if_pos hc]; rfl
    · rw [if_neg hc, if_neg hc]
theorem c_lowestBit {n : Nat} (hn : n < 2 ^ 31) : m_call m_ev 91 y k [.int (nI n)] ls r h = m_ev y k ls (.int (nO (lowF n)) :: r) h := by
  refine cl_v ?_
  show m_ev 91 0 [some (.int (nI n)), none] [] h = _
  rw [b91_0]
  exact low_loop hn 32 0 rfl
theorem c_onTop_no (e : OuA h o X) : m_call m_ev 34 y k [.ref o, .int (-4)] ls r h = m_ev y k ls (.int (nI 0) :: r) h := by
  have hq : m_call m_ev 31 34 4 [.ref o, .int (-4), .int (nI 0)] [some (.ref o), some (.int (-4))] [] h = m_ev 34 4 [some (.ref o), some (.int (-4))] [.int (nI 0)] h := by
    refine cl_v ?_
    show m_ev 31 0 [some (.ref o), some (.int (-4)), some (.int (nI 0))] [] h = _
    rw [b31_0, if_pos (by decide), b31_10]
  refine cl_v ?_
  show m_ev 34 0 [some (.ref o), some (.int (-4))] [] h = _
  simp only [b34_0, ouF e, if_true, hq, b34_4]
-- from
theorem mk0_bb : ∀ p, p ≤ 8 → BB (mk0 p) := by
  intro p
  induction p with
  | zero => intro _ i; show 0 < 2048; omega
  | succ p ih =>
    intro hp
    have : 2 ^ p < 2 ^ 11 := Nat.pow_lt_pow_right (by omega) (by omega)
    exact mkB_bb (ih (by omega)) (by omega)
theorem from_loop (wf : WfH L) {w t : Nat} : ∀ (d p : Nat), p + d = L 7 4 → ∀ (h : MH) (X : LT), CA h hl sp L M T S hp P hk K → OuA h 68 X → OuB X → (∀ i, i < 800 → X 1 i = mk0 p i) → (∀ t, t < 100 → X 0 t = upL L M t) → ∃ h' X', m_ev 81 29 [some (.ref 0), some (.int (nI w)), some (.int (nI t)), some (.int (nI p))] [] h = m_ev 81 44 [some (.ref 0), some (.int (nI w)), some (.int (nI t)), some (.int (nI (L 7 4)))] [] h' ∧ OuA h' 68 X' ∧ OuB X' ∧ (∀ i, i < 800 → X' 1 i = mk0 (L 7 4) i) ∧ (∀ t, t < 100 → X' 0 t = upL L M t) ∧ CA h' hl sp L M T S hp P hk K ∧ Fr 68 71 h h' := by
  have w9 := wf.2.2.2.2.2.2.2.2.1
  intro d
  induction d with
  | zero =>
    intro p hpd h X e f b x1 x0
    obtain rfl : p = L 7 4 := by omega
    refine ⟨h, X, ?_, f, b, x1, x0, e, Fr.rf _ _ _⟩
    rw [b81_29]
    simp (disch := omega) only [oF e.2.1, Option.bind_some, hiF e.2.2.1, nI_leI, Nat.le_refl, if_true]
  | succ d ih =>
    intro p hpd h X e f b x1 x0
    have hnp : ¬ L 7 4 ≤ p := by omega
    have h2p : 2 ^ p < 2 ^ 11 := Nat.pow_lt_pow_right (by omega) (by omega)
    obtain ⟨h1, q1, e1, f1⟩ := c_mark (y := 81) (k := 42) (ls := [some (.ref 0), some (.int (nI w)), some (.int (nI t)), some (.int (nI p))]) (r := []) f (t := 0) (p := p) (who := 2 ^ p) (by omega) (by omega)
    have b1 : OuB (sR X 1 (mkB (X 1) 0 p (2 ^ p))) := ⟨by rw [sR_s]; exact mkB_bb b.1 (by omega), by rw [sR_n _ _ (by omega)]; exact b.2⟩
    obtain ⟨h2, X2, q2, e2, b2, y1, y0, ca2, f2⟩ := ih (p + 1) (by omega) h1 _ (e.ouX e1 b1 f1) e1 b1 (by rw [sR_s]; exact mkB_cg rfl x1) (by rw [sR_n _ _ (by omega)]; exact x0)
    refine ⟨h2, X2, ?_, e2, b2, y1, y0, ca2, f1.tr f2⟩
    rw [b81_29]
    simp (disch := omega) only [oF e.2.1, Option.bind_some, hiF e.2.2.1, nI_leI, hnp, if_false, b81_34, ouF f, if_true, one_shl, q1, b81_42, nI_add]
    exact q2
theorem a_from_bad {x x' : Int32} (hx : x < nI 0 ∨ nI 4 ≤ x) : AN 81 [.ref 0, .int x, .int x'] h (-1) h := by
  refine ⟨?_, Fr.rf _ _ _⟩
  show m_ev 81 0 [some (.ref 0), some (.int x), some (.int x'), none] [] h = _
  simp only [b81_0, c_isWord_no hx, b81_2, if_true, b81_8]
theorem a_from_bad2 {w : Nat} (hw : w ≤ 3) {x' : Int32} (hx : x' < nI 0 ∨ nI 100 ≤ x') : AN 81 [.ref 0, .int (nI w), .int x'] h (-1) h := by
  refine ⟨?_, Fr.rf _ _ _⟩
  have n1 : ¬ nI 1 = nI 0 := by decide
  show m_ev 81 0 [some (.ref 0), some (.int (nI w)), some (.int x'), none] [] h = _
  rcases bad_c hx rfl (by omega) (by omega) with q | ⟨q1, q2, _⟩
  · simp (disch := omega) only [b81_0, c_isWord, if_pos hw, b81_2, n1, if_false, b81_3, if_pos q, b81_8]
  · simp (disch := omega) only [b81_0, c_isWord, if_pos hw, b81_2, n1, if_false, b81_3, if_neg q1, b81_5, if_neg q2, b81_8]
theorem a_from_0 (e : CA h hl sp L M T S hp P hk K) (wf : WfH L) (wm : WfM L M 30000) {w t : Nat} (hw : w ≤ 3) (ht : t ≤ 99) (hn : upL L M t ≠ w) : AN 81 [.ref 0, .int (nI w), .int (nI t)] h (nI 0) h := by
  obtain ⟨c_sw, c_o, c_hi, c_spa, c_tx, c_sc, c_mo, c_tri, c_sh, c_ke, c_se, c_ou, c_ch⟩ := e
  have hu := upL_lt wf M t
  refine ⟨?_, Fr.rf _ _ _⟩
  have n1 : ¬ nI 1 = nI 0 := by decide
  show m_ev 81 0 [some (.ref 0), some (.int (nI w)), some (.int (nI t)), none] [] h = _
  simp (disch := omega) only [b81_0, c_isWord, if_pos hw, b81_2, n1, if_false, b81_3, nI_ltI, nI_leI, Nat.not_lt_zero, b81_5, if_pos ht, b81_10, oF c_o, Option.bind_some, moF c_mo, if_true, c_uppermost c_hi c_mo wf wm, b81_16, nI_eq, if_neg hn, b81_18]
theorem a_from (e : CA h hl sp L M T S hp P hk K) (wf : WfH L) (wm : WfM L M 30000) {w t : Nat} (hw : w ≤ 3) (ht : t ≤ 99) (hn : upL L M t = w) : ∃ h', AN 81 [.ref 0, .int (nI w), .int (nI t)] h (nI (froB L M (t * 8))) h' ∧ CA h' hl sp L M T S hp P hk K := by
  have e' := e
  obtain ⟨c_sw, c_o, c_hi, c_spa, c_tx, c_sc, c_mo, c_tri, c_sh, c_ke, c_se, ⟨X, c_ou, c_b⟩, c_ch⟩ := e'
  have w9 := wf.2.2.2.2.2.2.2.2.1
  have n1 : ¬ nI 1 = nI 0 := by decide
  obtain ⟨h1, q1, e1, f1⟩ := c_prepare (y := 81) (k := 27) (ls := [some (.ref 0), some (.int (nI w)), some (.int (nI t)), none]) (r := []) c_hi c_mo c_ou wf wm (by omega) (by omega)
  have b1 := prX_b (M := M) wf c_b
  have ca1 := e.ouX e1 b1 f1
  obtain ⟨h2, X2, q2, e2, b2, y1, y0, ca2, f2⟩ := from_loop (w := w) (t := t) wf (L 7 4) 0 (by omega) h1 _ ca1 e1 b1 (fun i hi => prX_1 L M X hi) (fun t ht => prX_0 L M X ht)
  obtain ⟨h3, q3, e3, f3⟩ := c_spread (y := 81) (k := 52) (ls := [some (.ref 0), some (.int (nI w)), some (.int (nI t)), some (.int (nI (L 7 4)))]) (r := []) ca2.2.2.1 e2 wf (by omega) (hour := M 2 0) wm.1 (fun t _ => b2.2 t) b2.1
  have ca3 := ca2.ouX e3 ⟨by rw [sR_s]; exact spT_bb b2.1 100, by rw [sR_n _ _ (by omega)]; exact b2.2⟩ f3
  have hcg : spT L (M 2 0) (X2 0) (X2 1) 100 (t * 8) = froB L M (t * 8) := spT_cg wf y0 y1 100 (by omega) _ (by omega)
  refine ⟨h3, ⟨?_, ((f1.tr f2).tr f3).wd (by omega) (by omega)⟩, ca3⟩
  show m_ev 81 0 [some (.ref 0), some (.int (nI w)), some (.int (nI t)), none] [] h = _
  simp (disch := omega) only [b81_0, c_isWord, if_pos hw, b81_2, n1, if_false, b81_3, nI_ltI, nI_leI, Nat.not_lt_zero, b81_5, if_pos ht, b81_10, oF c_o, Option.bind_some, moF c_mo, if_true, c_uppermost c_hi c_mo wf wm, b81_16, hn, b81_20, ouF c_ou, q1, b81_27]
  rw [q2]
  simp (disch := omega) only [b81_44, oF ca2.2.1, Option.bind_some, moF ca2.2.2.2.2.2.2.1, ouF e2, if_true, q3, b81_52, oF ca3.2.1, ouF e3, c_onTop e3, sR_s, hcg, b81_56]
-- first
theorem fsM_bb (a : Nat) : ∀ w, w ≤ 10 → BB (fsM L M a w) := by
  intro w
  induction w with
  | zero => intro _; exact mkB_bb (fun i => by show 0 < 2048; omega) (by omega)
  | succ w ih =>
    intro hw
    have : 2 ^ w < 2 ^ 11 := Nat.pow_lt_pow_right (by omega) (by omega)
    unfold fsM
    cases setL L M a w with
    | none => exact ih (by omega)
    | some d => exact mkB_bb (ih (by omega)) (by omega)
theorem first_loop (wf : WfH L) (wm : WfM L M 30000) {a : Nat} (ha : a < L 7 6) : ∀ (d w : Nat), w + d = L 7 5 → ∀ (h : MH) (X : LT) (d3 : Option Value), CA h hl sp L M T S hp P hk K → OuA h 68 X → OuB X → (∀ i, i < 800 → X 1 i = fsM L M a w i) → (∀ t, t < 100 → X 0 t = upL L M t) → ∃ h' X' d3', m_ev 77 40 [some (.ref 0), some (.int (nI a)), some (.int (nI w)), d3] [] h = m_ev 77 74 [some (.ref 0), some (.int (nI a)), some (.int (nI (L 7 5))), d3'] [] h' ∧ OuA h' 68 X' ∧ OuB X' ∧ (∀ i, i < 800 → X' 1 i = fsM L M a (L 7 5) i) ∧ (∀ t, t < 100 → X' 0 t = upL L M t) ∧ CA h' hl sp L M T S hp P hk K ∧ Fr 68 71 h h' := by
  have w10 := wf.2.2.2.2.2.2.2.2.2.1
  have w12 := wf.2.2.2.2.2.2.2.2.2.2.2.1
  have w9 := wf.2.2.2.2.2.2.2.2.1
  have hpa := (wm.2.2.2.2 a ha).1
  intro d
  induction d with
  | zero =>
    intro w hwd h X d3 e f b x1 x0
    obtain rfl : w = L 7 5 := by omega
    refine ⟨h, X, d3, ?_, f, b, x1, x0, e, Fr.rf _ _ _⟩
    rw [b77_40]
    simp (disch := omega) only [oF e.2.1, Option.bind_some, hiF e.2.2.1, nI_leI, Nat.le_refl, if_true]
  | succ d ih =>
    intro w hwd h X d3 e f b x1 x0
    have hnw : ¬ L 7 5 ≤ w := by omega
    have hww : w < L 7 5 := by omega
    have h2p : 2 ^ w < 2 ^ 11 := Nat.pow_lt_pow_right (by omega) (by omega)
    have c_mo := e.2.2.2.2.2.2.1
    cases hs : setL L M a w with
    | none =>
      have hx : fsM L M a (w + 1) = fsM L M a w := by rw [fsM, hs]
      obtain ⟨h2, X2, d2, q2, e2, b2, y1, y0, ca2, f2⟩ := ih (w + 1) (by omega) h X (some (.int (-4))) e f b (by rw [hx]; exact x1) x0
      refine ⟨h2, X2, d2, ?_, e2, b2, y1, y0, ca2, f2⟩
      rw [b77_40]
      simp (disch := omega) only [oF e.2.1, Option.bind_some, hiF e.2.2.1, nI_leI, hnw, if_false, b77_45, moF c_mo, if_true, c_hoursToSetOut e.2.2.1 c_mo wf wm ha hww, hs, nO, b77_52, b77_72, nI_add]
      exact q2
    | some dd =>
      have hdd := setL_lt wf hww hs
      obtain ⟨pp, hpp⟩ := setL_ot hs
      have hp4 := otL_lt wf hww hpp
      have hx : fsM L M a (w + 1) = mkB (fsM L M a w) dd pp (2 ^ w) := by rw [fsM, hs]; simp only [hpp]; rfl
      obtain ⟨h1, q1, e1, f1⟩ := c_mark (y := 77) (k := 72) (ls := [some (.ref 0), some (.int (nI a)), some (.int (nI w)), some (.int (nI dd))]) (r := []) f (t := dd) (p := pp) (who := 2 ^ w) (by omega) (by omega)
      have b1 : OuB (sR X 1 (mkB (X 1) dd pp (2 ^ w))) := ⟨by rw [sR_s]; exact mkB_bb b.1 (by omega), by rw [sR_n _ _ (by omega)]; exact b.2⟩
      obtain ⟨h2, X2, d2, q2, e2, b2, y1, y0, ca2, f2⟩ := ih (w + 1) (by omega) h1 _ (some (.int (nI dd))) (e.ouX e1 b1 f1) e1 b1 (by rw [sR_s, hx]; exact mkB_cg rfl x1) (by rw [sR_n _ _ (by omega)]; exact x0)
      refine ⟨h2, X2, d2, ?_, e2, b2, y1, y0, ca2, f1.tr f2⟩
      rw [b77_40]
      simp (disch := omega) only [oF e.2.1, Option.bind_some, hiF e.2.2.1, nI_leI, hnw, if_false, b77_45, moF c_mo, if_true, c_hoursToSetOut e.2.2.1 c_mo wf wm ha hww, hs, nO, b77_52, if_neg (nI_neg4 (show dd < 2 ^ 31 by omega)), b77_56, c_otherEnd e.2.2.1 wf hww, hpp, b77_68, ouF f, one_shl, q1, b77_72, nI_add]
      exact q2
theorem a_first_bad (e : CA h hl sp L M T S hp P hk K) (wf : WfH L) {x : Int32} (hx : x < nI 0 ∨ nI (L 7 6) ≤ x) : AN 77 [.ref 0, .int x] h (-1) h := by
  obtain ⟨c_sw, c_o, c_hi, c_spa, c_tx, c_sc, c_mo, c_tri, c_sh, c_ke, c_se, c_ou, c_ch⟩ := e
  refine ⟨?_, Fr.rf _ _ _⟩
  show m_ev 77 0 [some (.ref 0), some (.int x), none, none] [] h = _
  simp only [b77_0, oF c_o, Option.bind_some, hiF c_hi, if_true, c_hasAsker_no c_hi wf.2.2.2.2.2.2.2.2.2.2.2.1 hx, b77_4, b77_5]
theorem a_first (e : CA h hl sp L M T S hp P hk K) (wf : WfH L) (wm : WfM L M 30000) {a : Nat} (ha : a < L 7 6) : ∃ h', AN 77 [.ref 0, .int (nI a)] h (nO (firF L M a)) h' ∧ CA h' hl sp L M T S hp P hk K := by
  have e' := e
  obtain ⟨c_sw, c_o, c_hi, c_spa, c_tx, c_sc, c_mo, c_tri, c_sh, c_ke, c_se, ⟨X, c_ou, c_b⟩, c_ch⟩ := e'
  have w12 := wf.2.2.2.2.2.2.2.2.2.2.2.1
  have w10 := wf.2.2.2.2.2.2.2.2.2.1
  have w9 := wf.2.2.2.2.2.2.2.2.1
  obtain ⟨hpa, hla⟩ := wm.2.2.2.2 a ha
  have n1 : ¬ nI 1 = nI 0 := by decide
  by_cases hc : 0 < M 1 a ∨ M 0 a = 0
  · refine ⟨h, ⟨?_, Fr.rf _ _ _⟩, e⟩
    show m_ev 77 0 [some (.ref 0), some (.int (nI a)), none, none] [] h = _
    simp (disch := omega) only [b77_0, oF c_o, Option.bind_some, hiF c_hi, if_true, c_hasAsker c_hi w12 ha, b77_4, n1, if_false, b77_7, moF c_mo, nI_ltI, b77_13, nI_eq, b77_19, firF, if_pos hc, nO]
    by_cases h1 : 0 < M 1 a
    · rw [if_pos h1]
    · rw [if_neg h1, if_pos (by omega)]
  · have h1 : ¬ 0 < M 1 a := fun q => hc (Or.inl q)
    have h0 : ¬ M 0 a = 0 := fun q => hc (Or.inr q)
    obtain ⟨h1', q1, e1, f1⟩ := c_prepare (y := 77) (k := 28) (ls := [some (.ref 0), some (.int (nI a)), none, none]) (r := []) c_hi c_mo c_ou wf wm (by omega) (by omega)
    have b1 := prX_b (M := M) wf c_b
    have ca1 := e.ouX e1 b1 f1
    obtain ⟨h2, q2, e2, f2⟩ := c_mark (y := 77) (k := 38) (ls := [some (.ref 0), some (.int (nI a)), none, none]) (r := []) e1 (t := 0) (p := M 0 a) (who := 1024) (by omega) (by omega)
    have b2 : OuB (sR (prX L M X) 1 (mkB ((prX L M X) 1) 0 (M 0 a) 1024)) := ⟨by rw [sR_s]; exact mkB_bb b1.1 (by omega), by rw [sR_n _ _ (by omega)]; exact b1.2⟩
    have ca2 := ca1.ouX e2 b2 f2
    obtain ⟨h3, X3, d3, q3, e3, b3, y1, y0, ca3, f3⟩ := first_loop wf wm ha (L 7 5) 0 (by omega) h2 _ none ca2 e2 b2 (by rw [sR_s]; exact mkB_cg rfl (fun i hi => prX_1 L M X hi)) (by rw [sR_n _ _ (by omega)]; exact fun t ht => prX_0 L M X ht)
    obtain ⟨h4, q4, e4, f4⟩ := c_spread (y := 77) (k := 82) (ls := [some (.ref 0), some (.int (nI a)), some (.int (nI (L 7 5))), d3]) (r := []) ca3.2.2.1 e3 wf (by omega) (hour := M 2 0) wm.1 (fun t _ => b3.2 t) b3.1
    have b4 : OuB (sR X3 1 (spT L (M 2 0) (X3 0) (X3 1) 100)) := ⟨by rw [sR_s]; exact spT_bb b3.1 100, by rw [sR_n _ _ (by omega)]; exact b3.2⟩
    have ca4 := ca3.ouX e4 b4 f4
    have hcg : ∀ i, i < 800 → spT L (M 2 0) (X3 0) (X3 1) 100 i = firB L M a i := fun i hi => spT_cg wf y0 y1 100 (by omega) i hi
    refine ⟨h4, ⟨?_, (((f1.tr f2).tr f3).tr f4).wd (by omega) (by omega)⟩, ca4⟩
    show m_ev 77 0 [some (.ref 0), some (.int (nI a)), none, none] [] h = _
    have ht : ffL (fun t => (sR X3 1 (spT L (M 2 0) (X3 0) (X3 1) 100)) 1 (t * 8) != 0) 100 0 = ffL (fun t => firB L M a (t * 8) != 0) 100 0 := ffL_cg 100 0 (fun j _ hj => by rw [sR_s, hcg _ (by omega)])
    simp (disch := omega) only [b77_0, oF c_o, Option.bind_some, hiF c_hi, if_true, c_hasAsker c_hi w12 ha, b77_4, n1, if_false, b77_7, moF c_mo, nI_ltI, if_neg h1, b77_13, nI_eq, if_neg h0, b77_21, ouF c_ou, q1, b77_28, oF ca1.2.1, moF ca1.2.2.2.2.2.2.1, ouF e1, q2, b77_38]
    rw [q3]
    simp (disch := omega) only [b77_74, oF ca3.2.1, Option.bind_some, moF ca3.2.2.2.2.2.2.1, ouF e3, if_true, q4, b77_82, oF ca4.2.1, ouF e4, c_soonestTopOfAny e4 b4.1, ht, b77_87]
    unfold firF
    rw [if_neg hc]
    cases hf : ffL (fun t => firB L M a (t * 8) != 0) 100 0 with
    | none =>
      simp (disch := omega) only [nO, c_onTop_no e4, b77_88, c_lowestBit, b77_89]
      rfl
    | some t =>
      have htl := (ffL_lt _ _ _ hf).2.1
      have hbt : firB L M a (t * 8) < 2048 := spT_bb (fsM_bb a _ w10) 100 _
      have hv : (sR X3 1 (spT L (M 2 0) (X3 0) (X3 1) 100)) 1 (t * 8) = firB L M a (t * 8) := by rw [sR_s, hcg _ (by omega)]
      simp (disch := omega) only [nO, c_onTop e4, hv, b77_88, c_lowestBit, b77_89]
      try rfl
-- laws
theorem lawE_loop (e : CA h hl sp L M T S hp P hk K) (wf : WfH L) (wm : WfM L M 30000) (h6 : S 2 0 ≤ 6) (hS : ∀ i, i < S 2 0 → S 0 i ≤ 3 ∧ S 1 i ≤ 99) {q s : Nat} (hs : s ≤ 11) : ∀ (d ev : Nat), ev + d = 25 → 1 ≤ ev → ∀ (p : Nat × Option Nat), p.1 + d ≤ 1000 → m_ev 80 18 [some (.ref 0), some (.int (nI q)), some (.int (nI p.1)), some (.int (nO p.2)), some (.int (nI s)), some (.int (nI ev))] [] h = m_ev 80 13 [some (.ref 0), some (.int (nI q)), some (.int (nI (lawE L M S s d ev p).1)), some (.int (nO (lawE L M S s d ev p).2)), some (.int (nI (s + 1))), some (.int (nI 25))] [] h := by
  obtain ⟨c_sw, c_o, c_hi, c_spa, c_tx, c_sc, c_mo, c_tri, c_sh, c_ke, c_se, c_ou, c_ch⟩ := e
  have n1 : ¬ nI 1 = nI 0 := by decide
  intro d
  induction d with
  | zero =>
    intro ev hev h1 p hp2
    obtain rfl : ev = 25 := by omega
    rw [b80_18]
    simp (disch := omega) only [b80_44, nI_ltI, if_pos (show 24 < 25 by omega), nI_add, lawE]
  | succ d ih =>
    intro ev hev h1 p hp2
    have hne : ¬ 24 < ev := by omega
    rw [b80_18]
    simp (disch := omega) only [nI_ltI, hne, if_false, b80_21, oF c_o, Option.bind_some, seF c_se, if_true, c_fits c_hi c_mo c_se wf wm h6 (fun i hi => by have := hS i hi; omega) hs (show 1 ≤ ev ∧ ev ≤ 24 by omega)]
    unfold lawE
    cases hf : alL (fitL L M S s ev) (S 2 0) 0 with
    | false =>
      simp (disch := omega) only [b01_f, b80_30, if_true, b80_42, nI_add, Bool.false_eq_true, if_false]
      exact ih (ev + 1) (by omega) (by omega) p (by omega)
    | true =>
      simp (disch := omega) only [b01_t, b80_30, n1, if_false, b80_31, nI_eq, if_true]
      by_cases h0 : p.1 = 0
      · have hh := ih (ev + 1) (by omega) (by omega) (p.1 + 1, some (100 * s + ev)) (by show p.1 + 1 + d ≤ 1000; omega)
        simp only [if_pos h0]
        simp only [b80_33, nI_mulN, nI_add]
        exact hh
      · have hh := ih (ev + 1) (by omega) (by omega) (p.1 + 1, p.2) (by show p.1 + 1 + d ≤ 1000; omega)
        simp only [if_neg h0]
        simp only [b80_39, nI_add]
        exact hh
theorem lawD_loop (e : CA h hl sp L M T S hp P hk K) (wf : WfH L) (wm : WfM L M 30000) (h6 : S 2 0 ≤ 6) (hS : ∀ i, i < S 2 0 → S 0 i ≤ 3 ∧ S 1 i ≤ 99) {q : Nat} (hq : q ≤ 1) : ∀ (d s : Nat), s + d = 12 → ∀ (p : Nat × Option Nat) (d5 : Option Value), p.1 + 24 * d ≤ 900 → m_ev 80 13 [some (.ref 0), some (.int (nI q)), some (.int (nI p.1)), some (.int (nO p.2)), some (.int (nI s)), d5] [] h = some (some (.int (if q = 0 then nI (lawD L M S d s p).1 else nO (lawD L M S d s p).2)), h) := by
  intro d
  induction d with
  | zero =>
    intro s hs p d5 hp2
    obtain rfl : s = 12 := by omega
    rw [b80_13]
    simp (disch := omega) only [nI_ltI, if_pos (show 11 < 12 by omega), b80_46, nI_eq, b80_48, b80_50, lawD]
    split <;> rfl
  | succ d ih =>
    intro s hs p d5 hp2
    have hle := lawE_le L M S s 24 1 p
    rw [b80_13]
    simp (disch := omega) only [nI_ltI, if_neg (show ¬ 11 < s by omega), b80_16]
    rw [lawE_loop e wf wm h6 hS (show s ≤ 11 by omega) 24 1 rfl (by omega) p (by omega), ih (s + 1) (by omega) _ _ (by omega)]
    rfl
theorem a_laws_bad {x : Int32} (hx : x < nI 0 ∨ nI 2 ≤ x) : AN 80 [.ref 0, .int x] h (-1) h := by
  refine ⟨?_, Fr.rf _ _ _⟩
  show m_ev 80 0 [some (.ref 0), some (.int x), none, none, none, none] [] h = _
  rcases bad_c hx rfl (by omega) (by omega) with q | ⟨q1, q2, _⟩
  · rw [b80_0, if_pos q, b80_5]
  · rw [b80_0, if_neg q1, b80_2, if_neg q2, b80_5]
theorem a_laws (e : CA h hl sp L M T S hp P hk K) (wf : WfH L) (wm : WfM L M 30000) (h6 : S 2 0 ≤ 6) (hS : ∀ i, i < S 2 0 → S 0 i ≤ 3 ∧ S 1 i ≤ 99) {q : Nat} (hq : q ≤ 1) : AN 80 [.ref 0, .int (nI q)] h (if q = 0 then nI (lawD L M S 12 0 (0, none)).1 else nO (lawD L M S 12 0 (0, none)).2) h := by
  refine ⟨?_, Fr.rf _ _ _⟩
  show m_ev 80 0 [some (.ref 0), some (.int (nI q)), none, none, none, none] [] h = _
  simp (disch := omega) only [b80_0, b80_2, nI_ltI, nI_leI, Nat.not_lt_zero, if_false, if_pos hq, b80_7]
  exact lawD_loop e wf wm h6 hS hq 12 0 rfl (0, none) none (by show 0 + 24 * 12 ≤ 900; omega)
end
