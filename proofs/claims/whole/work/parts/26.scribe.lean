/-! Hill's writers, the Scribe's signs -/
section
variable {y k : Nat} {ls : ML} {r : List Value} {h : MH} {g m a t : Nat} {L M T C : LT}
theorem hiW7 (e : HiA h g L) (kk k x : Nat) (hk : kk = k + 7) (h7 : k < 7) : ∃ h', m_pf h g 0 kk (.int (nI x)) = some h' ∧ HiA h' g (uL L 7 k x) ∧ Fr g (g + 8) h h' := by
  obtain ⟨e0, e1, e2, e3, e4, e5, e6, e7⟩ := e
  subst hk
  refine ⟨_, kH_pf e0 (by omega), ⟨?_, st_ne (by omega) e1, st_ne (by omega) e2, st_ne (by omega) e3, st_ne (by omega) e4, st_ne (by omega) e5, st_ne (by omega) e6, st_ne (by omega) e7⟩, Fr.st (by omega) (by omega)⟩
  rw [st_eq e0]
  have : ∀ j, 7 ≤ j → upd (fun k => nI (L 7 (k - 7))) (k + 7) (nI x) j = nI (uL L 7 k x 7 (j - 7)) := by
    intro j hj
    unfold upd uL
    by_cases hjk : j = k + 7
    · subst hjk; simp
    · have : ¬ j - 7 = k := by omega
      simp [hjk, this]
  simp [kH, this]
theorem hiW0 (e : HiA h g L) {k : Nat} (x : Nat) (hk : k < 12) : ∃ h', m_pi h (g + 1) 0 (nI k) (nI x) = some h' ∧ HiA h' g (uL L 0 k x) ∧ Fr g (g + 8) h h' := by
  obtain ⟨e0, e1, e2, e3, e4, e5, e6, e7⟩ := e
  refine ⟨_, pi_e e1 hk (by decide), ⟨st_ne (by omega) e0, ?_, st_ne (by omega) e2, st_ne (by omega) e3, st_ne (by omega) e4, st_ne (by omega) e5, st_ne (by omega) e6, st_ne (by omega) e7⟩, Fr.st (by omega) (by omega)⟩
  rw [st_eq e1, upd_nI]
  simp [uL]
theorem hiW1 (e : HiA h g L) {k : Nat} (x : Nat) (hk : k < 10) : ∃ h', m_pi h (g + 2) 0 (nI k) (nI x) = some h' ∧ HiA h' g (uL L 1 k x) ∧ Fr g (g + 8) h h' := by
  obtain ⟨e0, e1, e2, e3, e4, e5, e6, e7⟩ := e
  refine ⟨_, pi_e e2 hk (by decide), ⟨st_ne (by omega) e0, st_ne (by omega) e1, ?_, st_ne (by omega) e3, st_ne (by omega) e4, st_ne (by omega) e5, st_ne (by omega) e6, st_ne (by omega) e7⟩, Fr.st (by omega) (by omega)⟩
  rw [st_eq e2, upd_nI]
  simp [uL]
theorem hiW2 (e : HiA h g L) {k : Nat} (x : Nat) (hk : k < 10) : ∃ h', m_pi h (g + 3) 0 (nI k) (nI x) = some h' ∧ HiA h' g (uL L 2 k x) ∧ Fr g (g + 8) h h' := by
  obtain ⟨e0, e1, e2, e3, e4, e5, e6, e7⟩ := e
  refine ⟨_, pi_e e3 hk (by decide), ⟨st_ne (by omega) e0, st_ne (by omega) e1, st_ne (by omega) e2, ?_, st_ne (by omega) e4, st_ne (by omega) e5, st_ne (by omega) e6, st_ne (by omega) e7⟩, Fr.st (by omega) (by omega)⟩
  rw [st_eq e3, upd_nI]
  simp [uL]
theorem hiW3 (e : HiA h g L) {k : Nat} (x : Nat) (hk : k < 10) : ∃ h', m_pi h (g + 4) 0 (nI k) (nI x) = some h' ∧ HiA h' g (uL L 3 k x) ∧ Fr g (g + 8) h h' := by
  obtain ⟨e0, e1, e2, e3, e4, e5, e6, e7⟩ := e
  refine ⟨_, pi_e e4 hk (by decide), ⟨st_ne (by omega) e0, st_ne (by omega) e1, st_ne (by omega) e2, st_ne (by omega) e3, ?_, st_ne (by omega) e5, st_ne (by omega) e6, st_ne (by omega) e7⟩, Fr.st (by omega) (by omega)⟩
  rw [st_eq e4, upd_nI]
  simp [uL]
theorem hiW4 (e : HiA h g L) {k : Nat} (x : Nat) (hk : k < 10) : ∃ h', m_pi h (g + 5) 0 (nI k) (nI x) = some h' ∧ HiA h' g (uL L 4 k x) ∧ Fr g (g + 8) h h' := by
  obtain ⟨e0, e1, e2, e3, e4, e5, e6, e7⟩ := e
  refine ⟨_, pi_e e5 hk (by decide), ⟨st_ne (by omega) e0, st_ne (by omega) e1, st_ne (by omega) e2, st_ne (by omega) e3, st_ne (by omega) e4, ?_, st_ne (by omega) e6, st_ne (by omega) e7⟩, Fr.st (by omega) (by omega)⟩
  rw [st_eq e5, upd_nI]
  simp [uL]
theorem hiW5 (e : HiA h g L) {k : Nat} (x : Nat) (hk : k < 4) : ∃ h', m_pi h (g + 6) 0 (nI k) (nI x) = some h' ∧ HiA h' g (uL L 5 k x) ∧ Fr g (g + 8) h h' := by
  obtain ⟨e0, e1, e2, e3, e4, e5, e6, e7⟩ := e
  refine ⟨_, pi_e e6 hk (by decide), ⟨st_ne (by omega) e0, st_ne (by omega) e1, st_ne (by omega) e2, st_ne (by omega) e3, st_ne (by omega) e4, st_ne (by omega) e5, ?_, st_ne (by omega) e7⟩, Fr.st (by omega) (by omega)⟩
  rw [st_eq e6, upd_nI]
  simp [uL]
theorem hiW6 (e : HiA h g L) {k : Nat} (x : Nat) (hk : k < 4) : ∃ h', m_pi h (g + 7) 0 (nI k) (nI x) = some h' ∧ HiA h' g (uL L 6 k x) ∧ Fr g (g + 8) h h' := by
  obtain ⟨e0, e1, e2, e3, e4, e5, e6, e7⟩ := e
  refine ⟨_, pi_e e7 hk (by decide), ⟨st_ne (by omega) e0, st_ne (by omega) e1, st_ne (by omega) e2, st_ne (by omega) e3, st_ne (by omega) e4, st_ne (by omega) e5, st_ne (by omega) e6, ?_⟩, Fr.st (by omega) (by omega)⟩
  rw [st_eq e7, upd_nI]
  simp [uL]
def adW (L : LT) (w : Nat) : LT := uL (uL L 0 (L 7 0) w) 7 0 (L 7 0 + 1)
def adY (L : LT) (k a b d : Nat) : LT := uL (uL (uL (uL (uL L 1 (L 7 5) k) 2 (L 7 5) a) 3 (L 7 5) b) 4 (L 7 5) d) 7 5 (L 7 5 + 1)
def adK (L : LT) (p w : Nat) : LT := uL (uL (uL L 5 (L 7 6) p) 6 (L 7 6) w) 7 6 (L 7 6 + 1)
def clL (L : LT) : LT := uL (uL (uL (uL (uL (uL (adW (adW (uL L 7 0 0) 0) 1) 7 1 1) 7 2 24) 7 3 0) 7 4 4) 7 5 0) 7 6 0
theorem c_addWord (e : HiA h g L) (hn : L 7 0 < 12) (w : Nat) : ∃ h', m_call m_ev 2 y k [.ref g, .int (nI w)] ls r h = m_ev y k ls (.int (nI 1) :: r) h' ∧ HiA h' g (adW L w) ∧ Fr g (g + 8) h h' := by
  obtain ⟨h1, q1, e1, f1⟩ := hiW0 e w hn
  obtain ⟨h2, q2, e2, f2⟩ := hiW7 e1 7 0 (L 7 0 + 1) rfl (by omega)
  have hu : (uL L 0 (L 7 0) w) 7 0 = L 7 0 := uL_r _ _ _ _ (by omega)
  refine ⟨h2, cl_v ?_, e2, f1.tr f2⟩
  show m_ev 2 0 [some (.ref g), some (.int (nI w))] [] h = _
  simp (disch := omega) only [b2_0, b2_3, b2_11, hiF e, hiF e1, hu, Option.bind_some, nI_ltI, q1, nI_add, q2]
  (repeat' split) <;> first | rfl | (exfalso; omega)
theorem c_clearHill (e : HiA h g L) : ∃ h', m_call m_ev 1 y k [.ref g] ls r h = m_ev y k ls r h' ∧ HiA h' g (clL L) ∧ Fr g (g + 8) h h' := by
  obtain ⟨h1, q1, e1, f1⟩ := hiW7 e 7 0 0 rfl (by omega)
  obtain ⟨h2, q2, e2, f2⟩ := c_addWord (y := 1) (k := 6) (ls := [some (.ref g)]) (r := []) e1 (by simp [uL]) 0
  obtain ⟨h3, q3, e3, f3⟩ := c_addWord (y := 1) (k := 10) (ls := [some (.ref g)]) (r := []) e2 (by simp [adW, uL]) 1
  obtain ⟨h4, q4, e4, f4⟩ := hiW7 e3 8 1 1 rfl (by omega)
  obtain ⟨h5, q5, e5, f5⟩ := hiW7 e4 9 2 24 rfl (by omega)
  obtain ⟨h6, q6, e6, f6⟩ := hiW7 e5 10 3 0 rfl (by omega)
  obtain ⟨h7, q7, e7, f7⟩ := hiW7 e6 11 4 4 rfl (by omega)
  obtain ⟨h8, q8, e8, f8⟩ := hiW7 e7 12 5 0 rfl (by omega)
  obtain ⟨h9, q9, e9, f9⟩ := hiW7 e8 13 6 0 rfl (by omega)
  refine ⟨h9, cl_0 ?_, e9, (((((((f1.tr f2).tr f3).tr f4).tr f5).tr f6).tr f7).tr f8).tr f9⟩
  show m_ev 1 0 [some (.ref g)] [] h = _
  simp only [b1_0, q1, Option.bind_some, hiF e1, if_true, q2, b1_6, hiF e2, q3, b1_10, q4, q5, q6, q7, q8, q9]
theorem c_addWay (e : HiA h g L) (hn : L 7 5 < 10) (k1 a1 b1 d1 : Nat) : ∃ h', m_call m_ev 3 y k [.ref g, .int (nI k1), .int (nI a1), .int (nI b1), .int (nI d1)] ls r h = m_ev y k ls (.int (nI 1) :: r) h' ∧ HiA h' g (adY L k1 a1 b1 d1) ∧ Fr g (g + 8) h h' := by
  obtain ⟨h1, q1, e1, f1⟩ := hiW1 e k1 hn
  obtain ⟨h2, q2, e2, f2⟩ := hiW2 e1 a1 hn
  obtain ⟨h3, q3, e3, f3⟩ := hiW3 e2 b1 hn
  obtain ⟨h4, q4, e4, f4⟩ := hiW4 e3 d1 hn
  obtain ⟨h5, q5, e5, f5⟩ := hiW7 e4 12 5 (L 7 5 + 1) rfl (by omega)
  have u1 : (uL L 1 (L 7 5) k1) 7 5 = L 7 5 := uL_r _ _ _ _ (by omega)
  have u2 : (uL (uL L 1 (L 7 5) k1) 2 (L 7 5) a1) 7 5 = L 7 5 := by rw [uL_r _ _ _ _ (by omega), u1]
  have u3 : (uL (uL (uL L 1 (L 7 5) k1) 2 (L 7 5) a1) 3 (L 7 5) b1) 7 5 = L 7 5 := by rw [uL_r _ _ _ _ (by omega), u2]
  have u4 : (uL (uL (uL (uL L 1 (L 7 5) k1) 2 (L 7 5) a1) 3 (L 7 5) b1) 4 (L 7 5) d1) 7 5 = L 7 5 := by rw [uL_r _ _ _ _ (by omega), u3]
  refine ⟨h5, cl_v ?_, e5, (((f1.tr f2).tr f3).tr f4).tr f5⟩
  show m_ev 3 0 [some (.ref g), some (.int (nI k1)), some (.int (nI a1)), some (.int (nI b1)), some (.int (nI d1))] [] h = _
  simp (disch := omega) only [b3_0, b3_3, b3_9, hiF e, hiF e1, hiF e2, hiF e3, hiF e4, u1, u2, u3, u4, Option.bind_some, nI_ltI, q1, q2, q3, q4, nI_add, q5]
  (repeat' split) <;> first | rfl | (exfalso; omega)
theorem c_addWay_no (e : HiA h g L) (hn : L 7 5 = 10) (x1 x2 x3 x4 : Int32) : m_call m_ev 3 y k [.ref g, .int x1, .int x2, .int x3, .int x4] ls r h = m_ev y k ls (.int (nI 0) :: r) h := by
  refine cl_v ?_
  show m_ev 3 0 [some (.ref g), some (.int x1), some (.int x2), some (.int x3), some (.int x4)] [] h = _
  simp (disch := omega) only [b3_0, b3_3, b3_7, hiF e, hn, Option.bind_some, nI_ltI]
  (repeat' split) <;> first | rfl | (exfalso; omega)
theorem c_addAsker (e : HiA h g L) (hn : L 7 6 < 4) (p w : Nat) : ∃ h', m_call m_ev 4 y k [.ref g, .int (nI p), .int (nI w)] ls r h = m_ev y k ls (.int (nI 1) :: r) h' ∧ HiA h' g (adK L p w) ∧ Fr g (g + 8) h h' := by
  obtain ⟨h1, q1, e1, f1⟩ := hiW5 e p hn
  obtain ⟨h2, q2, e2, f2⟩ := hiW6 e1 w hn
  obtain ⟨h3, q3, e3, f3⟩ := hiW7 e2 13 6 (L 7 6 + 1) rfl (by omega)
  have u1 : (uL L 5 (L 7 6) p) 7 6 = L 7 6 := uL_r _ _ _ _ (by omega)
  have u2 : (uL (uL L 5 (L 7 6) p) 6 (L 7 6) w) 7 6 = L 7 6 := by rw [uL_r _ _ _ _ (by omega), u1]
  refine ⟨h3, cl_v ?_, e3, (f1.tr f2).tr f3⟩
  show m_ev 4 0 [some (.ref g), some (.int (nI p)), some (.int (nI w))] [] h = _
  simp (disch := omega) only [b4_0, b4_3, b4_9, hiF e, hiF e1, hiF e2, u1, u2, Option.bind_some, nI_ltI, q1, q2, nI_add, q3]
  (repeat' split) <;> first | rfl | (exfalso; omega)
theorem c_addAsker_no (e : HiA h g L) (hn : L 7 6 = 4) (x1 x2 : Int32) : m_call m_ev 4 y k [.ref g, .int x1, .int x2] ls r h = m_ev y k ls (.int (nI 0) :: r) h := by
  refine cl_v ?_
  show m_ev 4 0 [some (.ref g), some (.int x1), some (.int x2)] [] h = _
  simp (disch := omega) only [b4_0, b4_3, b4_7, hiF e, hn, Option.bind_some, nI_ltI]
  (repeat' split) <;> first | rfl | (exfalso; omega)
theorem c_isWord {w : Nat} (hw : w < 2 ^ 31) : m_call m_ev 88 y k [.int (nI w)] ls r h = m_ev y k ls (.int (nI (if w ≤ 3 then 1 else 0)) :: r) h := by
  refine cl_v ?_
  show m_ev 88 0 [some (.int (nI w))] [] h = _
  simp (disch := omega) only [b88_0, b88_2, b88_5, b88_7, nI_ltI]
  (repeat' split) <;> first | rfl | (exfalso; omega)
theorem c_isWord_no {x : Int32} (hx : x < nI 0 ∨ nI 4 ≤ x) : m_call m_ev 88 y k [.int x] ls r h = m_ev y k ls (.int (nI 0) :: r) h := by
  refine cl_v ?_
  show m_ev 88 0 [some (.int x)] [] h = _
  rw [b88_0]
  rcases hx with q | q
  · rw [if_pos q, b88_7]
  · have e1 : ¬ x < nI 0 := by
      intro q2
      have := Int32.lt_of_le_of_lt q q2
      exact absurd this (by decide)
    have e2 : nI 3 < x := Int32.lt_of_lt_of_le (by decide) q
    rw [if_neg e1, b88_2, if_pos e2, b88_7]
-- the Scribe: C 0 told, C 1 0 at
def ScA (h : MH) (a t : Nat) (C : LT) : Prop := h[a]? = some (kSc a t (fun _ => nI (C 1 0))) ∧ h[a + 1]? = some (kI 4 (fun i => nI (C 0 i)))
theorem Fr.sc {lo hi a t : Nat} {h h' : MH} {C : LT} (f : Fr lo hi h h') (hb : a + 2 ≤ lo ∨ hi ≤ a) (e : ScA h a t C) : ScA h' a t C := ⟨f.at (by omega) e.1, f.at (by omega) e.2⟩
theorem scF (e : ScA h a t C) : m_cls h a = some 3 ∧ m_fi h a 3 2 = some (nI (C 1 0)) ∧ m_fr h a 3 0 = some (a + 1) ∧ m_fr h a 3 1 = some t ∧ m_al h (a + 1) = some (nI 4) ∧ (∀ k, k < 4 → m_ai h (a + 1) 0 (nI k) = some (nI (C 0 k))) := by
  obtain ⟨e0, e1⟩ := e
  exact ⟨cls_e e0, fi_e e0 rfl, fr_e e0 rfl, fr_e e0 rfl, al_e e1 (by decide), fun k hk => ai_e e1 hk (by decide)⟩
theorem scW0 (e : ScA h a t C) {k : Nat} (x : Nat) (hk : k < 4) : ∃ h', m_pi h (a + 1) 0 (nI k) (nI x) = some h' ∧ ScA h' a t (uL C 0 k x) ∧ Fr a (a + 2) h h' := by
  obtain ⟨e0, e1⟩ := e
  refine ⟨_, pi_e e1 hk (by decide), ⟨st_ne (by omega) e0, ?_⟩, Fr.st (by omega) (by omega)⟩
  rw [st_eq e1, upd_nI]
  simp [uL]
theorem scW1 (e : ScA h a t C) (x : Nat) : ∃ h', m_pf h a 3 2 (.int (nI x)) = some h' ∧ ScA h' a t (uL C 1 0 x) ∧ Fr a (a + 2) h h' := by
  obtain ⟨e0, e1⟩ := e
  refine ⟨_, pf_e e0 (by show 2 < 3; omega), ⟨?_, st_ne (by omega) e1⟩, Fr.st (by omega) (by omega)⟩
  rw [st_eq e0]
  simp [kSc, uL]
def WfT (T : LT) : Prop := T 1 0 ≤ 200 ∧ ∀ i, i < T 1 0 → T 0 i < 128
def ltT (T : LT) (i : Nat) : Nat := if i < T 1 0 then T 0 i else 0
def isF (c : Nat) : Bool := decide (48 ≤ c ∧ c ≤ 57)
def avC (C : LT) : LT := uL C 1 0 (C 1 0 + 1)
theorem ltT_lt (wt : WfT T) (i : Nat) : ltT T i < 128 := by
  unfold ltT; split
  · exact wt.2 _ (by assumption)
  · omega
theorem c_lt (e : TxA h t T) (wt : WfT T) {i : Nat} (hi : i < 2 ^ 31) : m_call m_ev 57 y k [.ref t, .int (nI i)] ls r h = m_ev y k ls (.int (nI (ltT T i)) :: r) h := c_letterAt e wt.1 hi wt.2
theorem c_isAtFigure (e : ScA h a t C) (f : TxA h t T) (wt : WfT T) (hC : C 1 0 < 2 ^ 30) : m_call m_ev 47 y k [.ref a] ls r h = m_ev y k ls (.int (nI (b01 (isF (ltT T (C 1 0))))) :: r) h := by
  have hl := ltT_lt wt (C 1 0)
  refine cl_v ?_
  show m_ev 47 0 [some (.ref a), none] [] h = _
  simp (disch := omega) only [b47_0, b47_5, b47_9, b47_12, b47_14, scF e, txF f, Option.bind_some, if_true, c_lt f wt, nI_ltI, isF, b01, decide_eq_true_eq]
  (repeat' split) <;> first | rfl | (exfalso; omega)
theorem c_takes (e : ScA h a t C) (f : TxA h t T) (wt : WfT T) (hC : C 1 0 < 2 ^ 30) {c : Nat} (hc : ltT T (C 1 0) = c) : ∃ h', m_call m_ev 46 y k [.ref a, .int (nI c)] ls r h = m_ev y k ls (.int (nI 1) :: r) h' ∧ ScA h' a t (avC C) ∧ Fr a (a + 2) h h' := by
  obtain ⟨h1, q1, e1, f1⟩ := scW1 e (C 1 0 + 1)
  refine ⟨h1, cl_v ?_, e1, f1⟩
  show m_ev 46 0 [some (.ref a), some (.int (nI c))] [] h = _
  simp (disch := omega) only [b46_0, b46_5, b46_9, scF e, txF f, Option.bind_some, if_true, c_lt f wt, hc, nI_add, q1]
theorem c_takes_no (e : ScA h a t C) (f : TxA h t T) (wt : WfT T) (hC : C 1 0 < 2 ^ 30) {c : Nat} (hc4 : c < 128) (hc : ¬ ltT T (C 1 0) = c) : m_call m_ev 46 y k [.ref a, .int (nI c)] ls r h = m_ev y k ls (.int (nI 0) :: r) h := by
  have hl := ltT_lt wt (C 1 0)
  refine cl_v ?_
  show m_ev 46 0 [some (.ref a), some (.int (nI c))] [] h = _
  simp (disch := omega) only [b46_0, b46_5, b46_7, scF e, txF f, Option.bind_some, if_true, c_lt f wt, nI_eq, if_neg hc]
theorem c_takeFigure (e : ScA h a t C) (f : TxA h t T) (wt : WfT T) (hC : C 1 0 < 2 ^ 30) (hd : 48 ≤ ltT T (C 1 0)) : ∃ h', m_call m_ev 45 y k [.ref a] ls r h = m_ev y k ls (.int (nI (ltT T (C 1 0) - 48)) :: r) h' ∧ ScA h' a t (avC C) ∧ Fr a (a + 2) h h' := by
  obtain ⟨h1, q1, e1, f1⟩ := scW1 e (C 1 0 + 1)
  refine ⟨h1, cl_v ?_, e1, f1⟩
  show m_ev 45 0 [some (.ref a), none] [] h = _
  simp (disch := omega) only [b45_0, b45_5, scF e, txF f, Option.bind_some, if_true, c_lt f wt, nI_add, q1, nI_subN]
/-- behind the sign that parts numbers -/
def sgP (i : Nat) (C : LT) : LT := if i = 0 then C else avC C
/-- a number of one or two figures -/
def fgP (T : LT) (i : Nat) (C : LT) : LT := if isF (ltT T (C 1 0 + 1)) = true then uL (avC (uL (avC C) 0 i (ltT T (C 1 0) - 48))) 0 i (10 * (ltT T (C 1 0) - 48) + (ltT T (C 1 0 + 1) - 48)) else uL (avC C) 0 i (ltT T (C 1 0) - 48)
def numP (T : LT) : Nat → Nat → LT → Bool × LT
  | 0, _, C => (true, C)
  | d + 1, i, C => if i = 0 ∨ ltT T (C 1 0) = 44 then (if isF (ltT T ((sgP i C) 1 0)) = true then numP T d (i + 1) (fgP T i (sgP i C)) else (false, sgP i C)) else (false, C)
theorem isF_48 {c : Nat} (h : isF c = true) : 48 ≤ c ∧ c ≤ 57 := by simpa [isF] using h
theorem avC_at (C : LT) : (avC C) 1 0 = C 1 0 + 1 := uL_s _ _ _ _
theorem uC_at (C : LT) (i x : Nat) : (uL C 0 i x) 1 0 = C 1 0 := uL_r _ _ _ _ (by omega)
theorem fgP_at (T : LT) (i : Nat) (C : LT) : (fgP T i C) 1 0 ≤ C 1 0 + 2 := by
  unfold fgP
  split <;> simp only [avC_at, uC_at] <;> omega
theorem sgP_at (i : Nat) (C : LT) : (sgP i C) 1 0 ≤ C 1 0 + 1 := by
  unfold sgP
  split
  · omega
  · rw [avC_at]; omega
theorem num_fig (e : ScA h a t C) (f : TxA h t T) (wt : WfT T) (ht : t + 2 ≤ a ∨ a + 2 ≤ t) (hC : C 1 0 < 2 ^ 29) {i many : Nat} (hi : i < 4) (hF : isF (ltT T (C 1 0)) = true) : ∃ h', m_ev 44 16 [some (.ref a), some (.int (nI many)), some (.int (nI i))] [] h = m_ev 44 2 [some (.ref a), some (.int (nI many)), some (.int (nI (i + 1)))] [] h' ∧ ScA h' a t (fgP T i C) ∧ Fr a (a + 2) h h' := by
  have h48 := isF_48 hF
  obtain ⟨h1, q1, e1, f1⟩ := c_takeFigure (y := 44) (k := 26) (ls := [some (.ref a), some (.int (nI many)), some (.int (nI i))]) (r := [.int (nI i), .ref (a + 1)]) e f wt (by omega) h48.1
  obtain ⟨h2, q2, e2, f2⟩ := scW0 e1 (ltT T (C 1 0) - 48) hi
  have t2 := f2.tx (a := t) (T := T) (by omega) (f1.tx (by omega) f)
  have a2 : (uL (avC C) 0 i (ltT T (C 1 0) - 48)) 1 0 = C 1 0 + 1 := by rw [uC_at, avC_at]
  have n1 : ¬ nI 1 = nI 0 := by decide
  by_cases hF2 : isF (ltT T (C 1 0 + 1)) = true
  · have h482 := isF_48 hF2
    obtain ⟨h3, q3, e3, f3⟩ := c_takeFigure (y := 44) (k := 41) (ls := [some (.ref a), some (.int (nI many)), some (.int (nI i))]) (r := [.int (nI (10 * (ltT T (C 1 0) - 48))), .int (nI i), .ref (a + 1)]) e2 t2 wt (by rw [a2]; omega) (by rw [a2]; exact h482.1)
    rw [a2] at q3
    obtain ⟨h4, q4, e4, f4⟩ := scW0 e3 (10 * (ltT T (C 1 0) - 48) + (ltT T (C 1 0 + 1) - 48)) hi
    refine ⟨h4, ?_, ?_, ((f1.tr f2).tr f3).tr f4⟩
    · have hu : (uL (avC C) 0 i (ltT T (C 1 0) - 48)) 0 i = ltT T (C 1 0) - 48 := uL_s _ _ _ _
      simp (disch := omega) only [b44_16, b44_18, b44_21, b44_26, b44_29, b44_30, b44_41, scF e, scF e1, scF e2, txF f, Option.bind_some, if_true, c_isAtFigure e f wt (show C 1 0 < 2 ^ 30 by omega), hF, b01, n1, if_false, q1, q2, c_isAtFigure e2 t2 wt (show (uL (avC C) 0 i (ltT T (C 1 0) - 48)) 1 0 < 2 ^ 30 by rw [a2]; omega), a2, hF2, hu, nI_mulN, q3, nI_add, q4]
    · unfold fgP; rw [if_pos hF2]; exact e4
  · refine ⟨h2, ?_, ?_, f1.tr f2⟩
    · simp (disch := omega) only [b44_16, b44_18, b44_21, b44_26, b44_29, b44_43, scF e, scF e1, scF e2, txF f, Option.bind_some, if_true, c_isAtFigure e f wt (show C 1 0 < 2 ^ 30 by omega), hF, b01, n1, if_false, q1, q2, c_isAtFigure e2 t2 wt (show (uL (avC C) 0 i (ltT T (C 1 0) - 48)) 1 0 < 2 ^ 30 by rw [a2]; omega), a2, hF2, nI_add]
      rfl
    · unfold fgP; rw [if_neg hF2]; exact e2
theorem num_loop (f0 : WfT T) (ht : t + 2 ≤ a ∨ a + 2 ≤ t) {many : Nat} (hm : many ≤ 4) : ∀ (d i : Nat), i + d = many → ∀ (h : MH) (C : LT), ScA h a t C → TxA h t T → C 1 0 + 4 * d < 2 ^ 29 → ∃ h', m_ev 44 2 [some (.ref a), some (.int (nI many)), some (.int (nI i))] [] h = some (some (.int (nI (b01 (numP T d i C).1))), h') ∧ ScA h' a t (numP T d i C).2 ∧ Fr a (a + 2) h h' := by
  have n1 : ¬ nI 1 = nI 0 := by decide
  intro d
  induction d with
  | zero =>
    intro i hi h C e f hC
    obtain rfl : i = many := by omega
    refine ⟨h, ?_, e, Fr.rf _ _ _⟩
    rw [b44_2]
    simp (disch := omega) only [b44_45, nI_leI, Nat.le_refl, if_true, numP, b01]
  | succ d ih =>
    intro i hi h C e f hC
    have hni : ¬ many ≤ i := by omega
    have hni4 : ¬ 4 ≤ i := by omega
    -- behind the sign
    by_cases hs : i = 0 ∨ ltT T (C 1 0) = 44
    · obtain ⟨h1, q1, e1, f1⟩ : ∃ h1, m_ev 44 2 [some (.ref a), some (.int (nI many)), some (.int (nI i))] [] h = m_ev 44 16 [some (.ref a), some (.int (nI many)), some (.int (nI i))] [] h1 ∧ ScA h1 a t (sgP i C) ∧ Fr a (a + 2) h h1 := by
        by_cases h0 : i = 0
        · refine ⟨h, ?_, by simpa [sgP, h0] using e, Fr.rf _ _ _⟩
          subst h0
          rw [b44_2]
          simp (disch := omega) only [b44_5, b44_10, scF e, Option.bind_some, nI_leI, hni, hni4, if_false, Nat.le_refl, if_true]
        · have h44 : ltT T (C 1 0) = 44 := by rcases hs with q | q; exact absurd q h0; exact q
          obtain ⟨h1, q1, e1, f1⟩ := c_takes (y := 44) (k := 15) (ls := [some (.ref a), some (.int (nI many)), some (.int (nI i))]) (r := []) e f f0 (by omega) h44
          refine ⟨h1, ?_, by simpa [sgP, h0] using e1, f1⟩
          rw [b44_2]
          simp (disch := omega) only [b44_5, b44_10, b44_12, b44_15, scF e, Option.bind_some, nI_leI, hni, hni4, if_false, if_neg (show ¬ i ≤ 0 by omega), if_true, q1, n1]
      have hsa := sgP_at i C
      by_cases hF : isF (ltT T ((sgP i C) 1 0)) = true
      · obtain ⟨h2, q2, e2, f2⟩ := num_fig e1 (f1.tx (by omega) f) f0 ht (by omega) (many := many) (i := i) (by omega) hF
        have hfa := fgP_at T i (sgP i C)
        obtain ⟨h3, q3, e3, f3⟩ := ih (i + 1) (by omega) h2 _ e2 (f2.tx (by omega) (f1.tx (by omega) f)) (by omega)
        have hn : numP T (d + 1) i C = numP T d (i + 1) (fgP T i (sgP i C)) := by rw [numP, if_pos hs, if_pos hF]
        rw [hn]
        exact ⟨h3, by rw [q1, q2, q3], e3, (f1.tr f2).tr f3⟩
      · have hn : numP T (d + 1) i C = (false, sgP i C) := by rw [numP, if_pos hs, if_neg hF]
        rw [hn]
        refine ⟨h1, ?_, e1, f1⟩
        rw [q1]
        simp (disch := omega) only [b44_16, b44_18, b44_19, scF e1, if_true, c_isAtFigure e1 (f1.tx (T := T) (by omega) f) f0 (show (sgP i C) 1 0 < 2 ^ 30 by omega), hF, b01, if_false]
        rfl
    · have hn : numP T (d + 1) i C = (false, C) := by rw [numP, if_neg hs]
      rw [hn]
      have h0 : ¬ i = 0 := fun q => hs (Or.inl q)
      have h44 : ¬ ltT T (C 1 0) = 44 := fun q => hs (Or.inr q)
      refine ⟨h, ?_, e, Fr.rf _ _ _⟩
      rw [b44_2]
      simp (disch := omega) only [b44_5, b44_10, b44_12, b44_15, b44_19, scF e, Option.bind_some, nI_leI, hni, hni4, if_false, if_neg (show ¬ i ≤ 0 by omega), if_true, c_takes_no e f f0 (show C 1 0 < 2 ^ 30 by omega) (show 44 < 128 by omega) h44, b01]
      rfl
theorem c_takesNumbers (e : ScA h a t C) (f : TxA h t T) (wt : WfT T) (ht : t + 2 ≤ a ∨ a + 2 ≤ t) (hC : C 1 0 < 2 ^ 28) {many : Nat} (hm : many ≤ 4) : ∃ h', m_call m_ev 44 y k [.ref a, .int (nI many)] ls r h = m_ev y k ls (.int (nI (b01 (numP T many 0 C).1)) :: r) h' ∧ ScA h' a t (numP T many 0 C).2 ∧ Fr a (a + 2) h h' := by
  obtain ⟨h1, q1, e1, f1⟩ := num_loop wt ht hm many 0 (by omega) h C e f (by omega)
  refine ⟨h1, cl_v ?_, e1, f1⟩
  show m_ev 44 0 [some (.ref a), some (.int (nI many)), none] [] h = _
  rw [b44_0]
  exact q1
end
