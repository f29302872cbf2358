/-! the Scribe's items -/
def Fr2 (lo hi lo2 hi2 : Nat) (h h' : MH) : Prop := h'.length = h.length ∧ ∀ b, (b < lo ∨ hi ≤ b) → (b < lo2 ∨ hi2 ≤ b) → h'[b]? = h[b]?
theorem Fr2.rf (lo hi lo2 hi2 : Nat) (h : MH) : Fr2 lo hi lo2 hi2 h h := ⟨rfl, fun _ _ _ => rfl⟩
theorem Fr2.tr {lo hi lo2 hi2 : Nat} {h h1 h2 : MH} (a : Fr2 lo hi lo2 hi2 h h1) (b : Fr2 lo hi lo2 hi2 h1 h2) : Fr2 lo hi lo2 hi2 h h2 := ⟨b.1.trans a.1, fun q hq hq2 => (b.2 q hq hq2).trans (a.2 q hq hq2)⟩
theorem Fr.l {lo hi : Nat} (lo2 hi2 : Nat) {h h' : MH} (a : Fr lo hi h h') : Fr2 lo hi lo2 hi2 h h' := ⟨a.1, fun q hq _ => a.2 q hq⟩
theorem Fr.r {lo hi : Nat} (lo2 hi2 : Nat) {h h' : MH} (a : Fr lo hi h h') : Fr2 lo2 hi2 lo hi h h' := ⟨a.1, fun q _ hq => a.2 q hq⟩
theorem Fr2.at {lo hi lo2 hi2 b : Nat} {h h' : MH} {x : va_E} (f : Fr2 lo hi lo2 hi2 h h') (hb : b < lo ∨ hi ≤ b) (hb2 : b < lo2 ∨ hi2 ≤ b) (e : h[b]? = some x) : h'[b]? = some x := by rw [f.2 b hb hb2]; exact e
theorem Fr2.tx {lo hi lo2 hi2 a : Nat} {h h' : MH} {T : LT} (f : Fr2 lo hi lo2 hi2 h h') (hb : a + 2 ≤ lo ∨ hi ≤ a) (hb2 : a + 2 ≤ lo2 ∨ hi2 ≤ a) (e : TxA h a T) : TxA h' a T := ⟨f.at (by omega) (by omega) e.1, f.at (by omega) (by omega) e.2⟩
theorem b01_t : b01 true = 1 := rfl
theorem b01_f : b01 false = 0 := rfl
theorem b01_d (P : Prop) [Decidable P] : b01 (decide P) = if P then 1 else 0 := by by_cases h : P <;> simp [b01, h]
def wiN (c : Nat) : Option Nat := if c = 121 then some 0 else if c = 110 then some 1 else if c = 112 then some 2 else if c = 98 then some 3 else none
def nJ (x : Option Nat) : Int32 := match x with
  | some k => nI k
  | none => -1
theorem wi_str : ∀ c : Nat, c < 128 → m_str 2 1 [.int (nI c)] = some (nJ (wiN c)) := by decide
def rngP (T : LT) : Nat → LT → LT → LT × LT
  | 0, L, C => (L, C)
  | d + 1, L, C => match wiN (ltT T (C 1 0)) with
    | none => (L, C)
    | some w => rngP T d (adW L w) (avC C)
def rinP (T L C : LT) : Bool × LT × LT := (decide (2 ≤ (rngP T 12 (uL L 7 0 0) C).1 7 0), rngP T 12 (uL L 7 0 0) C)
def lawP (T L C : LT) : Bool × LT × LT := if (numP T 3 0 C).1 = true ∧ (numP T 3 0 C).2 0 0 ≤ 11 ∧ (numP T 3 0 C).2 0 2 ≤ 11 ∧ 1 ≤ (numP T 3 0 C).2 0 1 ∧ (numP T 3 0 C).2 0 1 ≤ 24 then (true, uL (uL (uL L 7 1 ((numP T 3 0 C).2 0 0)) 7 2 ((numP T 3 0 C).2 0 1)) 7 3 ((numP T 3 0 C).2 0 2), (numP T 3 0 C).2) else (false, L, (numP T 3 0 C).2)
def plaP (T L C : LT) : Bool × LT × LT := if 0 < L 7 5 ∨ 0 < L 7 6 then (false, L, C) else if (numP T 1 0 C).1 = true then (decide (1 ≤ (numP T 1 0 C).2 0 0 ∧ (numP T 1 0 C).2 0 0 ≤ 8), uL L 7 4 ((numP T 1 0 C).2 0 0), (numP T 1 0 C).2) else (false, L, (numP T 1 0 C).2)
def wayP (T L C : LT) : Bool × LT × LT := if ((numP T 4 0 C).1 = true ∧ (numP T 4 0 C).2 0 0 ≤ 3 ∧ (numP T 4 0 C).2 0 1 ≠ (numP T 4 0 C).2 0 2 ∧ (numP T 4 0 C).2 0 1 < L 7 4 ∧ (numP T 4 0 C).2 0 2 < L 7 4 ∧ 1 ≤ (numP T 4 0 C).2 0 3 ∧ (numP T 4 0 C).2 0 3 ≤ 12) ∧ L 7 5 < 10 then (true, adY L ((numP T 4 0 C).2 0 0) ((numP T 4 0 C).2 0 1) ((numP T 4 0 C).2 0 2) ((numP T 4 0 C).2 0 3), (numP T 4 0 C).2) else (false, L, (numP T 4 0 C).2)
def askP (T L C : LT) : Bool × LT × LT := if ((numP T 2 0 C).1 = true ∧ (numP T 2 0 C).2 0 0 < L 7 4 ∧ (numP T 2 0 C).2 0 1 ≤ 3) ∧ L 7 6 < 4 then (true, adK L ((numP T 2 0 C).2 0 0) ((numP T 2 0 C).2 0 1), (numP T 2 0 C).2) else (false, L, (numP T 2 0 C).2)
def itmP (T : LT) (c : Nat) (L C : LT) : Bool × LT × LT := if c = 97 then askP T L C else if c = 104 then plaP T L C else if c = 114 then rinP T L C else if c = 115 then lawP T L C else if c = 119 then wayP T L C else (false, L, C)
def copP (T : LT) : Nat → LT → LT → Option Nat × LT × LT
  | 0, L, C => (none, L, C)
  | d + 1, L, C => if T 1 0 ≤ C 1 0 then (none, L, C) else if (itmP T (ltT T (C 1 0)) L (avC C)).1 = true then (if ltT T ((itmP T (ltT T (C 1 0)) L (avC C)).2.2 1 0) = 59 then copP T d (itmP T (ltT T (C 1 0)) L (avC C)).2.1 (avC (itmP T (ltT T (C 1 0)) L (avC C)).2.2) else (some (C 1 0), (itmP T (ltT T (C 1 0)) L (avC C)).2)) else (some (C 1 0), (itmP T (ltT T (C 1 0)) L (avC C)).2)
theorem num_at (T : LT) : ∀ (d i : Nat) (C : LT), (numP T d i C).2 1 0 ≤ C 1 0 + 3 * d := by
  intro d
  induction d with
  | zero => intro i C; simp [numP]
  | succ d ih =>
    intro i C
    have h1 := sgP_at i C
    have h2 := fgP_at T i (sgP i C)
    have h3 := ih (i + 1) (fgP T i (sgP i C))
    unfold numP
    split
    · split
      · omega
      · show (sgP i C) 1 0 ≤ _
        omega
    · show C 1 0 ≤ _
      omega
theorem fgP_v (T : LT) (i : Nat) (C : LT) (hF : isF (ltT T (C 1 0)) = true) (hC : ∀ j, j < i → C 0 j ≤ 99) : ∀ j, j < i + 1 → (fgP T i C) 0 j ≤ 99 := by
  intro j hj
  have h1 := isF_48 hF
  unfold fgP
  by_cases hji : j = i
  · subst hji
    split
    · rename_i hF2
      have h2 := isF_48 hF2
      rw [uL_s]; omega
    · rw [uL_s]; omega
  · have := hC j (by omega)
    split
    · rw [uL_k _ _ _ hji]; unfold avC; rw [uL_r _ _ _ _ (by omega), uL_k _ _ _ hji, uL_r _ _ _ _ (by omega)]; exact this
    · rw [uL_k _ _ _ hji]; unfold avC; rw [uL_r _ _ _ _ (by omega)]; exact this
theorem num_v (T : LT) : ∀ (d i : Nat) (C : LT), (∀ j, j < i → C 0 j ≤ 99) → (numP T d i C).1 = true → ∀ j, j < i + d → (numP T d i C).2 0 j ≤ 99 := by
  intro d
  induction d with
  | zero => intro i C hC _ j hj; exact hC j hj
  | succ d ih =>
    intro i C hC
    unfold numP
    split
    · split
      · rename_i hF
        intro h1 j hj
        refine ih (i + 1) _ (fgP_v T i _ hF ?_) h1 j (by omega)
        intro q hq
        unfold sgP
        split
        · omega
        · unfold avC; rw [uL_r _ _ _ _ (by omega)]; exact hC q hq
      · intro h1; cases h1
    · intro h1; cases h1
section
variable {y k : Nat} {ls : ML} {r : List Value} {h : MH} {g m a t : Nat} {L M T C : LT}
theorem wiN_lt {c w : Nat} (h : wiN c = some w) : w < 4 := by
  unfold wiN at h
  split at h
  · cases h; omega
  · split at h
    · cases h; omega
    · split at h
      · cases h; omega
      · split at h
        · cases h; omega
        · cases h
theorem ring_loop (wt : WfT T) (ha : t + 2 ≤ a ∨ a + 2 ≤ t) (hg : g + 8 ≤ a ∨ a + 2 ≤ g) (hg2 : g + 8 ≤ t ∨ t + 2 ≤ g) : ∀ (d i : Nat), i + d = 12 → ∀ (h : MH) (L C : LT) (d3 : Option Value), ScA h a t C → TxA h t T → HiA h g L → L 7 0 = i → C 1 0 + d < 2 ^ 29 → ∃ h', m_ev 39 5 [some (.ref a), some (.ref g), some (.int (nI i)), d3] [] h = some (some (.int (nI (b01 (decide (2 ≤ (rngP T d L C).1 7 0))))), h') ∧ ScA h' a t (rngP T d L C).2 ∧ HiA h' g (rngP T d L C).1 ∧ Fr2 a (a + 2) g (g + 8) h h' ∧ (rngP T d L C).1 7 0 ≤ 12 := by
  intro d
  induction d with
  | zero =>
    intro i hi h L C d3 e f u hL hC
    obtain rfl : i = 12 := by omega
    refine ⟨h, ?_, e, u, Fr2.rf _ _ _ _ _, by simp [rngP, hL]⟩
    have : (rngP T 0 L C).1 7 0 = 12 := hL
    rw [b39_5]
    simp (disch := omega) only [b39_31, b39_35, b39_37, hiF u, hL, Option.bind_some, nI_leI, nI_ltI, Nat.le_refl, if_true, this]
    try rfl
  | succ d ih =>
    intro i hi h L C d3 e f u hL hC
    have hni : ¬ 12 ≤ i := by omega
    have hw := wi_str _ (ltT_lt wt (C 1 0))
    cases hwi : wiN (ltT T (C 1 0)) with
    | none =>
      have hr : rngP T (d + 1) L C = (L, C) := by rw [rngP, hwi]
      rw [hr]
      rw [hwi] at hw
      refine ⟨h, ?_, e, u, Fr2.rf _ _ _ _ _, by show L 7 0 ≤ 12; omega⟩
      have n1 : ¬ nI 0 ≤ (-1 : Int32) := by decide
      rw [b39_5]
      simp (disch := omega) only [b39_8, b39_14, b39_18, b39_35, b39_37, scF e, txF f, hiF u, hL, Option.bind_some, nI_leI, nI_ltI, hni, if_false, if_true, c_lt f wt, hw, nJ, n1, b01_t, b01_f, b01_d]
      (repeat' split) <;> first | rfl | (exfalso; omega)
    | some w =>
      have hr : rngP T (d + 1) L C = rngP T d (adW L w) (avC C) := by rw [rngP, hwi]
      rw [hr]
      rw [hwi] at hw
      have hw4 := wiN_lt hwi
      obtain ⟨h1, q1, e1, f1⟩ := c_addWord (y := 39) (k := 22) (ls := [some (.ref a), some (.ref g), some (.int (nI i)), some (.int (nI w))]) (r := []) u (by omega) w
      have s1 := f1.sc (a := a) (t := t) (by omega) e
      obtain ⟨h2, q2, e2, f2⟩ := scW1 s1 (C 1 0 + 1)
      have u2 := f2.hi (by omega) e1
      have x2 := f2.tx (T := T) (a := t) (by omega) (f1.tx (by omega) f)
      obtain ⟨h3, q3, e3, u3, f3, b3⟩ := ih (i + 1) (by omega) h2 (adW L w) (avC C) (some (.int (nI w))) e2 x2 u2 (by unfold adW; rw [uL_s, hL]) (by rw [avC_at]; omega)
      refine ⟨h3, ?_, e3, u3, ((f1.r a (a + 2)).tr (f2.l g (g + 8))).tr f3, b3⟩
      have n1 : nI 0 ≤ nI w := by rw [nI_leI (by omega) (by omega)]; omega
      rw [b39_5]
      simp (disch := omega) only [b39_8, b39_14, b39_19, b39_22, scF e, scF s1, txF f, hiF u, Option.bind_some, nI_leI, hni, if_false, if_true, c_lt f wt, hw, nJ, n1, Nat.zero_le, q1, nI_add, q2]
      exact q3
theorem c_copyRing (e : ScA h a t C) (f : TxA h t T) (u : HiA h g L) (wt : WfT T) (ha : t + 2 ≤ a ∨ a + 2 ≤ t) (hg : g + 8 ≤ a ∨ a + 2 ≤ g) (hg2 : g + 8 ≤ t ∨ t + 2 ≤ g) (hC : C 1 0 < 2 ^ 28) : ∃ h', m_call m_ev 39 y k [.ref a, .ref g] ls r h = m_ev y k ls (.int (nI (b01 (rinP T L C).1)) :: r) h' ∧ ScA h' a t (rinP T L C).2.2 ∧ HiA h' g (rinP T L C).2.1 ∧ Fr2 a (a + 2) g (g + 8) h h' := by
  obtain ⟨h1, q1, e1, f1⟩ := hiW7 u 7 0 0 rfl (by omega)
  obtain ⟨h2, q2, e2, u2, f2, _⟩ := ring_loop wt ha hg hg2 12 0 rfl h1 _ C none (f1.sc (by omega) e) (f1.tx (by omega) f) e1 (uL_s _ _ _ _) (by omega)
  refine ⟨h2, cl_v ?_, e2, u2, (f1.r a (a + 2)).tr f2⟩
  show m_ev 39 0 [some (.ref a), some (.ref g), none, none] [] h = _
  rw [b39_0, q1]
  exact q2
theorem c_copyLaw (e : ScA h a t C) (f : TxA h t T) (u : HiA h g L) (wt : WfT T) (ha : t + 2 ≤ a ∨ a + 2 ≤ t) (hg : g + 8 ≤ a ∨ a + 2 ≤ g) (hC : C 1 0 < 2 ^ 28) : ∃ h', m_call m_ev 40 y k [.ref a, .ref g] ls r h = m_ev y k ls (.int (nI (b01 (lawP T L C).1)) :: r) h' ∧ ScA h' a t (lawP T L C).2.2 ∧ HiA h' g (lawP T L C).2.1 ∧ Fr2 a (a + 2) g (g + 8) h h' := by
  obtain ⟨h1, q1, e1, f1⟩ := c_takesNumbers (y := 40) (k := 3) (ls := [some (.ref a), some (.ref g)]) (r := []) e f wt ha hC (many := 3) (by omega)
  have u1 := f1.hi (by omega) u
  have hv := num_v T 3 0 C (by intro j hj; omega)
  unfold lawP
  generalize hp : numP T 3 0 C = p at *
  obtain ⟨pb, pC⟩ := p
  cases pb with
  | false =>
    rw [if_neg (by rintro ⟨q, _⟩; cases q)]
    refine ⟨h1, cl_v ?_, e1, u1, f1.l _ _⟩
    show m_ev 40 0 [some (.ref a), some (.ref g)] [] h = _
    simp only [b40_0, scF e, if_true, q1, b40_3, b40_16, b01_t, b01_f, b01_d]
    try rfl
  | true =>
    have hv' := hv rfl
    have v0 := hv' 0 (by omega)
    have v1 := hv' 1 (by omega)
    have v2 := hv' 2 (by omega)
    have n1 : ¬ nI 1 = nI 0 := by decide
    dsimp only at v0 v1 v2 e1 q1
    by_cases hc : pC 0 0 ≤ 11 ∧ pC 0 2 ≤ 11 ∧ 1 ≤ pC 0 1 ∧ pC 0 1 ≤ 24
    · obtain ⟨h2, q2, e2, f2⟩ := hiW7 u1 8 1 (pC 0 0) rfl (by omega)
      have s2 := f2.sc (t := t) (a := a) (by omega) e1
      obtain ⟨h3, q3, e3, f3⟩ := hiW7 e2 9 2 (pC 0 1) rfl (by omega)
      have s3 := f3.sc (t := t) (a := a) (by omega) s2
      obtain ⟨h4, q4, e4, f4⟩ := hiW7 e3 10 3 (pC 0 2) rfl (by omega)
      rw [if_pos ⟨rfl, hc⟩]
      refine ⟨h4, cl_v ?_, f4.sc (by omega) s3, e4, (((f1.l _ _).tr (f2.r _ _)).tr (f3.r _ _)).tr (f4.r _ _)⟩
      show m_ev 40 0 [some (.ref a), some (.ref g)] [] h = _
      simp (disch := omega) only [b40_0, scF e, scF e1, scF s2, scF s3, if_true, if_false, q1, b40_3, b40_4, b40_10, b40_18, b40_24, b40_32, b01_t, b01_f, b01_d, n1, Option.bind_some, nI_ltI, nI_leI, if_neg (show ¬ 11 < pC 0 0 by omega), if_pos (show pC 0 2 ≤ 11 by omega), if_neg (show ¬ pC 0 1 < 1 by omega), if_pos (show pC 0 1 ≤ 24 by omega), q2, q3, q4]
    · rw [if_neg (fun q => hc q.2)]
      refine ⟨h1, cl_v ?_, e1, u1, f1.l _ _⟩
      show m_ev 40 0 [some (.ref a), some (.ref g)] [] h = _
      simp (disch := omega) only [b40_0, scF e, scF e1, if_true, if_false, q1, b40_3, b40_4, b40_10, b40_16, b40_18, b40_24, b40_30, b01_t, b01_f, b01_d, n1, Option.bind_some, nI_ltI, nI_leI]
      (repeat' split) <;> first | rfl | (exfalso; omega)
theorem c_copyPlaces (e : ScA h a t C) (f : TxA h t T) (u : HiA h g L) (wf : WfH L) (wt : WfT T) (ha : t + 2 ≤ a ∨ a + 2 ≤ t) (hg : g + 8 ≤ a ∨ a + 2 ≤ g) (hC : C 1 0 < 2 ^ 28) : ∃ h', m_call m_ev 41 y k [.ref a, .ref g] ls r h = m_ev y k ls (.int (nI (b01 (plaP T L C).1)) :: r) h' ∧ ScA h' a t (plaP T L C).2.2 ∧ HiA h' g (plaP T L C).2.1 ∧ Fr2 a (a + 2) g (g + 8) h h' := by
  have wf0 := wf
  obtain ⟨w1, w2, w3, w4, w5, w6, w7, w8, w9, w10, w11, w12, w13⟩ := wf0
  unfold plaP
  by_cases h0 : 0 < L 7 5 ∨ 0 < L 7 6
  · rw [if_pos h0]
    refine ⟨h, cl_v ?_, e, u, Fr2.rf _ _ _ _ _⟩
    show m_ev 41 0 [some (.ref a), some (.ref g)] [] h = _
    simp (disch := omega) only [b41_0, b41_3, b41_10, hiF u, Option.bind_some, nI_ltI, b01_t, b01_f, b01_d]
    (repeat' split) <;> first | rfl | (exfalso; omega)
  · rw [if_neg h0]
    obtain ⟨h1, q1, e1, f1⟩ := c_takesNumbers (y := 41) (k := 9) (ls := [some (.ref a), some (.ref g)]) (r := []) e f wt ha hC (many := 1) (by omega)
    have u1 := f1.hi (by omega) u
    have hv := num_v T 1 0 C (by intro j hj; omega)
    generalize hp : numP T 1 0 C = p at *
    obtain ⟨pb, pC⟩ := p
    have n5 : ¬ 0 < L 7 5 := fun q => h0 (Or.inl q)
    have n6 : ¬ 0 < L 7 6 := fun q => h0 (Or.inr q)
    cases pb with
    | false =>
      rw [if_neg (by intro q; cases q)]
      refine ⟨h1, cl_v ?_, e1, u1, f1.l _ _⟩
      show m_ev 41 0 [some (.ref a), some (.ref g)] [] h = _
      simp (disch := omega) only [b41_0, b41_3, b41_6, b41_9, b41_10, hiF u, scF e, Option.bind_some, nI_ltI, n5, n6, if_false, if_true, q1, b01_t, b01_f, b01_d]
      try rfl
    | true =>
      have v0 := hv rfl 0 (by omega)
      have n1 : ¬ nI 1 = nI 0 := by decide
      dsimp only at v0 e1 q1
      rw [if_pos rfl]
      obtain ⟨h2, q2, e2, f2⟩ := hiW7 u1 11 4 (pC 0 0) rfl (by omega)
      have s2 := f2.sc (t := t) (a := a) (by omega) e1
      refine ⟨h2, cl_v ?_, s2, e2, (f1.l _ _).tr (f2.r _ _)⟩
      show m_ev 41 0 [some (.ref a), some (.ref g)] [] h = _
      simp (disch := omega) only [b41_0, b41_3, b41_6, b41_9, b41_12, b41_24, b41_30, b41_32, hiF u, scF e, scF e1, scF s2, Option.bind_some, nI_ltI, n5, n6, n1, if_false, if_true, q1, b01_t, b01_f, b01_d, q2]
      (repeat' split) <;> first | rfl | (exfalso; omega)
theorem c_copyWay (e : ScA h a t C) (f : TxA h t T) (u : HiA h g L) (wf : WfH L) (wt : WfT T) (ha : t + 2 ≤ a ∨ a + 2 ≤ t) (hg : g + 8 ≤ a ∨ a + 2 ≤ g) (hC : C 1 0 < 2 ^ 28) : ∃ h', m_call m_ev 42 y k [.ref a, .ref g] ls r h = m_ev y k ls (.int (nI (b01 (wayP T L C).1)) :: r) h' ∧ ScA h' a t (wayP T L C).2.2 ∧ HiA h' g (wayP T L C).2.1 ∧ Fr2 a (a + 2) g (g + 8) h h' := by
  have wf0 := wf
  obtain ⟨w1, w2, w3, w4, w5, w6, w7, w8, w9, w10, w11, w12, w13⟩ := wf0
  obtain ⟨h1, q1, e1, f1⟩ := c_takesNumbers (y := 42) (k := 3) (ls := [some (.ref a), some (.ref g)]) (r := []) e f wt ha hC (many := 4) (by omega)
  have u1 := f1.hi (by omega) u
  have hv := num_v T 4 0 C (by intro j hj; omega)
  have n1 : ¬ nI 1 = nI 0 := by decide
  unfold wayP
  generalize hp : numP T 4 0 C = p at *
  obtain ⟨pb, pC⟩ := p
  cases pb with
  | false =>
    rw [if_neg (by rintro ⟨⟨q, _⟩, _⟩; cases q)]
    refine ⟨h1, cl_v ?_, e1, u1, f1.l _ _⟩
    show m_ev 42 0 [some (.ref a), some (.ref g)] [] h = _
    simp (disch := omega) only [b42_0, b42_3, b42_19, scF e, if_true, q1, b01_t, b01_f, b01_d]
    try rfl
  | true =>
    have v0 := hv rfl 0 (by omega)
    have v1 := hv rfl 1 (by omega)
    have v2 := hv rfl 2 (by omega)
    have v3 := hv rfl 3 (by omega)
    dsimp only at v0 v1 v2 v3 e1 q1
    by_cases hc : pC 0 0 ≤ 3 ∧ pC 0 1 ≠ pC 0 2 ∧ pC 0 1 < L 7 4 ∧ pC 0 2 < L 7 4 ∧ 1 ≤ pC 0 3 ∧ pC 0 3 ≤ 12
    · obtain ⟨c0, c1, c2, c3, c4, c5⟩ := hc
      by_cases h10 : L 7 5 < 10
      · rw [if_pos ⟨⟨rfl, c0, c1, c2, c3, c4, c5⟩, h10⟩]
        obtain ⟨h2, q2, e2, f2⟩ := c_addWay (y := 42) (k := 67) (ls := [some (.ref a), some (.ref g)]) (r := []) u1 h10 (pC 0 0) (pC 0 1) (pC 0 2) (pC 0 3)
        refine ⟨h2, cl_v ?_, f2.sc (by omega) e1, e2, (f1.l _ _).tr (f2.r _ _)⟩
        show m_ev 42 0 [some (.ref a), some (.ref g)] [] h = _
        simp (disch := omega) only [b42_0, b42_3, b42_4, b42_10, b42_21, b42_27, b42_28, b42_34, b42_35, b42_41, b42_49, b42_67, scF e, scF e1, hiF u1, Option.bind_some, nI_ltI, nI_leI, nI_eq, if_true, if_false, q1, b01_t, b01_f, b01_d, n1, if_neg (show ¬ 3 < pC 0 0 by omega), if_neg c1, c_hasPlace u1 w9 c2, c_hasPlace u1 w9 c3, if_neg (show ¬ 1 = 0 by omega), if_neg (show ¬ pC 0 3 < 1 by omega), if_pos c5, q2]
        try rfl
      · rw [if_neg (fun q => h10 q.2)]
        refine ⟨h1, cl_v ?_, e1, u1, f1.l _ _⟩
        show m_ev 42 0 [some (.ref a), some (.ref g)] [] h = _
        simp (disch := omega) only [b42_0, b42_3, b42_4, b42_10, b42_21, b42_27, b42_28, b42_34, b42_35, b42_41, b42_49, b42_67, scF e, scF e1, hiF u1, Option.bind_some, nI_ltI, nI_leI, nI_eq, if_true, if_false, q1, b01_t, b01_f, b01_d, n1, if_neg (show ¬ 3 < pC 0 0 by omega), if_neg c1, c_hasPlace u1 w9 c2, c_hasPlace u1 w9 c3, if_neg (show ¬ 1 = 0 by omega), if_neg (show ¬ pC 0 3 < 1 by omega), if_pos c5, c_addWay_no u1 (show L 7 5 = 10 by omega)]
        try rfl
    · rw [if_neg (fun q => hc q.1.2)]
      refine ⟨h1, cl_v ?_, e1, u1, f1.l _ _⟩
      show m_ev 42 0 [some (.ref a), some (.ref g)] [] h = _
      simp (disch := omega) only [b42_0, b42_3, b42_4, b42_10, b42_19, b42_21, scF e, scF e1, hiF u1, Option.bind_some, nI_ltI, nI_leI, nI_eq, if_true, if_false, q1, b01_t, b01_f, b01_d, n1]
      by_cases c0 : 3 < pC 0 0
      · rw [if_pos c0]
      · rw [if_neg c0]
        by_cases c1 : pC 0 1 = pC 0 2
        · rw [if_pos c1]
        · rw [if_neg c1]
          by_cases c2 : pC 0 1 < L 7 4
          · simp (disch := omega) only [c_hasPlace u1 w9 c2, b42_27, b42_28, n1, if_false, scF e1, hiF u1, Option.bind_some, if_true]
            by_cases c3 : pC 0 2 < L 7 4
            · simp (disch := omega) only [c_hasPlace u1 w9 c3, b42_34, b42_35, b42_41, b42_47, n1, if_false, scF e1, hiF u1, Option.bind_some, if_true, nI_ltI, nI_leI]
              (repeat' split) <;> first | rfl | (exfalso; omega)
            · have c3' : nI (pC 0 2) < nI 0 ∨ nI (L 7 4) ≤ nI (pC 0 2) := Or.inr (by rw [nI_leI (by omega) (by omega)]; omega)
              simp (disch := omega) only [c_hasPlace_no u1 w9 c3', b42_34, b42_47, if_true]
              try rfl
          · have c2' : nI (pC 0 1) < nI 0 ∨ nI (L 7 4) ≤ nI (pC 0 1) := Or.inr (by rw [nI_leI (by omega) (by omega)]; omega)
            simp (disch := omega) only [c_hasPlace_no u1 w9 c2', b42_27, b42_47, if_true]
            try rfl
theorem c_copyAsker (e : ScA h a t C) (f : TxA h t T) (u : HiA h g L) (wf : WfH L) (wt : WfT T) (ha : t + 2 ≤ a ∨ a + 2 ≤ t) (hg : g + 8 ≤ a ∨ a + 2 ≤ g) (hC : C 1 0 < 2 ^ 28) : ∃ h', m_call m_ev 43 y k [.ref a, .ref g] ls r h = m_ev y k ls (.int (nI (b01 (askP T L C).1)) :: r) h' ∧ ScA h' a t (askP T L C).2.2 ∧ HiA h' g (askP T L C).2.1 ∧ Fr2 a (a + 2) g (g + 8) h h' := by
  have wf0 := wf
  obtain ⟨w1, w2, w3, w4, w5, w6, w7, w8, w9, w10, w11, w12, w13⟩ := wf0
  obtain ⟨h1, q1, e1, f1⟩ := c_takesNumbers (y := 43) (k := 3) (ls := [some (.ref a), some (.ref g)]) (r := []) e f wt ha hC (many := 2) (by omega)
  have u1 := f1.hi (by omega) u
  have hv := num_v T 2 0 C (by intro j hj; omega)
  have n1 : ¬ nI 1 = nI 0 := by decide
  unfold askP
  generalize hp : numP T 2 0 C = p at *
  obtain ⟨pb, pC⟩ := p
  cases pb with
  | false =>
    rw [if_neg (by rintro ⟨⟨q, _⟩, _⟩; cases q)]
    refine ⟨h1, cl_v ?_, e1, u1, f1.l _ _⟩
    show m_ev 43 0 [some (.ref a), some (.ref g)] [] h = _
    simp (disch := omega) only [b43_0, b43_3, b43_17, scF e, if_true, q1, b01_t, b01_f, b01_d]
    try rfl
  | true =>
    have v0 := hv rfl 0 (by omega)
    have v1 := hv rfl 1 (by omega)
    dsimp only at v0 v1 e1 q1
    by_cases c0 : pC 0 0 < L 7 4
    · by_cases c1 : pC 0 1 ≤ 3
      · by_cases h4 : L 7 6 < 4
        · rw [if_pos ⟨⟨rfl, c0, c1⟩, h4⟩]
          obtain ⟨h2, q2, e2, f2⟩ := c_addAsker (y := 43) (k := 29) (ls := [some (.ref a), some (.ref g)]) (r := []) u1 h4 (pC 0 0) (pC 0 1)
          refine ⟨h2, cl_v ?_, f2.sc (by omega) e1, e2, (f1.l _ _).tr (f2.r _ _)⟩
          show m_ev 43 0 [some (.ref a), some (.ref g)] [] h = _
          simp (disch := omega) only [b43_0, b43_3, b43_4, b43_10, b43_11, b43_16, b43_19, b43_29, scF e, scF e1, hiF u1, Option.bind_some, if_true, if_false, q1, b01_t, b01_f, b01_d, n1, c_hasPlace u1 w9 c0, c_isWord, if_pos c1, q2]
          try rfl
        · rw [if_neg (fun q => h4 q.2)]
          refine ⟨h1, cl_v ?_, e1, u1, f1.l _ _⟩
          show m_ev 43 0 [some (.ref a), some (.ref g)] [] h = _
          simp (disch := omega) only [b43_0, b43_3, b43_4, b43_10, b43_11, b43_16, b43_19, b43_29, scF e, scF e1, hiF u1, Option.bind_some, if_true, if_false, q1, b01_t, b01_f, b01_d, n1, c_hasPlace u1 w9 c0, c_isWord, if_pos c1, c_addAsker_no u1 (show L 7 6 = 4 by omega)]
          try rfl
      · rw [if_neg (fun q => c1 q.1.2.2)]
        refine ⟨h1, cl_v ?_, e1, u1, f1.l _ _⟩
        show m_ev 43 0 [some (.ref a), some (.ref g)] [] h = _
        simp (disch := omega) only [b43_0, b43_3, b43_4, b43_10, b43_11, b43_16, b43_17, scF e, scF e1, hiF u1, Option.bind_some, if_true, if_false, q1, b01_t, b01_f, b01_d, n1, c_hasPlace u1 w9 c0, c_isWord, if_neg c1]
        try rfl
    · rw [if_neg (fun q => c0 q.1.2.1)]
      have c2' : nI (pC 0 0) < nI 0 ∨ nI (L 7 4) ≤ nI (pC 0 0) := Or.inr (by rw [nI_leI (by omega) (by omega)]; omega)
      refine ⟨h1, cl_v ?_, e1, u1, f1.l _ _⟩
      show m_ev 43 0 [some (.ref a), some (.ref g)] [] h = _
      simp (disch := omega) only [b43_0, b43_3, b43_4, b43_10, b43_17, scF e, scF e1, hiF u1, Option.bind_some, if_true, if_false, q1, b01_t, b01_f, b01_d, n1, c_hasPlace_no u1 w9 c2']
      try rfl
end
