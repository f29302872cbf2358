/-! the model: what it holds, its small methods -/
def RH (V L : LT) : Prop := V 0 0 = L 7 0 ∧ V 0 2 = L 7 1 ∧ V 0 3 = L 7 2 ∧ V 0 4 = L 7 3 ∧ V 0 5 = L 7 4 ∧ V 0 6 = L 7 5 ∧ V 0 8 = L 7 6 ∧ (∀ i, i < L 7 0 → V 73 i = L 0 i) ∧ (∀ w, w < L 7 5 → V 74 (4 * w) = L 1 w ∧ V 74 (4 * w + 1) = L 2 w ∧ V 74 (4 * w + 2) = L 3 w ∧ V 74 (4 * w + 3) = L 4 w) ∧ (∀ a, a < L 7 6 → V 75 a = L 6 a)
def StV (f : Nat → Nat) (o : Nat) (L M : LT) : Prop := f o = M 2 0 ∧ f (o + 1) = M 2 1 ∧ f (o + 2) = M 2 2 ∧ f (o + 3) = M 2 3 ∧ ∀ a, a < L 7 6 → f (o + (4 + a)) = M 0 a ∧ f (o + (8 + a)) = M 1 a
theorem stF {f : Nat → Nat} {L M : LT} (s : StV f 0 L M) : f 0 = M 2 0 ∧ f 1 = M 2 1 ∧ f 2 = M 2 2 ∧ f 3 = M 2 3 ∧ (∀ a, a < L 7 6 → f (4 + a) = M 0 a) ∧ (∀ a, a < L 7 6 → f (8 + a) = M 1 a) := by
  obtain ⟨s0, s1, s2, s3, s4⟩ := s
  exact ⟨s0, s1, s2, s3, fun a ha => by have := (s4 a ha).1; rwa [Nat.zero_add] at this, fun a ha => by have := (s4 a ha).2; rwa [Nat.zero_add] at this⟩
theorem uL_row (V : LT) {r r' : Nat} (k x : Nat) (h : r' ≠ r) : uL V r k x r' = V r' := by
  funext i; exact uL_r V k x i h
/-- all rows but one stay -/
def Sx (q : Nat) (V V' : LT) : Prop := ∀ r, r ≠ q → V' r = V r
theorem Sx.rf (q : Nat) (V : LT) : Sx q V V := fun _ _ => rfl
theorem Sx.tr {q : Nat} {V V1 V2 : LT} (a : Sx q V V1) (b : Sx q V1 V2) : Sx q V V2 := fun r h => (b r h).trans (a r h)
theorem Sx.u (q : Nat) (V : LT) (k x : Nat) : Sx q V (uL V q k x) := fun _ h => uL_row V k x h
theorem RH.sx {V V' L : LT} {q : Nat} (rh : RH V L) (s : Sx q V V') (hq : 80 < q) : RH V' L := by
  unfold RH
  rw [s 0 (by omega), s 73 (by omega), s 74 (by omega), s 75 (by omega)]
  exact rh
theorem lt_sub1 {x : Int32} {n : Nat} (hn : n < 2 ^ 31) (h : nI n ≤ x) : nI n - nI 1 < x := by
  by_cases h0 : n = 0
  · subst h0
    exact Int32.lt_of_lt_of_le (by decide) h
  · rw [nI_subN (by omega)]
    refine Int32.lt_of_lt_of_le ?_ h
    rw [nI_ltI (by omega) (by omega)]; omega
section
variable {y k : Nat} {ls : ML} {r : List Value} {h : MH} {V L M : LT}
theorem d_in1 {j a b : Nat} (h1 : a ≤ j) (h2 : j ≤ b) (hb : b < 2 ^ 31) : m_call m_ev 100 y k [.int (nI j), .int (nI a), .int (nI b)] ls r h = m_ev y k ls (.int (nI 1) :: r) h := by
  refine cl_v ?_
  show m_ev 100 0 [some (.int (nI j)), some (.int (nI a)), some (.int (nI b))] [] h = _
  rw [b100_0, if_neg (by rw [nI_ltI (by omega) (by omega)]; omega), b100_3, if_neg (by rw [nI_ltI (by omega) (by omega)]; omega), b100_6]
theorem d_in0 {x : Int32} {a b c : Nat} (hx : x < nI a ∨ nI b ≤ x) (hb : b = c + 1) (hab : a ≤ b) (hc : b < 2 ^ 31) : m_call m_ev 100 y k [.int x, .int (nI a), .int (nI c)] ls r h = m_ev y k ls (.int (nI 0) :: r) h := by
  refine cl_v ?_
  show m_ev 100 0 [some (.int x), some (.int (nI a)), some (.int (nI c))] [] h = _
  rcases bad_c hx hb hab hc with q | ⟨q1, _, q3⟩
  · rw [b100_0, if_pos q, b100_8]
  · rw [b100_0, if_neg q1, b100_3, if_pos q3, b100_8]
theorem d_inN {j n : Nat} (h2 : j < n) (hb : n < 2 ^ 31) : m_call m_ev 100 y k [.int (nI j), .int (nI 0), .int (nI n - nI 1)] ls r h = m_ev y k ls (.int (nI 1) :: r) h := by
  rw [nI_subN (by omega)]; exact d_in1 (by omega) (by omega) (by omega)
theorem d_inN0 {x : Int32} {n : Nat} (hx : x < nI 0 ∨ nI n ≤ x) (hb : n < 2 ^ 31) : m_call m_ev 100 y k [.int x, .int (nI 0), .int (nI n - nI 1)] ls r h = m_ev y k ls (.int (nI 0) :: r) h := by
  refine cl_v ?_
  show m_ev 100 0 [some (.int x), some (.int (nI 0)), some (.int (nI n - nI 1))] [] h = _
  by_cases q : x < nI 0
  · rw [b100_0, if_pos q, b100_8]
  · have q2 : nI n ≤ x := by rcases hx with p | p; exact absurd p q; exact p
    rw [b100_0, if_neg q, b100_3, if_pos (lt_sub1 hb q2), b100_8]
theorem d_isWay (e : MdA h V) (hn : V 0 6 < 2 ^ 31) {j : Nat} (hj : j < V 0 6) : m_call m_ev 102 y k [.ref 72, .int (nI j)] ls r h = m_ev y k ls (.int (nI 1) :: r) h := by
  refine cl_v ?_
  show m_ev 102 0 [some (.ref 72), some (.int (nI j))] [] h = _
  simp only [b102_0, mdF e, Option.bind_some, d_inN hj hn, b102_7, or_true, if_true]
theorem d_isWay0 (e : MdA h V) (hn : V 0 6 < 2 ^ 31) {x : Int32} (hx : x < nI 0 ∨ nI (V 0 6) ≤ x) : m_call m_ev 102 y k [.ref 72, .int x] ls r h = m_ev y k ls (.int (nI 0) :: r) h := by
  refine cl_v ?_
  show m_ev 102 0 [some (.ref 72), some (.int x)] [] h = _
  simp only [b102_0, mdF e, Option.bind_some, d_inN0 hx hn, b102_7, true_or, if_true]
theorem d_isAsker (e : MdA h V) (hn : V 0 8 < 2 ^ 31) {j : Nat} (hj : j < V 0 8) : m_call m_ev 103 y k [.ref 72, .int (nI j)] ls r h = m_ev y k ls (.int (nI 1) :: r) h := by
  refine cl_v ?_
  show m_ev 103 0 [some (.ref 72), some (.int (nI j))] [] h = _
  simp only [b103_0, mdF e, Option.bind_some, d_inN hj hn, b103_7, or_true, if_true]
theorem d_isAsker0 (e : MdA h V) (hn : V 0 8 < 2 ^ 31) {x : Int32} (hx : x < nI 0 ∨ nI (V 0 8) ≤ x) : m_call m_ev 103 y k [.ref 72, .int x] ls r h = m_ev y k ls (.int (nI 0) :: r) h := by
  refine cl_v ?_
  show m_ev 103 0 [some (.ref 72), some (.int x)] [] h = _
  simp only [b103_0, mdF e, Option.bind_some, d_inN0 hx hn, b103_7, true_or, if_true]
theorem d_isWord {j : Nat} (hj : j ≤ 3) : m_call m_ev 104 y k [.int (nI j)] ls r h = m_ev y k ls (.int (nI 1) :: r) h := by
  refine cl_v ?_
  show m_ev 104 0 [some (.int (nI j))] [] h = _
  rw [b104_0, d_in1 (Nat.zero_le _) hj (by omega), b104_4, if_pos (Or.inr rfl)]
theorem d_isWord0 {x : Int32} (hx : x < nI 0 ∨ nI 4 ≤ x) : m_call m_ev 104 y k [.int x] ls r h = m_ev y k ls (.int (nI 0) :: r) h := by
  refine cl_v ?_
  show m_ev 104 0 [some (.int x)] [] h = _
  rw [b104_0, d_in0 hx rfl (by omega) (by omega), b104_4, if_pos (Or.inl rfl)]
theorem d_has {n j : Nat} (hn : n < 2 ^ 31) (hj : j < 31) : m_call m_ev 101 y k [.int (nI n), .int (nI j)] ls r h = m_ev y k ls (.int (nI (b01 (n.testBit j))) :: r) h := by
  refine cl_v ?_
  show m_ev 101 0 [some (.int (nI n)), some (.int (nI j))] [] h = _
  have hs : nI n >>> (nI j &&& 31) = nI (n / 2 ^ j) := pk_shrN hn _ j (sh_k j (by omega))
  have hd : n / 2 ^ j ≤ n := Nat.div_le_self _ _
  have ha : nI (n / 2 ^ j) &&& nI 1 = nI (n / 2 ^ j % 2) := pk_andN (by omega) 1 (by decide)
  have hm : n / 2 ^ j % 2 < 2 := Nat.mod_lt _ (by omega)
  rw [b101_0, hs, ha, b101_7, b101_9, Nat.testBit_eq_decide_div_mod_eq, b01_d]
  simp (disch := omega) only [nI_eq]
  split <;> rfl
theorem d_wordBy (e : MdA h V) {j : Nat} (hj : j < 577) (hu : V 86 j < 12) : m_call m_ev 125 y k [.ref 72, .int (nI j)] ls r h = m_ev y k ls (.int (nI (V 73 (V 86 j))) :: r) h := by
  refine cl_v ?_
  show m_ev 125 0 [some (.ref 72), some (.int (nI j))] [] h = _
  simp (disch := omega) only [b125_0, mdF e, Option.bind_some]
theorem d_turnsBy (e : MdA h V) {a s ev : Nat} {f : Int32} (ha : a < 2 ^ 30) (h1 : 1 ≤ ev) (h2 : ev < 2 ^ 31) : m_call m_ev 123 y k [.ref 72, .int (nI a), .int f, .int (nI s), .int (nI ev)] ls r h = m_ev y k ls (.int (nI (if f ≤ nI 0 then (if (a + 1) % ev = 0 then s + V 0 4 else s) else 0)) :: r) h := by
  refine cl_v ?_
  show m_ev 123 0 [some (.ref 72), some (.int (nI a)), some (.int f), some (.int (nI s)), some (.int (nI ev))] [] h = _
  have hm : (a + 1) % ev < ev := Nat.mod_lt _ (by omega)
  have he : ¬ nI ev = nI 0 := by rw [nI_eq (by omega) (by omega)]; omega
  rw [b123_0]
  by_cases hf : f ≤ nI 0
  · rw [if_pos hf, if_pos hf, b123_4, if_neg he, nI_add, nI_remN (by omega) (by omega) h2]
    simp (disch := omega) only [nI_eq]
    by_cases hc : (a + 1) % ev = 0
    · simp only [if_pos hc, b123_10, mdF e, Option.bind_some, nI_add]
    · simp only [if_neg hc, b123_15]
  · rw [if_neg hf, if_neg hf, b123_2]
theorem foot_le {a b : Nat} (ha : a < 2 ^ 30) (hb : b < 2 ^ 30) : (nI a - nI b ≤ nI 0) = ¬ b < a := by
  apply propext
  rw [Int32.le_iff_toInt_le, pk_sub_toInt ha hb, nI_toInt (by omega)]
  omega
theorem spot_0 (L M : LT) (s ev : Nat) (h1 : M 2 1 < L 7 0) : spotL L M s ev 0 = M 2 1 := by
  simp [spotL, Nat.mod_eq_of_lt h1]
theorem spot_s (L M : LT) (s ev k : Nat) (h1 : 1 ≤ ev) : spotL L M s ev (k + 1) = (spotL L M s ev k + (if ¬ k < M 2 2 then (if (M 2 0 + k + 1) % ev = 0 then s + L 7 3 else s) else 0)) % L 7 0 := by
  unfold spotL
  rw [Nat.mod_add_mod]
  by_cases hk : k < M 2 2
  · rw [if_neg (fun q => q hk), Nat.min_eq_right (show k + 1 ≤ M 2 2 by omega), Nat.min_eq_right (show k ≤ M 2 2 by omega)]
    simp
  · rw [if_pos hk, Nat.min_eq_left (show M 2 2 ≤ k + 1 by omega), Nat.min_eq_left (show M 2 2 ≤ k by omega)]
    have e1 : k + 1 - M 2 2 = (k - M 2 2) + 1 := by omega
    have e2 : M 2 0 + (k + 1) = M 2 0 + k + 1 := by omega
    have hq : (M 2 0 + M 2 2) / ev ≤ (M 2 0 + k) / ev := Nat.div_le_div_right (by omega)
    rw [e1, e2, Nat.mul_add, Nat.mul_one, Nat.succ_div]
    by_cases hc : (M 2 0 + k + 1) % ev = 0
    · have hd : ev ∣ M 2 0 + k + 1 := Nat.dvd_of_mod_eq_zero hc
      rw [if_pos hd, if_pos hc]
      have e3 : (M 2 0 + k) / ev + 1 - (M 2 0 + M 2 2) / ev = ((M 2 0 + k) / ev - (M 2 0 + M 2 2) / ev) + 1 := by omega
      rw [e3, Nat.mul_add, Nat.mul_one]
      congr 1; omega
    · have hd : ¬ ev ∣ M 2 0 + k + 1 := fun q => hc (Nat.mod_eq_zero_of_dvd q)
      rw [if_neg hd, if_neg hc, Nat.add_zero]
      congr 1; omega
theorem ups_loop {n s ev : Nat} (wf : WfH L) (hn : n ≤ 576) (hs : s ≤ 11) (h1 : 1 ≤ ev) (h2 : ev ≤ 24) (hh : M 2 0 ≤ 30000) (hf : M 2 2 ≤ 12) : ∀ (d i : Nat), i + d = n → ∀ (h : MH) (V : LT), MdA h V → RH V L → V 76 0 = M 2 0 → (∀ j, j ≤ i → V 86 j = spotL L M s ev j) → ∃ h' V', m_ev 124 10 [some (.ref 72), some (.int (nI (M 2 2))), some (.int (nI s)), some (.int (nI ev)), some (.int (nI n)), some (.int (nI i))] [] h = some (none, h') ∧ MdA h' V' ∧ Sx 86 V V' ∧ (∀ j, j ≤ n → V' 86 j = spotL L M s ev j) ∧ Fr 72 89 h h' := by
  intro d
  induction d with
  | zero =>
    intro i hi h V e rh v0 vu
    obtain rfl : i = n := by omega
    refine ⟨h, V, ?_, e, Sx.rf _ _, vu, Fr.rf _ _ _⟩
    rw [b124_10, if_pos (nI_le (Nat.le_refl _) (by omega)), b124_42]
  | succ d ih =>
    intro i hi h V e rh v0 vu
    have hu := vu i (Nat.le_refl _)
    have hlt := spotL_lt wf M s ev i
    have hlt2 := spotL_lt wf M s ev (i + 1)
    have hss := spot_s L M s ev i h1
    have hw1 := wf.1
    have hw2 := wf.2.1
    have w7 := wf.2.2.2.2.2.2.1
    obtain ⟨h3, q3, e3, f3⟩ := mdW86 e (spotL L M s ev (i + 1)) (k := i + 1) (by omega)
    have hr := rh.sx (Sx.u 86 V (i + 1) (spotL L M s ev (i + 1))) (by omega)
    obtain ⟨h4, V4, q4, e4, s4, u4, f4⟩ := ih (i + 1) (by omega) h3 _ e3 hr (by rw [uL_row _ _ _ (by omega)]; exact v0) (by
      intro j hj
      by_cases hji : j = i + 1
      · subst hji; exact uL_s _ _ _ _
      · rw [uL_k _ _ _ hji]; exact vu j (by omega))
    refine ⟨h4, V4, ?_, e4, (Sx.u 86 V _ _).tr s4, u4, f3.tr f4⟩
    have hrm : V 0 0 = L 7 0 := rh.1
    have hmo : V 0 4 = L 7 3 := rh.2.2.2.1
    have n0 : ¬ nI (L 7 0) = nI 0 := by rw [nI_eq (by omega) (by omega)]; omega
    have hfo := foot_le (a := M 2 2) (b := i) (by omega) (by omega)
    rw [b124_10, if_neg (nI_ge (show i < n by omega) (by omega))]
    simp (disch := omega) only [b124_13, mdF e, Option.bind_some, if_true, v0, nI_add, d_turnsBy e, b124_35, hrm, hmo, hu, n0, if_false, hfo]
    generalize hg : (if ¬ i < M 2 2 then if (M 2 0 + i + 1) % ev = 0 then s + L 7 3 else s else 0) = t at *
    have ht : t ≤ 100 := by rw [← hg]; split <;> (try split) <;> omega
    rw [nI_remN (by omega) (by omega) (by omega), ← hss, q3]
    simp only [Option.bind_some]
    exact q4
theorem d_findUps (e : MdA h V) (rh : RH V L) {n s ev : Nat} (wf : WfH L) (hn : n ≤ 576) (hs : s ≤ 11) (h1 : 1 ≤ ev) (h2 : ev ≤ 24) (hh : M 2 0 ≤ 30000) (hf : M 2 2 ≤ 12) (hsp : M 2 1 < L 7 0) (v0 : V 76 0 = M 2 0) (v1 : V 76 1 = M 2 1) : ∃ h' V', m_call m_ev 124 y k [.ref 72, .int (nI (M 2 2)), .int (nI s), .int (nI ev), .int (nI n)] ls r h = m_ev y k ls r h' ∧ MdA h' V' ∧ Sx 86 V V' ∧ (∀ j, j ≤ n → V' 86 j = spotL L M s ev j) ∧ Fr 72 89 h h' := by
  obtain ⟨h3, q3, e3, f3⟩ := mdW86 e (M 2 1) (k := 0) (by omega)
  have hr := rh.sx (Sx.u 86 V 0 (M 2 1)) (by omega)
  obtain ⟨h4, V4, q4, e4, s4, u4, f4⟩ := ups_loop (M := M) wf hn hs h1 h2 hh hf n 0 (by omega) h3 _ e3 hr (by rw [uL_row _ _ _ (by omega)]; exact v0) (by
    intro j hj
    obtain rfl : j = 0 := by omega
    rw [uL_s, spot_0 L M s ev hsp])
  refine ⟨h4, V4, cl_0 ?_, e4, (Sx.u 86 V _ _).tr s4, u4, f3.tr f4⟩
  show m_ev 124 0 [some (.ref 72), some (.int (nI (M 2 2))), some (.int (nI s)), some (.int (nI ev)), some (.int (nI n)), none] [] h = _
  simp (disch := omega) only [b124_0, mdF e, Option.bind_some, v1, q3]
  exact q4
theorem d_hoursOf (e : MdA h V) (rh : RH V L) (wf : WfH L) {w j : Nat} (hw : w < L 7 5) (hj : j < 577) (hh : V 76 0 + j < 2 ^ 31) (hu : V 86 j < L 7 0) : m_call m_ev 126 y k [.ref 72, .int (nI w), .int (nI j)] ls r h = m_ev y k ls (.int (nO (hoL L w (V 76 0 + j) (L 0 (V 86 j)))) :: r) h := by
  obtain ⟨r0, r2, r3, r4, r5, r6, r8, r73, r74, r75⟩ := rh
  obtain ⟨a1, a2, a3, a4⟩ := r74 w hw
  have hv := r73 _ hu
  obtain ⟨w1, w2, w3, w4, w5, w6, w7, w8, w9, w10, w11, w12, w13⟩ := wf
  obtain ⟨f1, f2, f3, f4, f5, f6⟩ := w11 w hw
  have f0 := w3 _ hu
  refine cl_v ?_
  show m_ev 126 0 [some (.ref 72), some (.int (nI w)), some (.int (nI j)), none, none] [] h = _
  simp (disch := omega) only [b126_0, mdF e, Option.bind_some, if_true, nI_add, nI_mulN, nI_eq, b126_23, b126_28, b126_32, b126_34, b126_38, b126_40, b126_42, b126_45, b126_46, b126_48, b126_50, a1, a4, nI_remN, d_wordBy e hj (show V 86 j < 12 by omega), hv, hoL]
  (repeat' split) <;> first | rfl | (exfalso; omega)
theorem d_leadsFrom (e : MdA h V) (rh : RH V L) (wf : WfH L) {w p : Nat} (hw : w < L 7 5) (hp : p < 2 ^ 31) : m_call m_ev 134 y k [.ref 72, .int (nI w), .int (nI p)] ls r h = m_ev y k ls (.int (nI (b01 (otL L w p).isSome)) :: r) h := by
  obtain ⟨r0, r2, r3, r4, r5, r6, r8, r73, r74, r75⟩ := rh
  obtain ⟨a1, a2, a3, a4⟩ := r74 w hw
  obtain ⟨w1, w2, w3, w4, w5, w6, w7, w8, w9, w10, w11, w12, w13⟩ := wf
  obtain ⟨f1, f2, f3, f4, f5, f6⟩ := w11 w hw
  refine cl_v ?_
  show m_ev 134 0 [some (.ref 72), some (.int (nI w)), some (.int (nI p))] [] h = _
  simp (disch := omega) only [b134_0, mdF e, Option.bind_some, nI_add, nI_mulN, nI_eq, a2, a3, b134_10, b134_20, b134_22, otL]
  (repeat' split) <;> first | rfl | (exfalso; omega)
theorem d_otherEnd (e : MdA h V) (rh : RH V L) (wf : WfH L) {w p q : Nat} (hw : w < L 7 5) (hq : otL L w p = some q) : m_call m_ev 135 y k [.ref 72, .int (nI w), .int (nI p)] ls r h = m_ev y k ls (.int (nI q) :: r) h := by
  obtain ⟨r0, r2, r3, r4, r5, r6, r8, r73, r74, r75⟩ := rh
  obtain ⟨a1, a2, a3, a4⟩ := r74 w hw
  obtain ⟨w1, w2, w3, w4, w5, w6, w7, w8, w9, w10, w11, w12, w13⟩ := wf
  obtain ⟨f1, f2, f3, f4, f5, f6⟩ := w11 w hw
  refine cl_v ?_
  show m_ev 135 0 [some (.ref 72), some (.int (nI w)), some (.int (nI p))] [] h = _
  have hpq : L 2 w + L 3 w - p = q ∧ p ≤ L 2 w + L 3 w := by
    unfold otL at hq
    split at hq
    · cases hq; omega
    · split at hq
      · cases hq; omega
      · cases hq
  simp (disch := omega) only [b135_0, mdF e, Option.bind_some, nI_add, nI_mulN, a2, a3, nI_subN, hpq.2, hpq.1]
end
