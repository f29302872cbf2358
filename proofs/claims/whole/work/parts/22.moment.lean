/-! the Moment's methods -/
section
variable {y k : Nat} {ls : ML} {r : List Value} {h : MH} {g m : Nat} {L M : LT}
theorem spotL_lt (wf : WfH L) (M : LT) (s e t : Nat) : spotL L M s e t < L 7 0 := Nat.mod_lt _ (by have := wf.1; omega)
theorem upL_lt (wf : WfH L) (M : LT) (t : Nat) : upL L M t < 4 := wf.2.2.1 _ (spotL_lt wf M _ _ t)
theorem sp_bound (L M : LT) (s e t : Nat) (hs : s ≤ 11) (ht : t ≤ 1000) (hm : L 7 3 ≤ 11) (hh : M 2 0 ≤ 30000) (h1 : M 2 1 < 12) : M 2 1 + s * (t - min (M 2 2) t) + L 7 3 * ((M 2 0 + t) / e - (M 2 0 + min (M 2 2) t) / e) < 1000000 := by
  have a1 : s * (t - min (M 2 2) t) ≤ 11 * 1000 := Nat.mul_le_mul hs (by omega)
  have a2 : (M 2 0 + t) / e ≤ M 2 0 + t := Nat.div_le_self _ _
  have a3 : L 7 3 * ((M 2 0 + t) / e - (M 2 0 + min (M 2 2) t) / e) ≤ 11 * 31000 := Nat.mul_le_mul hm (Nat.le_trans (Nat.sub_le _ _) (by omega))
  omega
theorem c_spotIn (e : HiA h g L) (f : MoA h m M) (wf : WfH L) (wm : WfM L M 30000) {s ev t : Nat} (hs : s ≤ 11) (he : 1 ≤ ev ∧ ev ≤ 24) (ht : t ≤ 1000) : m_call m_ev 15 y k [.ref m, .ref g, .int (nI s), .int (nI ev), .int (nI t)] ls r h = m_ev y k ls (.int (nI (spotL L M s ev t)) :: r) h := by
  obtain ⟨w1, w2, w3, w4, w5, w6, w7, w8, w9, w10, w11, w12, w13⟩ := wf
  obtain ⟨v1, v2, v3, v4, v5⟩ := wm
  have hb := sp_bound L M s ev t hs ht w7 v1 (by omega)
  have hd : (M 2 0 + min (M 2 2) t) / ev ≤ (M 2 0 + t) / ev := Nat.div_le_div_right (by omega)
  refine cl_v ?_
  show m_ev 15 0 [some (.ref m), some (.ref g), some (.int (nI s)), some (.int (nI ev)), some (.int (nI t)), none, none, none] [] h = _
  simp (disch := omega) only [b15_0, b15_4, b15_10, b15_44, b15_48, hiF e, moF f, Option.bind_some, c_min, nI_leI, nI_eq, if_true, if_false, nI_add, nI_divN, nI_subN, nI_mulN, c_floorMod, if_pos (show 1 ≤ ev from he.1), if_neg (show ¬ ev = 0 by omega), if_pos (show 1 ≤ L 7 0 by omega)]
  rfl
theorem c_uppermost (e : HiA h g L) (f : MoA h m M) (wf : WfH L) (wm : WfM L M 30000) {t : Nat} (ht : t ≤ 1000) : m_call m_ev 16 y k [.ref m, .ref g, .int (nI t)] ls r h = m_ev y k ls (.int (nI (upL L M t)) :: r) h := by
  have hlt := spotL_lt wf M (L 7 1) (L 7 2) t
  have wf0 := wf
  obtain ⟨w1, w2, w3, w4, w5, w6, w7, w8, w9, w10, w11, w12, w13⟩ := wf0
  refine cl_v ?_
  show m_ev 16 0 [some (.ref m), some (.ref g), some (.int (nI t))] [] h = _
  simp (disch := omega) only [b16_0, b16_9, b16_10, hiF e, moF f, Option.bind_some, if_true, c_spotIn e f wf wm, c_wordAt e w2]
  rfl
theorem c_turnOne (e : HiA h g L) (f : MoA h m M) (wf : WfH L) (wm : WfM L M 30000) : ∃ h', m_call m_ev 18 y k [.ref m, .ref g] ls r h = m_ev y k ls r h' ∧ MoA h' m (uL M 2 1 ((M 2 1 + 1) % L 7 0)) ∧ Fr m (m + 3) h h' := by
  obtain ⟨w1, w2, w3, w4, w5, w6, w7, w8, w9, w10, w11, w12, w13⟩ := wf
  obtain ⟨v1, v2, v3, v4, v5⟩ := wm
  obtain ⟨h1, q1, e1, f1⟩ := moW2 f 3 1 ((M 2 1 + 1) % L 7 0) rfl (by omega)
  refine ⟨h1, cl_0 ?_, e1, f1⟩
  show m_ev 18 0 [some (.ref m), some (.ref g)] [] h = _
  simp (disch := omega) only [b18_0, b18_7, hiF e, moF f, Option.bind_some, if_true, nI_add, c_spotAround e ⟨by omega, w2⟩, q1]
theorem c_isOnTop (f : MoA h m M) {a : Nat} (ha : a < 4) (hp : M 0 a < 2 ^ 31 ∧ M 1 a < 2 ^ 31) : m_call m_ev 19 y k [.ref m, .int (nI a)] ls r h = m_ev y k ls (.int (nI (if M 0 a = 0 ∧ M 1 a = 0 then 1 else 0)) :: r) h := by
  refine cl_v ?_
  show m_ev 19 0 [some (.ref m), some (.int (nI a))] [] h = _
  simp (disch := omega) only [b19_0, b19_2, b19_5, b19_10, b19_15, b19_17, moF f, Option.bind_some, nI_ltI, nI_leI, nI_eq]
  (repeat' split) <;> first | rfl | (exfalso; omega)
/-- how long setting out takes, or none -/
def setL (L M : LT) (a w : Nat) : Option Nat := if 0 < M 1 a then none else if otL L w (M 0 a) = none then none else hoL L w (M 2 0) (upL L M 0)
theorem nO_neg4 {x : Option Nat} (hx : ∀ v, x = some v → v < 2 ^ 31) : (nO x = -4) = (x = none) := by
  cases x with
  | none => simp [nO]
  | some v => simp [nO]; exact nI_neg4 (hx v rfl)
theorem otL_lt (wf : WfH L) {w p v : Nat} (hw : w < L 7 5) (h : otL L w p = some v) : v < L 7 4 := by
  obtain ⟨w1, w2, w3, w4, w5, w6, w7, w8, w9, w10, w11, w12, w13⟩ := wf
  obtain ⟨f1, f2, f3, f4, f5, f6⟩ := w11 w hw
  unfold otL at h
  (repeat' split at h) <;> first | (cases h; assumption) | cases h
theorem hoL_lt (wf : WfH L) {w ho wd v : Nat} (hw : w < L 7 5) (h : hoL L w ho wd = some v) : 1 ≤ v ∧ v ≤ 24 := by
  obtain ⟨w1, w2, w3, w4, w5, w6, w7, w8, w9, w10, w11, w12, w13⟩ := wf
  obtain ⟨f1, f2, f3, f4, f5, f6⟩ := w11 w hw
  unfold hoL at h
  (repeat' split at h) <;> first | (cases h; omega) | cases h
theorem c_hoursToSetOut (e : HiA h g L) (f : MoA h m M) (wf : WfH L) (wm : WfM L M 30000) {a w : Nat} (ha : a < L 7 6) (hw : w < L 7 5) : m_call m_ev 22 y k [.ref m, .ref g, .int (nI a), .int (nI w)] ls r h = m_ev y k ls (.int (nO (setL L M a w)) :: r) h := by
  have wf0 := wf
  have wm0 := wm
  obtain ⟨w1, w2, w3, w4, w5, w6, w7, w8, w9, w10, w11, w12, w13⟩ := wf0
  obtain ⟨v1, v2, v3, v4, v5⟩ := wm0
  obtain ⟨va, vb⟩ := v5 a ha
  have hup := upL_lt wf M 0
  have hot := nO_neg4 (x := otL L w (M 0 a)) (fun v hv => by have := otL_lt wf hw hv; omega)
  refine cl_v ?_
  show m_ev 22 0 [some (.ref m), some (.ref g), some (.int (nI a)), some (.int (nI w))] [] h = _
  simp (disch := omega) only [b22_0, b22_3, b22_4, b22_9, b22_16, b22_18, b22_20, b22_28, b22_29, hiF e, moF f, Option.bind_some, if_true, c_hasAsker e w12, nI_eq, nI_ltI, c_otherEnd e wf, c_uppermost e f wf wm, c_hoursBy e wf, hot, if_neg (show ¬ 1 = 0 by omega), setL]
  (repeat' split) <;> rfl
end
section
variable {y k : Nat} {ls : ML} {r : List Value} {h : MH} {g m : Nat} {L M : LT}
/-- an asker sets out -/
def leaL (L M : LT) (a w : Nat) : LT := match setL L M a w with
  | none => M
  | some d => uL (uL M 0 a ((otL L w (M 0 a)).getD 0)) 1 a d
theorem setL_ot {a w d : Nat} (h : setL L M a w = some d) : ∃ p, otL L w (M 0 a) = some p := by
  unfold setL at h
  split at h
  · cases h
  · split at h
    · cases h
    · rename_i _ hn
      cases hq : otL L w (M 0 a) with
      | none => exact absurd hq hn
      | some p => exact ⟨p, rfl⟩
theorem setL_lt (wf : WfH L) {a w d : Nat} (hw : w < L 7 5) (h : setL L M a w = some d) : 1 ≤ d ∧ d ≤ 24 := by
  unfold setL at h
  split at h
  · cases h
  · split at h
    · cases h
    · exact hoL_lt wf hw h
theorem c_leave (e : HiA h g L) (f : MoA h m M) (wf : WfH L) (wm : WfM L M 30000) (hd : g + 8 ≤ m ∨ m + 3 ≤ g) {a w : Nat} (ha : a < L 7 6) (hw : w < L 7 5) : ∃ h', m_call m_ev 23 y k [.ref m, .ref g, .int (nI a), .int (nI w)] ls r h = m_ev y k ls r h' ∧ MoA h' m (leaL L M a w) ∧ Fr m (m + 3) h h' := by
  have wf0 := wf
  have wm0 := wm
  obtain ⟨w1, w2, w3, w4, w5, w6, w7, w8, w9, w10, w11, w12, w13⟩ := wf0
  obtain ⟨v1, v2, v3, v4, v5⟩ := wm0
  obtain ⟨va, vb⟩ := v5 a ha
  have hset := nO_neg4 (x := setL L M a w) (fun v hv => by have := setL_lt wf hw hv; omega)
  cases hs : setL L M a w with
  | none =>
    refine ⟨h, cl_0 ?_, by unfold leaL; rw [hs]; exact f, Fr.rf _ _ _⟩
    show m_ev 23 0 [some (.ref m), some (.ref g), some (.int (nI a)), some (.int (nI w)), none] [] h = _
    simp (disch := omega) only [b23_0, b23_5, b23_25, hiF e, moF f, Option.bind_some, if_true, c_hoursToSetOut e f wf wm, hs, nO]
  | some d =>
    obtain ⟨p, hp⟩ := setL_ot hs
    have hd1 := setL_lt wf hw hs
    obtain ⟨h1, q1, e1, f1⟩ := moW0 f p (k := a) (by omega)
    obtain ⟨h2, q2, e2, f2⟩ := moW1 e1 d (k := a) (by omega)
    refine ⟨h2, cl_0 ?_, by unfold leaL; rw [hs, hp]; exact e2, f1.tr f2⟩
    show m_ev 23 0 [some (.ref m), some (.ref g), some (.int (nI a)), some (.int (nI w)), none] [] h = _
    simp (disch := omega) only [b23_0, b23_5, b23_9, b23_19, hiF e, moF f, moF e1, Option.bind_some, if_true, c_hoursToSetOut e f wf wm, hs, nO, c_otherEnd e wf, hp, q1, q2, if_neg (nI_neg4 (show d < 2 ^ 31 by omega))]
/-- n hours go by -/
def goL (L M : LT) (n : Nat) : LT := fun r i => if r = 2 then (if i = 0 then M 2 0 + n else if i = 1 then spotL L M (L 7 1) (L 7 2) n else if i = 2 then M 2 2 - n else M 2 i) else if r = 1 then (if i < 4 then M 1 i - n else M 1 i) else M r i
theorem goOn_loop {n : Nat} (hn : n < 2 ^ 30) : ∀ (d i : Nat), i + d = 4 → ∀ (h : MH) (M : LT), MoA h m M → (∀ a, a < 4 → M 1 a < 2 ^ 30) → ∃ h', m_ev 17 26 [some (.ref m), some (.ref g), some (.int (nI n)), some (.int (nI i))] [] h = some (none, h') ∧ MoA h' m (fun r j => if r = 1 then (if i ≤ j ∧ j < 4 then M 1 j - n else M 1 j) else M r j) ∧ Fr m (m + 3) h h' := by
  intro d
  induction d with
  | zero =>
    intro i hi h M f hM
    obtain rfl : i = 4 := by omega
    refine ⟨h, ?_, ?_, Fr.rf _ _ _⟩
    · simp (disch := omega) only [b17_26, b17_43, nI_leI, if_true, Nat.le_refl]
    · have : (fun r j => if r = 1 then (if 4 ≤ j ∧ j < 4 then M 1 j - n else M 1 j) else M r j) = M := by
        funext r j
        by_cases hr : r = 1
        · subst hr; simp; intro q1 q2; omega
        · simp [hr]
      rw [this]; exact f
  | succ d ih =>
    intro i hi h M f hM
    have hMi := hM i (by omega)
    obtain ⟨h1, q1, e1, f1⟩ := moW1 f (M 1 i - n) (k := i) (by omega)
    obtain ⟨h2, q2, e2, f2⟩ := ih (i + 1) (by omega) h1 _ e1 (fun a ha => by
      unfold uL
      by_cases hai : a = i
      · simp [hai]; omega
      · simp [hai]; exact hM a ha)
    refine ⟨h2, ?_, ?_, f1.tr f2⟩
    · rw [b17_26, if_neg (nI_ge (show i < 4 by omega) (by omega))]
      simp (disch := omega) only [b17_29, b17_40, moF f, Option.bind_some, c_max0, q1, nI_add]
      exact q2
    · have : (fun r j => if r = 1 then (if i ≤ j ∧ j < 4 then M 1 j - n else M 1 j) else M r j) = (fun r j => if r = 1 then (if i + 1 ≤ j ∧ j < 4 then uL M 1 i (M 1 i - n) 1 j - n else uL M 1 i (M 1 i - n) 1 j) else uL M 1 i (M 1 i - n) r j) := by
        funext r j
        by_cases hr : r = 1
        · subst hr
          by_cases hj : j = i
          · subst hj
            have h6 : ¬ (j + 1 ≤ j ∧ j < 4) := by omega
            have h7 : j ≤ j ∧ j < 4 := by omega
            rw [if_pos h7, if_neg h6]
            simp [uL]
          · by_cases h5 : i + 1 ≤ j ∧ j < 4
            · have h6 : i ≤ j ∧ j < 4 := by omega
              simp [uL, hj, h5, h6]
            · have h6 : ¬ (i ≤ j ∧ j < 4) := by omega
              simp only [uL, hj, h5, h6, if_true, if_false]
        · simp [uL, hr]
      rw [this]; exact e2
theorem c_goOn (e : HiA h g L) (f : MoA h m M) (wf : WfH L) (wm : WfM L M 30000) (hM : ∀ a, a < 4 → M 1 a < 2 ^ 30) (hd : g + 8 ≤ m ∨ m + 3 ≤ g) {n : Nat} (hn : n ≤ 1000) : ∃ h', m_call m_ev 17 y k [.ref m, .ref g, .int (nI n)] ls r h = m_ev y k ls r h' ∧ MoA h' m (goL L M n) ∧ Fr m (m + 3) h h' := by
  have wf0 := wf
  have wm0 := wm
  obtain ⟨w1, w2, w3, w4, w5, w6, w7, w8, w9, w10, w11, w12, w13⟩ := wf0
  obtain ⟨v1, v2, v3, v4, v5⟩ := wm0
  obtain ⟨h1, q1, e1, f1⟩ := moW2 f 3 1 (spotL L M (L 7 1) (L 7 2) n) rfl (by omega)
  obtain ⟨h2, q2, e2, f2⟩ := moW2 e1 2 0 (M 2 0 + n) rfl (by omega)
  obtain ⟨h3, q3, e3, f3⟩ := moW2 e2 4 2 (M 2 2 - n) rfl (by omega)
  obtain ⟨h4, q4, e4, f4⟩ := goOn_loop (g := g) (n := n) (by omega) 4 0 rfl h3 _ e3 (fun a ha => by simp [uL]; exact hM a ha)
  have m1 := moF e1
  have m2 := moF e2
  simp [uL] at m1 m2
  refine ⟨h4, cl_0 ?_, ?_, ((f1.tr f2).tr f3).tr f4⟩
  · show m_ev 17 0 [some (.ref m), some (.ref g), some (.int (nI n)), none] [] h = _
    simp (disch := omega) only [b17_0, b17_9, b17_23, hiF e, moF f, m1, m2, Option.bind_some, if_true, c_spotIn e f wf wm, q1, q2, q3, nI_add, c_max0, q4]
  · have : goL L M n = (fun r j => if r = 1 then (if 0 ≤ j ∧ j < 4 then uL (uL (uL M 2 1 (spotL L M (L 7 1) (L 7 2) n)) 2 0 (M 2 0 + n)) 2 2 (M 2 2 - n) 1 j - n else uL (uL (uL M 2 1 (spotL L M (L 7 1) (L 7 2) n)) 2 0 (M 2 0 + n)) 2 2 (M 2 2 - n) 1 j) else uL (uL (uL M 2 1 (spotL L M (L 7 1) (L 7 2) n)) 2 0 (M 2 0 + n)) 2 2 (M 2 2 - n) r j) := by
      funext r j
      unfold goL
      by_cases h1 : r = 1
      · subst h1; simp [uL]
      · by_cases h2 : r = 2
        · subst h2
          by_cases j0 : j = 0
          · subst j0; simp [uL]
          · by_cases j1 : j = 1
            · subst j1; simp [uL]
            · by_cases j2 : j = 2
              · subst j2; simp [uL]
              · simp [uL, j0, j1, j2]
        · simp [uL, h1, h2]
    rw [this]; exact e4
end
section
variable {y k : Nat} {ls : ML} {r : List Value} {h : MH} {g m m2 : Nat} {L M M2 : LT}
/-- how many of the first n are so -/
def cntL (P : Nat → Bool) : Nat → Nat
  | 0 => 0
  | n + 1 => cntL P n + (if P n = true then 1 else 0)
theorem cntL_le (P : Nat → Bool) : ∀ n, cntL P n ≤ n := by
  intro n
  induction n with
  | zero => exact Nat.le_refl _
  | succ n ih => unfold cntL; split <;> omega
def onT (M : LT) (a : Nat) : Bool := decide (M 0 a = 0 ∧ M 1 a = 0)
def wsh (L M : LT) (a : Nat) : Bool := onT M a && decide (L 6 a = upL L M 0)
theorem onT_if (M : LT) (a : Nat) : (if M 0 a = 0 ∧ M 1 a = 0 then 1 else 0) = (if onT M a = true then 1 else 0 : Nat) := by
  unfold onT; by_cases q : M 0 a = 0 ∧ M 1 a = 0 <;> simp [q]
theorem many_loop (e : HiA h g L) (f : MoA h m M) (wf : WfH L) (wm : WfM L M 30000) : ∀ (d i : Nat), i + d = L 7 6 → m_ev 20 4 [some (.ref m), some (.ref g), some (.int (nI (cntL (onT M) i))), some (.int (nI i))] [] h = some (some (.int (nI (cntL (onT M) (L 7 6)))), h) := by
  obtain ⟨w1, w2, w3, w4, w5, w6, w7, w8, w9, w10, w11, w12, w13⟩ := wf
  obtain ⟨v1, v2, v3, v4, v5⟩ := wm
  intro d
  induction d with
  | zero =>
    intro i hi
    obtain rfl : i = L 7 6 := by omega
    rw [b20_4]
    simp (disch := omega) only [b20_20, hiF e, Option.bind_some, nI_leI, Nat.le_refl, if_true]
  | succ d ih =>
    intro i hi
    obtain ⟨va, vb⟩ := v5 i (by omega)
    have hc := cntL_le (onT M) i
    have := ih (i + 1) (by omega)
    rw [cntL] at this
    rw [b20_4]
    simp (disch := omega) only [b20_8, b20_12, hiF e, moF f, Option.bind_some, nI_leI, if_neg (show ¬ L 7 6 ≤ i by omega), if_true, c_isOnTop f, nI_eq, onT_if]
    by_cases q : onT M i = true
    · rw [if_pos q] at this ⊢
      simp (disch := omega) only [if_neg (show ¬ 1 = 0 by omega), b20_13, nI_add]
      exact this
    · rw [if_neg q] at this ⊢
      simp (disch := omega) only [if_true, b20_15, nI_add]
      exact this
theorem c_manyOnTop (e : HiA h g L) (f : MoA h m M) (wf : WfH L) (wm : WfM L M 30000) : m_call m_ev 20 y k [.ref m, .ref g] ls r h = m_ev y k ls (.int (nI (cntL (onT M) (L 7 6))) :: r) h := by
  refine cl_v ?_
  show m_ev 20 0 [some (.ref m), some (.ref g), none, none] [] h = _
  rw [b20_0]
  exact many_loop e f wf wm (L 7 6) 0 (by omega)
theorem readers_loop (e : HiA h g L) (f : MoA h m M) (wf : WfH L) (wm : WfM L M 30000) : ∀ (d i : Nat), i + d = L 7 6 → m_ev 21 9 [some (.ref m), some (.ref g), some (.int (nI (cntL (wsh L M) i))), some (.int (nI (upL L M 0))), some (.int (nI i))] [] h = some (some (.int (nI (cntL (wsh L M) (L 7 6)))), h) := by
  have hup := upL_lt wf M 0
  obtain ⟨w1, w2, w3, w4, w5, w6, w7, w8, w9, w10, w11, w12, w13⟩ := wf
  obtain ⟨v1, v2, v3, v4, v5⟩ := wm
  intro d
  induction d with
  | zero =>
    intro i hi
    obtain rfl : i = L 7 6 := by omega
    rw [b21_9]
    simp (disch := omega) only [b21_34, hiF e, Option.bind_some, nI_leI, Nat.le_refl, if_true]
  | succ d ih =>
    intro i hi
    obtain ⟨va, vb⟩ := v5 i (by omega)
    obtain ⟨ua, ub⟩ := w13 i (by omega)
    have hc := cntL_le (wsh L M) i
    have := ih (i + 1) (by omega)
    rw [cntL] at this
    rw [b21_9]
    simp (disch := omega) only [b21_13, b21_16, b21_20, hiF e, moF f, Option.bind_some, nI_leI, if_neg (show ¬ L 7 6 ≤ i by omega), if_neg (show ¬ 4 ≤ i by omega), if_true, c_isOnTop f, nI_eq, onT_if]
    by_cases q : onT M i = true
    · simp (disch := omega) only [q, if_true, if_neg (show ¬ 1 = 0 by omega), b21_21, hiF e, Option.bind_some, nI_eq]
      by_cases q2 : L 6 i = upL L M 0
      · have q3 : wsh L M i = true := by simp [wsh, q, q2]
        rw [if_pos q3] at this
        rw [if_pos q2]
        simp (disch := omega) only [b21_27, nI_add]
        exact this
      · have q3 : ¬ wsh L M i = true := by simp [wsh, q, q2]
        rw [if_neg q3] at this
        rw [if_neg q2]
        simp (disch := omega) only [b21_29, nI_add]
        exact this
    · have q3 : ¬ wsh L M i = true := by simp [wsh, q]
      rw [if_neg q3] at this
      rw [if_neg q]
      simp (disch := omega) only [if_true, b21_29, nI_add]
      exact this
theorem c_readers (e : HiA h g L) (f : MoA h m M) (wf : WfH L) (wm : WfM L M 30000) : m_call m_ev 21 y k [.ref m, .ref g] ls r h = m_ev y k ls (.int (nI (cntL (wsh L M) (L 7 6))) :: r) h := by
  refine cl_v ?_
  show m_ev 21 0 [some (.ref m), some (.ref g), none, none, none] [] h = _
  simp (disch := omega) only [b21_0, b21_6, moF f, if_true, c_uppermost e f wf wm]
  exact readers_loop e f wf wm (L 7 6) 0 (by omega)
/-- copying: M2 into M -/
theorem copy_loop : ∀ (d i : Nat), i + d = 4 → ∀ (h : MH) (M : LT), MoA h m M → MoA h m2 M2 → (m + 3 ≤ m2 ∨ m2 + 3 ≤ m) → ∃ h', m_ev 14 18 [some (.ref m), some (.ref m2), some (.int (nI i))] [] h = some (none, h') ∧ MoA h' m (fun r j => if r = 2 then M 2 j else if i ≤ j ∧ j < 4 ∧ r < 2 then M2 r j else M r j) ∧ Fr m (m + 3) h h' := by
  intro d
  induction d with
  | zero =>
    intro i hi h M f f2 hd
    obtain rfl : i = 4 := by omega
    refine ⟨h, ?_, ?_, Fr.rf _ _ _⟩
    · simp (disch := omega) only [b14_18, b14_39, nI_leI, if_true, Nat.le_refl]
    · have : (fun r j => if r = 2 then M 2 j else if 4 ≤ j ∧ j < 4 ∧ r < 2 then M2 r j else M r j) = M := by
        funext r j
        by_cases hr : r = 2
        · subst hr; simp
        · have : ¬ (4 ≤ j ∧ j < 4 ∧ r < 2) := by omega
          simp [hr, this]
      rw [this]; exact f
  | succ d ih =>
    intro i hi h M f f2 hd
    obtain ⟨h1, q1, e1, f1⟩ := moW0 f (M2 0 i) (k := i) (by omega)
    have g1 := f1.mo (by omega) f2
    obtain ⟨h2, q2, e2, f3⟩ := moW1 e1 (M2 1 i) (k := i) (by omega)
    have g2 := f3.mo (by omega) g1
    obtain ⟨h3, q3, e3, f4⟩ := ih (i + 1) (by omega) h2 _ e2 g2 hd
    refine ⟨h3, ?_, ?_, (f1.tr f3).tr f4⟩
    · rw [b14_18, if_neg (nI_ge (show i < 4 by omega) (by omega))]
      simp (disch := omega) only [b14_21, moF f, moF f2, moF e1, moF g1, Option.bind_some, q1, q2, nI_add]
      exact q3
    · have : (fun r j => if r = 2 then M 2 j else if i ≤ j ∧ j < 4 ∧ r < 2 then M2 r j else M r j) = (fun r j => if r = 2 then uL (uL M 0 i (M2 0 i)) 1 i (M2 1 i) 2 j else if i + 1 ≤ j ∧ j < 4 ∧ r < 2 then M2 r j else uL (uL M 0 i (M2 0 i)) 1 i (M2 1 i) r j) := by
        funext r j
        by_cases hr : r = 2
        · subst hr; simp [uL]
        · by_cases hj : j = i
          · subst hj
            have h5 : ¬ (j + 1 ≤ j ∧ j < 4 ∧ r < 2) := by omega
            rw [if_neg hr, if_neg hr, if_neg h5]
            by_cases h0 : r = 0
            · subst h0; rw [if_pos (by omega)]; simp [uL]
            · by_cases h1 : r = 1
              · subst h1; rw [if_pos (by omega)]; simp [uL]
              · rw [if_neg (by omega)]; simp [uL, h0, h1]
          · rw [if_neg hr, if_neg hr]
            by_cases h5 : i + 1 ≤ j ∧ j < 4 ∧ r < 2
            · rw [if_pos h5, if_pos (by omega)]
            · rw [if_neg h5, if_neg (by omega)]
              by_cases h0 : r = 0
              · subst h0; simp [uL, hj]
              · by_cases h1 : r = 1
                · subst h1; simp [uL, hj]
                · simp [uL, h0, h1]
      rw [this]; exact e3
def cpL (M M2 : LT) : LT := fun r j => if r = 2 then (if j < 4 then M2 2 j else M 2 j) else if j < 4 ∧ r < 2 then M2 r j else M r j
theorem c_copy (f : MoA h m M) (f2 : MoA h m2 M2) (hd : m + 3 ≤ m2 ∨ m2 + 3 ≤ m) (hu : M2 2 3 ≤ 1) : ∃ h', m_call m_ev 14 y k [.ref m, .ref m2] ls r h = m_ev y k ls r h' ∧ MoA h' m (cpL M M2) ∧ Fr m (m + 3) h h' := by
  obtain ⟨h1, q1, e1, f1⟩ := moW2 f 2 0 (M2 2 0) rfl (by omega)
  have g1 := f1.mo (by omega) f2
  obtain ⟨h2, q2, e2, f2'⟩ := moW2 e1 3 1 (M2 2 1) rfl (by omega)
  have g2 := f2'.mo (by omega) g1
  obtain ⟨h3, q3, e3, f3⟩ := moW2 e2 4 2 (M2 2 2) rfl (by omega)
  have g3 := f3.mo (by omega) g2
  obtain ⟨h4, q4, e4, f4⟩ := moW2 e3 5 3 (M2 2 3) rfl (by omega)
  have g4 := f4.mo (by omega) g3
  obtain ⟨h5, q5, e5, f5⟩ := copy_loop (m := m) (m2 := m2) (M2 := M2) 4 0 rfl h4 _ e4 g4 hd
  refine ⟨h5, cl_0 ?_, ?_, (((f1.tr f2').tr f3).tr f4).tr f5⟩
  · show m_ev 14 0 [some (.ref m), some (.ref m2), none] [] h = _
    have h01 : nI (M2 2 3) = nI 0 ∨ nI (M2 2 3) = nI 1 := by
      rcases (show M2 2 3 = 0 ∨ M2 2 3 = 1 by omega) with q | q <;> rw [q] <;> simp
    simp only [b14_0, moF f2, moF g1, moF g2, moF g3, Option.bind_some, q1, q2, q3, q4, if_pos h01]
    exact q5
  · have : cpL M M2 = (fun r j => if r = 2 then uL (uL (uL (uL M 2 0 (M2 2 0)) 2 1 (M2 2 1)) 2 2 (M2 2 2)) 2 3 (M2 2 3) 2 j else if 0 ≤ j ∧ j < 4 ∧ r < 2 then M2 r j else uL (uL (uL (uL M 2 0 (M2 2 0)) 2 1 (M2 2 1)) 2 2 (M2 2 2)) 2 3 (M2 2 3) r j) := by
      funext r j
      unfold cpL
      by_cases hr : r = 2
      · subst hr
        rw [if_pos rfl, if_pos rfl]
        match j with
        | 0 => simp [uL]
        | 1 => simp [uL]
        | 2 => simp [uL]
        | 3 => simp [uL]
        | j + 4 => rw [if_neg (by omega)]; simp [uL]
      · rw [if_neg hr, if_neg hr]
        by_cases hj : j < 4 ∧ r < 2
        · rw [if_pos hj, if_pos (by omega)]
        · rw [if_neg hj, if_neg (by omega)]; simp [uL, hr]
    rw [this]; exact e5
end
