/-! the Outlook's loops -/
def lkF (L M : LT) (n : Nat) (B : Nat → Nat) : Nat → Nat := fun i => if i < n then upL L M i else B i
def alL (P : Nat → Bool) : Nat → Nat → Bool
  | 0, _ => true
  | d + 1, i => if P i = true then alL P d (i + 1) else false
def b01 (b : Bool) : Nat := if b = true then 1 else 0
theorem mkB_n {B : Nat → Nat} {t p who i : Nat} (h : i ≠ t * 8 + p) : mkB B t p who i = B i := by
  unfold mkB; rw [if_neg (fun q => h q.2)]
section
variable {y k : Nat} {ls : ML} {r : List Value} {h : MH} {g m o : Nat} {L M X : LT}
theorem lkF_s (L M X : LT) (n : Nat) : uL (sR X 0 (lkF L M n (X 0))) 0 n (upL L M n) = sR X 0 (lkF L M (n + 1) (X 0)) := by
  funext q i
  by_cases hq : q = 0
  · subst hq
    by_cases hi : i = n
    · subst hi; simp [sR, uL, lkF]
    · have : (i < n + 1) = (i < n) := by apply propext; omega
      simp [sR, uL, lkF, hi, this]
  · simp [sR, uL, hq]
theorem look_loop (wf : WfH L) (wm : WfM L M 30000) (hd : g + 8 ≤ o ∨ o + 3 ≤ g) (hd2 : m + 3 ≤ o ∨ o + 3 ≤ m) {hs N : Nat} (hN : N = min (hs + 1) 576) (hs6 : hs ≤ 600) : ∀ (d i : Nat), i + d = N → ∀ (h : MH), HiA h g L → MoA h m M → OuA h o (sR X 0 (lkF L M i (X 0))) → ∃ h', m_ev 25 2 [some (.ref o), some (.ref g), some (.ref m), some (.int (nI hs)), some (.int (nI i))] [] h = some (none, h') ∧ OuA h' o (sR X 0 (lkF L M N (X 0))) ∧ Fr o (o + 3) h h' := by
  intro d
  induction d with
  | zero =>
    intro i hi h e e2 f
    obtain rfl : i = N := by omega
    refine ⟨h, ?_, f, Fr.rf _ _ _⟩
    rw [b25_2]
    simp (disch := omega) only [b25_5, b25_20, ouF f, Option.bind_some, nI_ltI, nI_leI]
    (repeat' split) <;> first | rfl | (exfalso; omega)
  | succ d ih =>
    intro i hi h e e2 f
    obtain ⟨h1, q1, e1, f1⟩ := ouW0 f (upL L M i) (k := i) (by omega)
    rw [lkF_s] at e1
    obtain ⟨h2, q2, e3, f2⟩ := ih (i + 1) (by omega) h1 (f1.hi (by omega) e) (f1.mo (by omega) e2) e1
    refine ⟨h2, ?_, e3, f1.tr f2⟩
    rw [b25_2]
    simp (disch := omega) only [b25_5, b25_10, b25_17, b25_20, ouF f, moF e2, Option.bind_some, nI_ltI, nI_leI, if_true, c_uppermost e e2 wf wm, q1, nI_add, q2]
    (repeat' split) <;> first | rfl | (exfalso; omega)
theorem c_look (e : HiA h g L) (e2 : MoA h m M) (f : OuA h o X) (wf : WfH L) (wm : WfM L M 30000) (hd : g + 8 ≤ o ∨ o + 3 ≤ g) (hd2 : m + 3 ≤ o ∨ o + 3 ≤ m) {hs : Nat} (hs6 : hs ≤ 600) : ∃ h', m_call m_ev 25 y k [.ref o, .ref g, .ref m, .int (nI hs)] ls r h = m_ev y k ls r h' ∧ OuA h' o (sR X 0 (lkF L M (min (hs + 1) 576) (X 0))) ∧ Fr o (o + 3) h h' := by
  obtain ⟨h1, q1, e1, f1⟩ := look_loop (X := X) wf wm hd hd2 (hs := hs) rfl hs6 (min (hs + 1) 576) 0 (by omega) h e e2 (by
    have : lkF L M 0 (X 0) = X 0 := by funext i; simp [lkF]
    rw [this, sR_id]; exact f)
  refine ⟨h1, cl_0 ?_, e1, f1⟩
  show m_ev 25 0 [some (.ref o), some (.ref g), some (.ref m), some (.int (nI hs)), none] [] h = _
  rw [b25_0]
  exact q1
theorem again_loop (f : OuA h o X) (hX : ∀ i, X 0 i < 2 ^ 31) {n : Nat} (hn : n ≤ 288) : ∀ (d i : Nat), i + d = 288 → m_ev 26 2 [some (.ref o), some (.int (nI n)), some (.int (nI i))] [] h = some (some (.int (nI (b01 (alL (fun m => X 0 m == X 0 (n + m)) d i)))), h) := by
  intro d
  induction d with
  | zero =>
    intro i hi
    obtain rfl : i = 288 := by omega
    rw [b26_2]
    simp (disch := omega) only [b26_18, nI_leI, Nat.le_refl, if_true, alL, b01]
  | succ d ih =>
    intro i hi
    have a1 := hX i
    have a2 := hX (n + i)
    have hni : ¬ 288 ≤ i := by omega
    rw [b26_2]
    simp (disch := omega) only [b26_5, b26_8, b26_13, b26_14, b26_16, ouF f, nI_leI, hni, if_false, if_true, c_wordIn f, nI_add, nI_eq, ih (i + 1) (by omega), alL, beq_iff_eq]
    by_cases hc : X 0 i = X 0 (n + i)
    · rw [if_pos hc, if_pos hc]
    · rw [if_neg hc, if_neg hc]; rfl
theorem c_again (f : OuA h o X) (hX : ∀ i, X 0 i < 2 ^ 31) {n : Nat} (hn : n ≤ 288) : m_call m_ev 26 y k [.ref o, .int (nI n)] ls r h = m_ev y k ls (.int (nI (b01 (alL (fun m => X 0 m == X 0 (n + m)) 288 0))) :: r) h := by
  refine cl_v ?_
  show m_ev 26 0 [some (.ref o), some (.int (nI n)), none] [] h = _
  rw [b26_0]
  exact again_loop f hX hn 288 0 rfl
theorem soonW_loop (f : OuA h o X) (hX : ∀ i, X 0 i < 2 ^ 31) {w e0 : Nat} (hw : w < 2 ^ 31) : ∀ (d i : Nat), i + d = 100 → m_ev 28 7 [some (.ref o), some (.int (nI w)), some (.int (nI e0)), some (.int (nI i))] [] h = some (some (.int (nO (ffL (fun t => X 0 t == w) d i))), h) := by
  intro d
  induction d with
  | zero =>
    intro i hi
    obtain rfl : i = 100 := by omega
    rw [b28_7]
    simp (disch := omega) only [b28_19, nI_ltI, if_true, ffL, nO, show 99 < 100 by omega]
  | succ d ih =>
    intro i hi
    have a1 := hX i
    have hni : ¬ 99 < i := by omega
    rw [b28_7]
    simp (disch := omega) only [b28_10, b28_13, b28_15, b28_17, ouF f, nI_ltI, hni, if_false, if_true, c_wordIn f, nI_add, nI_eq, ih (i + 1) (by omega), ffL, beq_iff_eq]
    by_cases hc : X 0 i = w
    · rw [if_pos hc, if_pos hc]; rfl
    · rw [if_neg hc, if_neg hc]
theorem c_soonestWord (f : OuA h o X) (hX : ∀ i, X 0 i < 2 ^ 31) {w e0 : Nat} (hw : w < 2 ^ 31) (he : e0 ≤ 100) : m_call m_ev 28 y k [.ref o, .int (nI w), .int (nI e0)] ls r h = m_ev y k ls (.int (nO (ffL (fun t => X 0 t == w) (100 - e0) e0)) :: r) h := by
  refine cl_v ?_
  show m_ev 28 0 [some (.ref o), some (.int (nI w)), some (.int (nI e0)), none] [] h = _
  rw [b28_0, if_neg (nI_neg4 (by omega)), b28_5]
  exact soonW_loop f hX hw (100 - e0) e0 (by omega)
theorem c_soonestWord_no (f : OuA h o X) {x : Int32} : m_call m_ev 28 y k [.ref o, .int x, .int (-4)] ls r h = m_ev y k ls (.int (-4) :: r) h := by
  refine cl_v ?_
  show m_ev 28 0 [some (.ref o), some (.int x), some (.int (-4)), none] [] h = _
  rw [b28_0, if_pos rfl, b28_3]
theorem prep_loop {g m : Nat} : ∀ (d i : Nat), i + d = 800 → ∀ (h : MH), OuA h o (sR X 1 (fun j => if j < i then 0 else X 1 j)) → ∃ h', m_ev 29 7 [some (.ref o), some (.ref g), some (.ref m), some (.int (nI i))] [] h = some (none, h') ∧ OuA h' o (sR X 1 (fun j => if j < 800 then 0 else X 1 j)) ∧ Fr o (o + 3) h h' := by
  intro d
  induction d with
  | zero =>
    intro i hi h f
    obtain rfl : i = 800 := by omega
    refine ⟨h, ?_, f, Fr.rf _ _ _⟩
    rw [b29_7]
    simp (disch := omega) only [b29_19, ouF f, Option.bind_some, nI_leI, Nat.le_refl, if_true]
  | succ d ih =>
    intro i hi h f
    have hni : ¬ 800 ≤ i := by omega
    obtain ⟨h1, q1, e1, f1⟩ := ouW1 f 0 (k := i) (by omega)
    have hs : uL (sR X 1 (fun j => if j < i then 0 else X 1 j)) 1 i 0 = sR X 1 (fun j => if j < i + 1 then 0 else X 1 j) := by
      funext q j
      by_cases hq : q = 1
      · subst hq
        by_cases hj : j = i
        · subst hj; simp [sR, uL]
        · have : (j < i + 1) = (j < i) := by apply propext; omega
          simp [sR, uL, hj, this]
      · simp [sR, uL, hq]
    rw [hs] at e1
    obtain ⟨h2, q2, e2, f2⟩ := ih (i + 1) (by omega) h1 e1
    refine ⟨h2, ?_, e2, f1.tr f2⟩
    rw [b29_7]
    simp (disch := omega) only [b29_12, ouF f, Option.bind_some, nI_leI, hni, if_false, q1, nI_add]
    exact q2
def prX (L M X : LT) : LT := sR (sR X 0 (lkF L M 100 (X 0))) 1 (fun j => if j < 800 then 0 else X 1 j)
theorem c_prepare (e : HiA h g L) (e2 : MoA h m M) (f : OuA h o X) (wf : WfH L) (wm : WfM L M 30000) (hd : g + 8 ≤ o ∨ o + 3 ≤ g) (hd2 : m + 3 ≤ o ∨ o + 3 ≤ m) : ∃ h', m_call m_ev 29 y k [.ref o, .ref g, .ref m] ls r h = m_ev y k ls r h' ∧ OuA h' o (prX L M X) ∧ Fr o (o + 3) h h' := by
  obtain ⟨h1, q1, e1, f1⟩ := c_look (y := 29) (k := 5) (ls := [some (.ref o), some (.ref g), some (.ref m), none]) (r := []) e e2 f wf wm hd hd2 (hs := 99) (by omega)
  obtain ⟨h2, q2, e3, f2⟩ := prep_loop (X := sR X 0 (lkF L M 100 (X 0))) (g := g) (m := m) 800 0 rfl h1 (by simpa [sR_id] using e1)
  refine ⟨h2, cl_0 ?_, e3, f1.tr f2⟩
  show m_ev 29 0 [some (.ref o), some (.ref g), some (.ref m), none] [] h = _
  rw [b29_0]
  simp only [ouF f, if_true]
  rw [q1, b29_5]
  exact q2
theorem spB_loop (wf : WfH L) (hd : g + 8 ≤ o ∨ o + 3 ≤ g) {hour t : Nat} (hh : hour ≤ 30000) (ht : t ≤ 99) {X0 : LT} (hA : X0 0 t < 4) (hB : BB (X0 1)) : ∀ (d p : Nat), p + d = L 7 4 → ∀ (h : MH) (d5 : Option Value), HiA h g L → OuA h o (sR X0 1 (spB L (hour + t) (X0 0 t) t (X0 1) p)) → ∃ h' d5', m_ev 32 7 [some (.ref o), some (.ref g), some (.int (nI hour)), some (.int (nI t)), some (.int (nI p)), d5] [] h = m_ev 32 2 [some (.ref o), some (.ref g), some (.int (nI hour)), some (.int (nI (t + 1))), some (.int (nI (L 7 4))), d5'] [] h' ∧ OuA h' o (sR X0 1 (spB L (hour + t) (X0 0 t) t (X0 1) (L 7 4))) ∧ Fr o (o + 3) h h' := by
  have wf0 := wf
  obtain ⟨w1, w2, w3, w4, w5, w6, w7, w8, w9, w10, w11, w12, w13⟩ := wf0
  intro d
  induction d with
  | zero =>
    intro p hp h d5 e f
    obtain rfl : p = L 7 4 := by omega
    refine ⟨h, d5, ?_, f, Fr.rf _ _ _⟩
    rw [b32_7]
    simp (disch := omega) only [b32_33, hiF e, Option.bind_some, nI_leI, Nat.le_refl, if_true, nI_add]
  | succ d ih =>
    intro p hp h d5 e f
    have hnp : ¬ L 7 4 ≤ p := by omega
    have hbb := spB_bb (L := L) (ho := hour + t) (wd := X0 0 t) (t := t) hB p
    have hw2 := hbb (t * 8 + p)
    by_cases hz : spB L (hour + t) (X0 0 t) t (X0 1) p (t * 8 + p) = 0
    · have hs : spB L (hour + t) (X0 0 t) t (X0 1) (p + 1) = spB L (hour + t) (X0 0 t) t (X0 1) p := by rw [spB, if_pos hz]
      obtain ⟨h1, d1, q1, e1, f1⟩ := ih (p + 1) (by omega) h (some (.int (nI 0))) e (by rw [hs]; exact f)
      refine ⟨h1, d1, ?_, e1, f1⟩
      rw [b32_7]
      simp (disch := omega) only [b32_11, b32_15, b32_31, hiF e, ouF f, Option.bind_some, nI_leI, hnp, if_false, if_true, c_whoIsAt f, sR_s, hz, nI_add]
      exact q1
    · have hs : spB L (hour + t) (X0 0 t) t (X0 1) (p + 1) = swB L (hour + t) (X0 0 t) t p (spB L (hour + t) (X0 0 t) t (X0 1) p (t * 8 + p)) (mkB (spB L (hour + t) (X0 0 t) t (X0 1) p) (t + 1) p (spB L (hour + t) (X0 0 t) t (X0 1) p (t * 8 + p))) (L 7 5) := by rw [spB, if_neg hz]
      generalize hq : spB L (hour + t) (X0 0 t) t (X0 1) p = B at *
      obtain ⟨h2, q2, e2, f2⟩ := c_mark (y := 32) (k := 25) (ls := [some (.ref o), some (.ref g), some (.int (nI hour)), some (.int (nI t)), some (.int (nI p)), some (.int (nI (B (t * 8 + p))))]) (r := []) f (t := t + 1) (p := p) (who := B (t * 8 + p)) (by omega) (by omega)
      rw [sR_sR, sR_s] at e2
      have hx0 : (sR X0 1 (mkB B (t + 1) p (B (t * 8 + p)))) 0 t = X0 0 t := by simp [sR]
      obtain ⟨h3, q3, e3, f3⟩ := c_spreadByWays (y := 32) (k := 31) (ls := [some (.ref o), some (.ref g), some (.int (nI hour)), some (.int (nI t)), some (.int (nI p)), some (.int (nI (B (t * 8 + p))))]) (r := []) (f2.hi (by omega) e) e2 wf hd hh ht (p := p) (by omega) (by rw [hx0]; exact hA)
      rw [sR_sR, sR_s, hx0, mkB_n (by omega), ← hs] at e3
      obtain ⟨h1, d1, q1, e1, f1⟩ := ih (p + 1) (by omega) h3 (some (.int (nI (B (t * 8 + p))))) (f3.hi (by omega) (f2.hi (by omega) e)) e3
      refine ⟨h1, d1, ?_, e1, f2.tr (f3.tr f1)⟩
      have hz' : ¬ nI (B (t * 8 + p)) = nI 0 := by rw [nI_eq (by omega) (by omega)]; exact hz
      have hc2 := (ouF e2).1
      rw [b32_7]
      simp (disch := omega) only [b32_11, b32_15, b32_18, hiF e, ouF f, Option.bind_some, nI_leI, hnp, if_false, if_true, c_whoIsAt f, sR_s, hz', nI_add, q2, b32_25, ouF e2, q3, b32_31]
      exact q1
theorem spT_loop (wf : WfH L) (hd : g + 8 ≤ o ∨ o + 3 ≤ g) {hour : Nat} (hh : hour ≤ 30000) {X0 : LT} (hA : ∀ t, t ≤ 99 → X0 0 t < 4) (hB : BB (X0 1)) : ∀ (d t : Nat), t + d = 100 → ∀ (h : MH) (d4 d5 : Option Value), HiA h g L → OuA h o (sR X0 1 (spT L hour (X0 0) (X0 1) t)) → ∃ h', m_ev 32 2 [some (.ref o), some (.ref g), some (.int (nI hour)), some (.int (nI t)), d4, d5] [] h = some (none, h') ∧ OuA h' o (sR X0 1 (spT L hour (X0 0) (X0 1) 100)) ∧ Fr o (o + 3) h h' := by
  intro d
  induction d with
  | zero =>
    intro t ht h d4 d5 e f
    obtain rfl : t = 100 := by omega
    refine ⟨h, ?_, f, Fr.rf _ _ _⟩
    rw [b32_2]
    simp (disch := omega) only [b32_35, nI_ltI, if_true, show 99 < 100 by omega]
  | succ d ih =>
    intro t ht h d4 d5 e f
    have hnt : ¬ 99 < t := by omega
    have hx0 : (sR X0 1 (spT L hour (X0 0) (X0 1) t)) 0 t = X0 0 t := by simp [sR]
    obtain ⟨h1, d1, q1, e1, f1⟩ := spB_loop wf hd hh (t := t) (by omega) (X0 := sR X0 1 (spT L hour (X0 0) (X0 1) t)) (by rw [hx0]; exact hA t (by omega)) (by rw [sR_s]; exact spT_bb hB t) (L 7 4) 0 (by omega) h d5 e (by rw [spB, sR_id]; exact f)
    rw [sR_sR, sR_s, hx0] at e1
    obtain ⟨h2, q2, e2, f2⟩ := ih (t + 1) (by omega) h1 (some (.int (nI (L 7 4)))) d1 (f1.hi (by omega) e) e1
    refine ⟨h2, ?_, e2, f1.tr f2⟩
    rw [b32_2]
    simp (disch := omega) only [b32_5, nI_ltI, hnt, if_false]
    rw [q1]
    exact q2
theorem c_spread (e : HiA h g L) (f : OuA h o X) (wf : WfH L) (hd : g + 8 ≤ o ∨ o + 3 ≤ g) {hour : Nat} (hh : hour ≤ 30000) (hA : ∀ t, t ≤ 99 → X 0 t < 4) (hB : BB (X 1)) : ∃ h', m_call m_ev 32 y k [.ref o, .ref g, .int (nI hour)] ls r h = m_ev y k ls r h' ∧ OuA h' o (sR X 1 (spT L hour (X 0) (X 1) 100)) ∧ Fr o (o + 3) h h' := by
  obtain ⟨h1, q1, e1, f1⟩ := spT_loop wf hd hh hA hB 100 0 rfl h none none e (by rw [spT, sR_id]; exact f)
  refine ⟨h1, cl_0 ?_, e1, f1⟩
  show m_ev 32 0 [some (.ref o), some (.ref g), some (.int (nI hour)), none, none, none] [] h = _
  rw [b32_0]
  exact q1
theorem soonT_loop (f : OuA h o X) (hB : BB (X 1)) : ∀ (d i : Nat), i + d = 100 → m_ev 35 2 [some (.ref o), some (.int (nI i))] [] h = some (some (.int (nO (ffL (fun t => X 1 (t * 8) != 0) d i))), h) := by
  intro d
  induction d with
  | zero =>
    intro i hi
    obtain rfl : i = 100 := by omega
    rw [b35_2]
    simp (disch := omega) only [b35_13, nI_ltI, if_true, ffL, nO, show 99 < 100 by omega]
  | succ d ih =>
    intro i hi
    have a1 := hB (i * 8)
    have hni : ¬ 99 < i := by omega
    rw [b35_2]
    simp (disch := omega) only [b35_5, b35_8, b35_9, b35_11, ouF f, nI_ltI, hni, if_false, if_true, c_onTop f, nI_add, nI_eq, ih (i + 1) (by omega), ffL, bne_iff_ne, ne_eq]
    by_cases hc : X 1 (i * 8) = 0
    · rw [if_pos hc, if_neg (fun q => q hc)]
    · rw [if_neg hc, if_pos hc]; rfl
theorem c_soonestTopOfAny (f : OuA h o X) (hB : BB (X 1)) : m_call m_ev 35 y k [.ref o] ls r h = m_ev y k ls (.int (nO (ffL (fun t => X 1 (t * 8) != 0) 100 0)) :: r) h := by
  refine cl_v ?_
  show m_ev 35 0 [some (.ref o), none] [] h = _
  rw [b35_0]
  exact soonT_loop f hB 100 0 rfl
end
