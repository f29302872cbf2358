/-! the Outlook's methods -/
def OuA (h : MH) (o : Nat) (X : LT) : Prop := h[o]? = some (kOl o) ∧ h[o + 1]? = some (kI 576 (fun i => nI (X 0 i))) ∧ h[o + 2]? = some (kI 800 (fun i => nI (X 1 i)))
def sR (X : LT) (r : Nat) (f : Nat → Nat) : LT := fun r' => if r' = r then f else X r'
theorem sR_s (X : LT) (r : Nat) (f : Nat → Nat) : sR X r f r = f := by simp [sR]
theorem sR_n (X : LT) {r r' : Nat} (f : Nat → Nat) (h : r' ≠ r) : sR X r f r' = X r' := by simp [sR, h]
theorem sR_sR (X : LT) (r : Nat) (f f' : Nat → Nat) : sR (sR X r f) r f' = sR X r f' := by
  funext q; by_cases h : q = r <;> simp [sR, h]
theorem sR_id (X : LT) (r : Nat) : sR X r (X r) = X := by
  funext q; by_cases h : q = r <;> simp [sR, h]
theorem ouF {h : MH} {o : Nat} {X : LT} (e : OuA h o X) : m_cls h o = some 2 ∧ m_fr h o 2 0 = some (o + 1) ∧ m_fr h o 2 1 = some (o + 2) ∧ m_al h (o + 1) = some (nI 576) ∧ m_al h (o + 2) = some (nI 800) ∧ (∀ k, k < 576 → m_ai h (o + 1) 0 (nI k) = some (nI (X 0 k))) ∧ (∀ k, k < 800 → m_ai h (o + 2) 0 (nI k) = some (nI (X 1 k))) := by
  obtain ⟨e0, e1, e2⟩ := e
  exact ⟨cls_e e0, fr_e e0 rfl, fr_e e0 rfl, al_e e1 (by decide), al_e e2 (by decide), fun k hk => ai_e e1 hk (by decide), fun k hk => ai_e e2 hk (by decide)⟩
theorem Fr.ou {lo hi o : Nat} {h h' : MH} {X : LT} (f : Fr lo hi h h') (hb : o + 3 ≤ lo ∨ hi ≤ o) (e : OuA h o X) : OuA h' o X := by
  obtain ⟨e0, e1, e2⟩ := e
  exact ⟨f.at (by omega) e0, f.at (by omega) e1, f.at (by omega) e2⟩
theorem ouW0 {h : MH} {o : Nat} {X : LT} (e : OuA h o X) {k : Nat} (x : Nat) (hk : k < 576) : ∃ h', m_pi h (o + 1) 0 (nI k) (nI x) = some h' ∧ OuA h' o (uL X 0 k x) ∧ Fr o (o + 3) h h' := by
  obtain ⟨e0, e1, e2⟩ := e
  refine ⟨_, pi_e e1 hk (by decide), ⟨st_ne (by omega) e0, ?_, st_ne (by omega) e2⟩, Fr.st (by omega) (by omega)⟩
  rw [st_eq e1, upd_nI]
  simp [uL]
theorem ouW1 {h : MH} {o : Nat} {X : LT} (e : OuA h o X) {k : Nat} (x : Nat) (hk : k < 800) : ∃ h', m_pi h (o + 2) 0 (nI k) (nI x) = some h' ∧ OuA h' o (uL X 1 k x) ∧ Fr o (o + 3) h h' := by
  obtain ⟨e0, e1, e2⟩ := e
  refine ⟨_, pi_e e2 hk (by decide), ⟨st_ne (by omega) e0, st_ne (by omega) e1, ?_⟩, Fr.st (by omega) (by omega)⟩
  rw [st_eq e2, upd_nI]
  simp [uL]
/-- the first from i on, d of them -/
def ffL (P : Nat → Bool) : Nat → Nat → Option Nat
  | 0, _ => none
  | d + 1, i => if P i = true then some i else ffL P d (i + 1)
def mkB (B : Nat → Nat) (t p who : Nat) : Nat → Nat := fun i => if t ≤ 99 ∧ i = t * 8 + p then B i ||| who else B i
def swB (L : LT) (ho wd t p who : Nat) (B : Nat → Nat) : Nat → (Nat → Nat)
  | 0 => B
  | w + 1 => match otL L w p with
    | none => swB L ho wd t p who B w
    | some q => match hoL L w ho wd with
      | none => swB L ho wd t p who B w
      | some d => mkB (swB L ho wd t p who B w) (t + d) q who
def spB (L : LT) (ho wd t : Nat) (B : Nat → Nat) : Nat → (Nat → Nat)
  | 0 => B
  | p + 1 => if spB L ho wd t B p (t * 8 + p) = 0 then spB L ho wd t B p else swB L ho wd t p (spB L ho wd t B p (t * 8 + p)) (mkB (spB L ho wd t B p) (t + 1) p (spB L ho wd t B p (t * 8 + p))) (L 7 5)
def spT (L : LT) (hour : Nat) (A B : Nat → Nat) : Nat → (Nat → Nat)
  | 0 => B
  | t + 1 => spB L (hour + t) (A t) t (spT L hour A B t) (L 7 4)
def BB (B : Nat → Nat) : Prop := ∀ i, B i < 2048
theorem mkB_bb {B : Nat → Nat} {t p who : Nat} (h : BB B) (hw : who < 2048) : BB (mkB B t p who) := by
  intro i
  unfold mkB
  split
  · exact Nat.or_lt_two_pow (n := 11) (h i) hw
  · exact h i
theorem swB_bb {L : LT} {ho wd t p who : Nat} {B : Nat → Nat} (h : BB B) (hw : who < 2048) : ∀ w, BB (swB L ho wd t p who B w) := by
  intro w
  induction w with
  | zero => exact h
  | succ w ih =>
    unfold swB
    split
    · exact ih
    · split
      · exact ih
      · exact mkB_bb ih hw
theorem spB_bb {L : LT} {ho wd t : Nat} {B : Nat → Nat} (h : BB B) : ∀ p, BB (spB L ho wd t B p) := by
  intro p
  induction p with
  | zero => exact h
  | succ p ih =>
    unfold spB
    split
    · exact ih
    · exact swB_bb (mkB_bb ih (ih _)) (ih _) _
theorem spT_bb {L : LT} {hour : Nat} {A B : Nat → Nat} (h : BB B) : ∀ t, BB (spT L hour A B t) := by
  intro t
  induction t with
  | zero => exact h
  | succ t ih => exact spB_bb ih _
section
variable {y k : Nat} {ls : ML} {r : List Value} {h : MH} {g m o : Nat} {L M X : LT}
theorem c_wordIn (e : OuA h o X) {t : Nat} (ht : t < 576) : m_call m_ev 27 y k [.ref o, .int (nI t)] ls r h = m_ev y k ls (.int (nI (X 0 t)) :: r) h := by
  refine cl_v ?_
  show m_ev 27 0 [some (.ref o), some (.int (nI t))] [] h = _
  simp (disch := omega) only [b27_0, b27_2, b27_7, b27_12, ouF e, Option.bind_some, nI_ltI, nI_leI]
  (repeat' split) <;> first | rfl | (exfalso; omega)
theorem c_whoIsAt (e : OuA h o X) {t p : Nat} (ht : t ≤ 99) (hp : p < 8) : m_call m_ev 31 y k [.ref o, .int (nI t), .int (nI p)] ls r h = m_ev y k ls (.int (nI (X 1 (t * 8 + p))) :: r) h := by
  refine cl_v ?_
  show m_ev 31 0 [some (.ref o), some (.int (nI t)), some (.int (nI p))] [] h = _
  simp (disch := omega) only [b31_0, b31_2, b31_5, b31_7, b31_10, b31_12, ouF e, Option.bind_some, nI_ltI, nI_mulN, nI_add]
  (repeat' split) <;> first | rfl | (exfalso; omega)
theorem c_onTop (e : OuA h o X) {t : Nat} (ht : t ≤ 99) : m_call m_ev 34 y k [.ref o, .int (nI t)] ls r h = m_ev y k ls (.int (nI (X 1 (t * 8))) :: r) h := by
  refine cl_v ?_
  show m_ev 34 0 [some (.ref o), some (.int (nI t))] [] h = _
  simp (disch := omega) only [b34_0, b34_4, ouF e, if_true, c_whoIsAt e, Nat.add_zero]
theorem c_mark (e : OuA h o X) {t p who : Nat} (ht : t < 2 ^ 20) (hp : p < 8) : ∃ h', m_call m_ev 30 y k [.ref o, .int (nI t), .int (nI p), .int (nI who)] ls r h = m_ev y k ls r h' ∧ OuA h' o (sR X 1 (mkB (X 1) t p who)) ∧ Fr o (o + 3) h h' := by
  by_cases h99 : t ≤ 99
  · obtain ⟨h1, q1, e1, f1⟩ := ouW1 e (X 1 (t * 8 + p) ||| who) (k := t * 8 + p) (by omega)
    refine ⟨h1, cl_0 ?_, ?_, f1⟩
    · show m_ev 30 0 [some (.ref o), some (.int (nI t)), some (.int (nI p)), some (.int (nI who))] [] h = _
      simp (disch := omega) only [b30_0, b30_2, b30_5, b30_7, b30_10, ouF e, Option.bind_some, nI_ltI, nI_leI, nI_mulN, nI_add, nx_orN, q1]
      (repeat' split) <;> first | rfl | (exfalso; omega)
    · have : sR X 1 (mkB (X 1) t p who) = uL X 1 (t * 8 + p) (X 1 (t * 8 + p) ||| who) := by
        funext q i
        by_cases hq : q = 1
        · subst hq
          by_cases hi : i = t * 8 + p
          · subst hi; simp [sR, uL, mkB, h99]
          · simp [sR, uL, mkB, hi]
        · simp [sR, uL, hq]
      rw [this]; exact e1
  · refine ⟨h, cl_0 ?_, ?_, Fr.rf _ _ _⟩
    · show m_ev 30 0 [some (.ref o), some (.int (nI t)), some (.int (nI p)), some (.int (nI who))] [] h = _
      simp (disch := omega) only [b30_0, b30_2, b30_22, nI_ltI]
      (repeat' split) <;> first | rfl | (exfalso; omega)
    · have : sR X 1 (mkB (X 1) t p who) = X := by
        have : mkB (X 1) t p who = X 1 := by funext i; simp [mkB, h99]
        rw [this, sR_id]
      rw [this]; exact e
theorem sw_loop (e : HiA h g L) (wf : WfH L) (hd : g + 8 ≤ o ∨ o + 3 ≤ g) {hour t p who : Nat} (hh : hour ≤ 30000) (ht : t ≤ 99) (hp : p < 8) {X0 : LT} (hA : X0 0 t < 4) : ∀ (d w : Nat), w + d = L 7 5 → ∀ (h : MH) (d7 d8 : Option Value), HiA h g L → OuA h o (sR X0 1 (swB L (hour + t) (X0 0 t) t p who (X0 1) w)) → ∃ h', m_ev 33 7 [some (.ref o), some (.ref g), some (.int (nI hour)), some (.int (nI t)), some (.int (nI p)), some (.int (nI who)), some (.int (nI w)), d7, d8] [] h = some (none, h') ∧ OuA h' o (sR X0 1 (swB L (hour + t) (X0 0 t) t p who (X0 1) (L 7 5))) ∧ Fr o (o + 3) h h' := by
  have wf0 := wf
  obtain ⟨w1, w2, w3, w4, w5, w6, w7, w8, w9, w10, w11, w12, w13⟩ := wf0
  intro d
  induction d with
  | zero =>
    intro w hw h d7 d8 e f
    obtain rfl : w = L 7 5 := by omega
    refine ⟨h, ?_, f, Fr.rf _ _ _⟩
    rw [b33_7]
    simp (disch := omega) only [b33_43, hiF e, Option.bind_some, nI_leI, Nat.le_refl, if_true]
  | succ d ih =>
    intro w hw h d7 d8 e f
    have hnw : ¬ L 7 5 ≤ w := by omega
    have hww : w < L 7 5 := by omega
    cases ho : otL L w p with
    | none =>
      have hs : swB L (hour + t) (X0 0 t) t p who (X0 1) (w + 1) = swB L (hour + t) (X0 0 t) t p who (X0 1) w := by rw [swB, ho]
      obtain ⟨h1, q1, e1, f1⟩ := ih (w + 1) (by omega) h (some (.int (-4))) (some (.int (-4))) e (by rw [hs]; exact f)
      refine ⟨h1, ?_, e1, f1⟩
      rw [b33_7]
      simp (disch := omega) only [b33_11, b33_15, b33_19, b33_41, hiF e, Option.bind_some, nI_leI, hnw, if_false, if_true, c_otherEnd e wf, ho, nO, nI_add]
      exact q1
    | some q =>
      have hq := otL_lt wf hww ho
      have hX : (sR X0 1 (swB L (hour + t) (X0 0 t) t p who (X0 1) w)) 0 t = X0 0 t := by simp [sR]
      cases hh2 : hoL L w (hour + t) (X0 0 t) with
      | none =>
        have hs : swB L (hour + t) (X0 0 t) t p who (X0 1) (w + 1) = swB L (hour + t) (X0 0 t) t p who (X0 1) w := by rw [swB, ho]; simp only [hh2]
        obtain ⟨h1, q1, e1, f1⟩ := ih (w + 1) (by omega) h (some (.int (nI q))) (some (.int (-4))) e (by rw [hs]; exact f)
        refine ⟨h1, ?_, e1, f1⟩
        rw [b33_7]
        simp (disch := omega) only [b33_11, b33_15, b33_21, b33_29, b33_30, b33_41, hiF e, ouF f, Option.bind_some, nI_leI, hnw, if_false, if_true, c_otherEnd e wf, ho, nO, nI_add, if_neg (nI_neg4 (show q < 2 ^ 31 by omega)), c_wordIn f, hX, c_hoursBy e wf, hh2]
        exact q1
      | some dd =>
        have hdd := hoL_lt wf hww hh2
        have hs : swB L (hour + t) (X0 0 t) t p who (X0 1) (w + 1) = mkB (swB L (hour + t) (X0 0 t) t p who (X0 1) w) (t + dd) q who := by rw [swB, ho]; simp only [hh2]
        obtain ⟨h2, q2, e2, f2⟩ := c_mark (y := 33) (k := 41) (ls := [some (.ref o), some (.ref g), some (.int (nI hour)), some (.int (nI t)), some (.int (nI p)), some (.int (nI who)), some (.int (nI w)), some (.int (nI q)), some (.int (nI dd))]) (r := []) f (t := t + dd) (p := q) (who := who) (by omega) (by omega)
        rw [sR_sR, sR_s] at e2
        obtain ⟨h1, q1, e1, f1⟩ := ih (w + 1) (by omega) h2 (some (.int (nI q))) (some (.int (nI dd))) (f2.hi (by omega) e) (by rw [hs]; exact e2)
        refine ⟨h1, ?_, e1, f2.tr f1⟩
        rw [b33_7]
        simp (disch := omega) only [b33_11, b33_15, b33_21, b33_29, b33_30, b33_34, b33_41, hiF e, ouF f, Option.bind_some, nI_leI, hnw, if_false, if_true, c_otherEnd e wf, ho, nO, nI_add, if_neg (nI_neg4 (show q < 2 ^ 31 by omega)), if_neg (nI_neg4 (show dd < 2 ^ 31 by omega)), c_wordIn f, hX, c_hoursBy e wf, hh2, q2]
        exact q1
theorem c_spreadByWays (e : HiA h g L) (f : OuA h o X) (wf : WfH L) (hd : g + 8 ≤ o ∨ o + 3 ≤ g) {hour t p : Nat} (hh : hour ≤ 30000) (ht : t ≤ 99) (hp : p < 8) (hA : X 0 t < 4) : ∃ h', m_call m_ev 33 y k [.ref o, .ref g, .int (nI hour), .int (nI t), .int (nI p)] ls r h = m_ev y k ls r h' ∧ OuA h' o (sR X 1 (swB L (hour + t) (X 0 t) t p (X 1 (t * 8 + p)) (X 1) (L 7 5))) ∧ Fr o (o + 3) h h' := by
  obtain ⟨h1, q1, e1, f1⟩ := sw_loop (who := X 1 (t * 8 + p)) e wf hd hh ht hp hA (L 7 5) 0 (by omega) h none none e (by rw [swB, sR_id]; exact f)
  refine ⟨h1, cl_0 ?_, e1, f1⟩
  show m_ev 33 0 [some (.ref o), some (.ref g), some (.int (nI hour)), some (.int (nI t)), some (.int (nI p)), none, none, none, none] [] h = _
  simp (disch := omega) only [b33_0, b33_4, ouF f, if_true, c_whoIsAt f]
  exact q1
end
