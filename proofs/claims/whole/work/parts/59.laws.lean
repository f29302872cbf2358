/-! the model: LAWS, GRAZING, a YEAR -/
-- first and count, from either end
def cE (F : Nat → Bool) : Nat → Nat → Nat
  | 0, _ => 0
  | d + 1, e => (if F e = true then 1 else 0) + cE F d (e + 1)
def mE (F : Nat → Bool) (s : Nat) : Nat → Nat × Option Nat → Nat × Option Nat
  | 0, p => p
  | e + 1, p => mE F s e (if F (e + 1) = true then (p.1 + 1, some (100 * s + (e + 1))) else p)
def hdL (s : Nat) (x : Option Nat) (y : Option Nat) : Option Nat := match x with
  | some v => some (100 * s + v)
  | none => y
theorem cE_snoc (F : Nat → Bool) : ∀ (d e : Nat), cE F (d + 1) e = cE F d e + (if F (e + d) = true then 1 else 0) := by
  intro d
  induction d with
  | zero => intro e; simp [cE]
  | succ d ih =>
    intro e
    rw [cE, ih (e + 1), cE, show e + 1 + d = e + (d + 1) by omega]
    omega
theorem ff_snoc (F : Nat → Bool) (d e : Nat) : ffL F (d + 1) e = (match ffL F d e with
  | some v => some v
  | none => if F (e + d) = true then some (e + d) else none) := by
  rw [ffL_app]
  cases ffL F d e with
  | some v => rfl
  | none => rfl
theorem mE_eq (F : Nat → Bool) (s : Nat) : ∀ (e : Nat) (p : Nat × Option Nat), mE F s e p = (p.1 + cE F e 1, hdL s (ffL F e 1) p.2) := by
  intro e
  induction e with
  | zero => intro p; rfl
  | succ e ih =>
    intro p
    rw [mE, ih, cE_snoc, ff_snoc, show 1 + e = e + 1 by omega]
    by_cases hF : F (e + 1) = true
    · rw [if_pos hF, if_pos hF, if_pos hF]
      congr 1
      · show p.1 + 1 + _ = _; omega
      · cases ffL F e 1 <;> rfl
    · rw [if_neg hF, if_neg hF, if_neg hF, Nat.add_zero]
      congr 1
      cases ffL F e 1 <;> rfl
theorem cE_0 (F : Nat → Bool) : ∀ (d e : Nat), (cE F d e = 0) ↔ (ffL F d e = none) := by
  intro d
  induction d with
  | zero => intro e; exact ⟨fun _ => rfl, fun _ => rfl⟩
  | succ d ih =>
    intro e
    unfold cE ffL
    by_cases hF : F e = true
    · rw [if_pos hF, if_pos hF]
      constructor
      · intro q; omega
      · intro q; cases q
    · rw [if_neg hF, if_neg hF, Nat.zero_add]; exact ih (e + 1)
section
variable {L M S : LT}
def ftF (L M S : LT) (s e : Nat) : Bool := alL (fitL L M S s e) (S 2 0) 0
theorem lawE_eq (s : Nat) : ∀ (d e : Nat) (p : Nat × Option Nat), lawE L M S s d e p = (p.1 + cE (ftF L M S s) d e, if p.1 = 0 then hdL s (ffL (ftF L M S s) d e) p.2 else p.2) := by
  intro d
  induction d with
  | zero =>
    intro e p
    show p = (p.1 + 0, if p.1 = 0 then p.2 else p.2)
    split <;> rfl
  | succ d ih =>
    intro e p
    by_cases hF : ftF L M S s e = true
    · have e1 : lawE L M S s (d + 1) e p = lawE L M S s d (e + 1) (p.1 + 1, if p.1 = 0 then some (100 * s + e) else p.2) := by
        rw [lawE, if_pos (show alL (fitL L M S s e) (S 2 0) 0 = true from hF)]
      have e2 : cE (ftF L M S s) (d + 1) e = 1 + cE (ftF L M S s) d (e + 1) := by rw [cE, if_pos hF]
      have e3 : ffL (ftF L M S s) (d + 1) e = some e := by rw [ffL, if_pos hF]
      rw [e1, ih, e2, e3]
      refine Prod.ext ?_ ?_
      · show p.1 + 1 + _ = p.1 + (1 + _); omega
      · dsimp only
        rw [if_neg (show ¬ p.1 + 1 = 0 by omega)]; rfl
    · have e1 : lawE L M S s (d + 1) e p = lawE L M S s d (e + 1) p := by
        rw [lawE, if_neg (show ¬ alL (fitL L M S s e) (S 2 0) 0 = true from hF)]
      have e2 : cE (ftF L M S s) (d + 1) e = cE (ftF L M S s) d (e + 1) := by rw [cE, if_neg hF, Nat.zero_add]
      have e3 : ffL (ftF L M S s) (d + 1) e = ffL (ftF L M S s) d (e + 1) := by rw [ffL, if_neg hF]
      rw [e1, ih, e2, e3]
def cD (L M S : LT) : Nat → Nat → Nat
  | 0, _ => 0
  | d + 1, s => cE (ftF L M S s) 24 1 + cD L M S d (s + 1)
def fD (L M S : LT) : Nat → Nat → Option Nat
  | 0, _ => none
  | d + 1, s => hdL s (ffL (ftF L M S s) 24 1) (fD L M S d (s + 1))
def orL (x y : Option Nat) : Option Nat := match x with
  | some v => some v
  | none => y
theorem lawD_eq : ∀ (d s : Nat) (p : Nat × Option Nat), lawD L M S d s p = (p.1 + cD L M S d s, if p.1 = 0 then orL (fD L M S d s) p.2 else p.2) := by
  intro d
  induction d with
  | zero =>
    intro s p
    show p = (p.1 + 0, if p.1 = 0 then p.2 else p.2)
    split <;> rfl
  | succ d ih =>
    intro s p
    rw [lawD, ih, lawE_eq]
    show (p.1 + cE (ftF L M S s) 24 1 + cD L M S d (s + 1), if p.1 + cE (ftF L M S s) 24 1 = 0 then orL (fD L M S d (s + 1)) (if p.1 = 0 then hdL s (ffL (ftF L M S s) 24 1) p.2 else p.2) else (if p.1 = 0 then hdL s (ffL (ftF L M S s) 24 1) p.2 else p.2)) = (p.1 + (cE (ftF L M S s) 24 1 + cD L M S d (s + 1)), if p.1 = 0 then orL (hdL s (ffL (ftF L M S s) 24 1) (fD L M S d (s + 1))) p.2 else p.2)
    have hz := cE_0 (ftF L M S s) 24 1
    generalize cE (ftF L M S s) 24 1 = c at *
    generalize ffL (ftF L M S s) 24 1 = f at *
    rw [Nat.add_assoc]
    refine Prod.ext rfl ?_
    show (if p.1 + c = 0 then orL (fD L M S d (s + 1)) (if p.1 = 0 then hdL s f p.2 else p.2) else (if p.1 = 0 then hdL s f p.2 else p.2)) = (if p.1 = 0 then orL (hdL s f (fD L M S d (s + 1))) p.2 else p.2)
    by_cases h0 : p.1 = 0
    · rw [if_pos h0, if_pos h0]
      by_cases hc : c = 0
      · rw [if_pos (by omega), hz.1 hc]; rfl
      · rw [if_neg (by omega)]
        cases f with
        | none => exact absurd (hz.2 rfl) hc
        | some v => rfl
    · rw [if_neg h0, if_neg h0, if_neg (by omega)]
def mD (L M S : LT) : Nat → Nat × Option Nat → Nat × Option Nat
  | 0, p => p
  | s + 1, p => mD L M S s (mE (ftF L M S s) s 24 p)
theorem cD_snoc : ∀ (d s : Nat), cD L M S (d + 1) s = cD L M S d s + cE (ftF L M S (s + d)) 24 1 := by
  intro d
  induction d with
  | zero => intro s; show cE _ 24 1 + 0 = 0 + cE _ 24 1; rw [Nat.add_zero, Nat.add_zero, Nat.zero_add]
  | succ d ih =>
    intro s
    rw [cD, ih (s + 1), cD, show s + 1 + d = s + (d + 1) by omega]
    omega
theorem fD_snoc : ∀ (d s : Nat), fD L M S (d + 1) s = orL (fD L M S d s) (hdL (s + d) (ffL (ftF L M S (s + d)) 24 1) none) := by
  intro d
  induction d with
  | zero => intro s; rfl
  | succ d ih =>
    intro s
    rw [fD, ih (s + 1), fD, show s + 1 + d = s + (d + 1) by omega]
    cases ffL (ftF L M S s) 24 1 <;> rfl
theorem mD_eq : ∀ (s : Nat) (p : Nat × Option Nat), mD L M S s p = (p.1 + cD L M S s 0, orL (fD L M S s 0) p.2) := by
  intro s
  induction s with
  | zero => intro p; rfl
  | succ s ih =>
    intro p
    rw [mD, ih, mE_eq, cD_snoc, fD_snoc, Nat.zero_add]
    generalize cE (ftF L M S s) 24 1 = c at *
    generalize ffL (ftF L M S s) 24 1 = f at *
    generalize cD L M S s 0 = cc at *
    generalize fD L M S s 0 = ff at *
    refine Prod.ext ?_ ?_
    · show p.1 + c + cc = p.1 + (cc + c); omega
    · show orL ff (hdL s f p.2) = orL (orL ff (hdL s f none)) p.2
      cases ff with
      | some v => rfl
      | none => cases f <;> rfl
theorem law_mD : mD L M S 12 (0, none) = lawD L M S 12 0 (0, none) := by
  rw [mD_eq, lawD_eq]; rfl
theorem mE_le (F : Nat → Bool) (s : Nat) (p : Nat × Option Nat) : ∀ e, (mE F s e p).1 ≤ p.1 + e := by
  intro e
  rw [mE_eq]
  have : ∀ (d e : Nat), cE F d e ≤ d := by
    intro d
    induction d with
    | zero => intro e; exact Nat.le_refl _
    | succ d ih => intro e; unfold cE; have := ih (e + 1); split <;> omega
  have := this e 1
  show p.1 + cE F e 1 ≤ _
  omega
end
section
variable {y k : Nat} {ls : ML} {r : List Value} {h : MH} {V L M T S : LT} {hp hk B : Nat} {P K : Nat → LT}
theorem m1_0 : nI 0 + (-1) = (-1 : Int32) := by decide
theorem law_fit (e : MdA h V) (rh : RH V L) (wf : WfH L) {q s ev : Nat} {x2 x3 x4 x5 : Int32} (z0 : V 0 15 = S 2 0) (h6 : S 2 0 ≤ 6) (z1 : ∀ i, i < S 2 0 → V 79 (2 * i) = S 0 i ∧ V 79 (2 * i + 1) = S 1 i) (hS : ∀ i, i < S 2 0 → S 0 i ≤ 3 ∧ S 1 i ≤ 99) (u : ∀ j, j ≤ 99 → V 86 j = spotL L M s ev j) : ∀ (d i : Nat), i + d = S 2 0 → ∀ (b : Bool), m_ev 153 33 [some (.ref 72), some (.int (nI q)), some (.int x2), some (.int x3), some (.int x4), some (.int x5), some (.int (nI (b01 b))), some (.int (nI i))] [] h = m_ev 153 62 [some (.ref 72), some (.int (nI q)), some (.int x2), some (.int x3), some (.int x4), some (.int x5), some (.int (nI (b01 (b && alL (fitL L M S s ev) d i)))), some (.int (nI (S 2 0)))] [] h := by
  have w2 := wf.2.1
  have w3 := wf.2.2.1
  have n1 : ¬ nI 1 = nI 0 := by decide
  have r73 := rh.2.2.2.2.2.2.2.1
  intro d
  induction d with
  | zero =>
    intro i hi b
    obtain rfl : i = S 2 0 := by omega
    rw [b153_33]
    simp (disch := omega) only [mdF e, Option.bind_some, z0, nI_leI, Nat.le_refl, if_true, alL, Bool.and_true]
  | succ d ih =>
    intro i hi b
    have hni : ¬ S 2 0 ≤ i := by omega
    obtain ⟨t1, t2⟩ := z1 i (by omega)
    obtain ⟨t3, t4⟩ := hS i (by omega)
    have u1 := u (S 1 i) t4
    have l1 : V 86 (S 1 i) < L 7 0 := by rw [u1]; exact spotL_lt wf M _ _ _
    have x1 := r73 _ l1
    rw [u1] at x1
    have y1 := w3 _ (spotL_lt wf M s ev (S 1 i))
    rw [b153_33]
    simp (disch := omega) only [mdF e, Option.bind_some, z0, nI_leI, hni, if_false, b153_37]
    cases b with
    | false =>
      have := ih (i + 1) (by omega) false
      simp only [b01_f, if_true, b153_58, nI_add, Bool.false_and] at this ⊢
      exact this
    | true =>
      simp (disch := omega) only [b01_t, n1, if_false, b153_39, mdF e, Option.bind_some, nI_mulN, nI_add, t2, if_true, d_wordBy e (show S 1 i < 577 by omega) (show V 86 (S 1 i) < 12 by omega), x1, u1, b153_49, t1, nI_eq]
      by_cases hc : L 0 (spotL L M s ev (S 1 i)) = S 0 i
      · have := ih (i + 1) (by omega) true
        simp only [b01_t] at this
        have hf : fitL L M S s ev i = true := by unfold fitL; rw [beq_iff_eq]; exact hc
        rw [if_pos hc, b153_56, nI_add, this, alL, if_pos hf]
      · have := ih (i + 1) (by omega) false
        simp only [b01_f] at this
        have hf : ¬ fitL L M S s ev i = true := by unfold fitL; rw [beq_iff_eq]; exact hc
        rw [if_neg hc, b153_58, nI_add, this, alL, if_neg hf, Bool.false_and, Bool.and_false]
theorem law_e (wf : WfH L) (wm : WfM L M 30000) {q s : Nat} (hs : s ≤ 11) (h6 : S 2 0 ≤ 6) (hS : ∀ i, i < S 2 0 → S 0 i ≤ 3 ∧ S 1 i ≤ 99) : ∀ (ev : Nat), ev ≤ 24 → ∀ (p : Nat × Option Nat), p.1 + ev ≤ 2000 → ∀ (h : MH) (V : LT) (d6 d7 : Option Value), MdA h V → RV V L M T S hp P hk K → ∃ h' V' d6' d7', m_ev 153 17 [some (.ref 72), some (.int (nI q)), some (.int (nI p.1)), some (.int (nO p.2)), some (.int (nI s)), some (.int (nI ev)), d6, d7] [] h = m_ev 153 13 [some (.ref 72), some (.int (nI q)), some (.int (nI (mE (ftF L M S s) s ev p).1)), some (.int (nO (mE (ftF L M S s) s ev p).2)), some (.int (nI s + (-1))), some (.int (nI 0)), d6', d7'] [] h' ∧ MdA h' V' ∧ RV V' L M T S hp P hk K ∧ Sk V V' ∧ Fr 72 89 h h' := by
  have n1 : ¬ nI 1 = nI 0 := by decide
  have wf0 := wf
  obtain ⟨w1, w2, w3, w4, w5, w6, w7, w8, w9, w10, w11, w12, w13⟩ := wf0
  have wm0 := wm
  obtain ⟨m1, m2, m3, m4, m5⟩ := wm0
  intro ev
  induction ev with
  | zero =>
    intro _ p hp2 h V d6 d7 e rv
    refine ⟨h, V, d6, d7, ?_, e, rv, Sk.rf _, Fr.rf _ _ _⟩
    rw [b153_17]
    simp (disch := omega) only [nI_ltI, show 0 < 1 by omega, if_true, b153_82, mE]
  | succ ev ih =>
    intro hev p hp2 h V d6 d7 e rv
    obtain ⟨s0, s1, s2, s3, s4, s8⟩ := stF rv.2.1
    obtain ⟨h3, V3, q3, e3, x3, u3, f3⟩ := d_findUps (M := M) (y := 153) (k := 29) (ls := [some (.ref 72), some (.int (nI q)), some (.int (nI p.1)), some (.int (nO p.2)), some (.int (nI s)), some (.int (nI (ev + 1))), d6, d7]) (r := []) e rv.1 wf (n := 99) (s := s) (ev := ev + 1) (by omega) hs (by omega) hev m1 m3 m2 s0 s1
    have rv3 := rv.sk (x3.sk (by omega))
    obtain ⟨z0, _, z1⟩ := rv3.2.2.2.2.2
    have hft := law_fit (q := q) (x2 := nI p.1) (x3 := nO p.2) (x4 := nI s) (x5 := nI (ev + 1)) e3 rv3.1 wf z0 h6 z1 hS u3 (S 2 0) 0 (by omega) true
    have pre : m_ev 153 17 [some (.ref 72), some (.int (nI q)), some (.int (nI p.1)), some (.int (nO p.2)), some (.int (nI s)), some (.int (nI (ev + 1))), d6, d7] [] h = m_ev 153 62 [some (.ref 72), some (.int (nI q)), some (.int (nI p.1)), some (.int (nO p.2)), some (.int (nI s)), some (.int (nI (ev + 1))), some (.int (nI (b01 (ftF L M S s (ev + 1))))), some (.int (nI (S 2 0)))] [] h3 := by
      rw [b153_17]
      simp (disch := omega) only [nI_ltI, show ¬ ev + 1 < 1 by omega, if_false, b153_20, mdF e, Option.bind_some, s2, if_true, q3, b153_29]
      exact hft
    rw [pre, b153_62]
    cases hf : ftF L M S s (ev + 1) with
    | true =>
      obtain ⟨h4, V4, d6', d7', q4, e4, rv4, k4, f4⟩ := ih (by omega) (p.1 + 1, some (100 * s + (ev + 1))) (by show p.1 + 1 + ev ≤ 2000; omega) h3 V3 (some (.int (nI 1))) (some (.int (nI (S 2 0)))) e3 rv3
      refine ⟨h4, V4, d6', d7', ?_, e4, rv4, (x3.sk (by omega)).tr k4, f3.tr f4⟩
      have hm : mE (ftF L M S s) s (ev + 1) p = mE (ftF L M S s) s ev (p.1 + 1, some (100 * s + (ev + 1))) := by rw [mE, if_pos hf]
      rw [hm]
      simp only [b01_t, n1, if_false, b153_65, b153_72, nI_add, nI_mulN, pk_m1]
      exact q4
    | false =>
      obtain ⟨h4, V4, d6', d7', q4, e4, rv4, k4, f4⟩ := ih (by omega) p (by omega) h3 V3 (some (.int (nI 0))) (some (.int (nI (S 2 0)))) e3 rv3
      refine ⟨h4, V4, d6', d7', ?_, e4, rv4, (x3.sk (by omega)).tr k4, f3.tr f4⟩
      have hm : mE (ftF L M S s) s (ev + 1) p = mE (ftF L M S s) s ev p := by rw [mE, if_neg (by rw [hf]; simp)]
      rw [hm]
      simp only [b01_f, if_true, b153_67, nI_add, Nat.add_zero, b153_78, pk_m1]
      exact q4
theorem law_d (wf : WfH L) (wm : WfM L M 30000) {q : Nat} (hq : q ≤ 1) (h6 : S 2 0 ≤ 6) (hS : ∀ i, i < S 2 0 → S 0 i ≤ 3 ∧ S 1 i ≤ 99) : ∀ (s : Nat), s ≤ 12 → ∀ (p : Nat × Option Nat), p.1 + 24 * s ≤ 1900 → ∀ (x4 : Int32), nI s + (-1) = x4 → ∀ (h : MH) (V : LT) (d5 d6 d7 : Option Value), MdA h V → RV V L M T S hp P hk K → ∃ h' V', m_ev 153 13 [some (.ref 72), some (.int (nI q)), some (.int (nI p.1)), some (.int (nO p.2)), some (.int x4), d5, d6, d7] [] h = some (some (.int (if q = 0 then nI (mD L M S s p).1 else nO (mD L M S s p).2)), h') ∧ MdA h' V' ∧ Sk V V' ∧ Fr 72 89 h h' := by
  intro s
  induction s with
  | zero =>
    intro _ p hp2 x4 hx h V d5 d6 d7 e rv
    subst hx
    refine ⟨h, V, ?_, e, Sk.rf _, Fr.rf _ _ _⟩
    rw [m1_0, b153_13, if_pos (by decide), b153_84]
    simp (disch := omega) only [nI_eq, b153_86, b153_88, mD]
    split <;> rfl
  | succ s ih =>
    intro hs p hp2 x4 hx h V d5 d6 d7 e rv
    rw [pk_m1] at hx
    subst hx
    obtain ⟨h3, V3, d6', d7', q3, e3, rv3, k3, f3⟩ := law_e (q := q) wf wm (show s ≤ 11 by omega) h6 hS 24 (by omega) p (by omega) h V d6 d7 e rv
    have hle := mE_le (ftF L M S s) s p 24
    obtain ⟨h4, V4, q4, e4, k4, f4⟩ := ih (by omega) (mE (ftF L M S s) s 24 p) (by omega) _ rfl h3 V3 (some (.int (nI 0))) d6' d7' e3 rv3
    refine ⟨h4, V4, ?_, e4, k3.tr k4, f3.tr f4⟩
    rw [b153_13]
    simp (disch := omega) only [nI_ltI, Nat.not_lt_zero, if_false, b153_15]
    rw [q3, q4]
    rfl
theorem e_laws_bad {x : Int32} (hx : x < nI 0 ∨ nI 2 ≤ x) : AM 153 [.ref 72, .int x] h (-1) h := by
  refine ⟨?_, Fr.rf _ _ _⟩
  show m_ev 153 0 [some (.ref 72), some (.int x), none, none, none, none, none, none] [] h = _
  simp only [b153_0, d_in0 hx rfl (show 0 ≤ 2 by omega) (by omega), b153_4, if_true, b153_5]
theorem e_laws (e : MdA h V) (rv : RV V L M T S hp P hk K) (wf : WfH L) (wm : WfM L M 30000) (h6 : S 2 0 ≤ 6) (hS : ∀ i, i < S 2 0 → S 0 i ≤ 3 ∧ S 1 i ≤ 99) {q : Nat} (hq : q ≤ 1) : ∃ h' V', AM 153 [.ref 72, .int (nI q)] h (if q = 0 then nI (lawD L M S 12 0 (0, none)).1 else nO (lawD L M S 12 0 (0, none)).2) h' ∧ MdA h' V' ∧ Sk V V' := by
  have n1 : ¬ nI 1 = nI 0 := by decide
  obtain ⟨h4, V4, q4, e4, k4, f4⟩ := law_d wf wm hq h6 hS 12 (by omega) (0, none) (by show 0 + 24 * 12 ≤ 1900; omega) (nI 11) (by decide) h V none none none e rv
  refine ⟨h4, V4, ⟨?_, f4⟩, e4, k4⟩
  show m_ev 153 0 [some (.ref 72), some (.int (nI q)), none, none, none, none, none, none] [] h = _
  rw [← law_mD]
  simp (disch := omega) only [b153_0, d_in1 (show 0 ≤ q by omega) hq (show 1 < 2 ^ 31 by omega), b153_4, n1, if_false, b153_7]
  exact q4
end
