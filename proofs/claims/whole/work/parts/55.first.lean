/-! the model: FIRST, FROM -/
section
variable {y k : Nat} {ls : ML} {r : List Value} {h : MH} {V L M : LT}
theorem setL_0 {a w : Nat} (hl : M 1 a = 0) : setL L M a w = (if otL L w (M 0 a) = none then none else hoL L w (M 2 0) (upL L M 0)) := by
  unfold setL; rw [if_neg (by omega)]
theorem fsM_bit (wf : WfH L) (wm : WfM L M 30000) {a : Nat} (ha : a < L 7 6) (t p b : Nat) (ht : t < 100) (hp : p < 8) : ∀ w, w ≤ L 7 5 → (((fsM L M a w (t * 8 + p)).testBit b = true) ↔ ((b = 10 ∧ t = 0 ∧ p = M 0 a) ∨ (b < w ∧ setL L M a b = some t ∧ otL L b (M 0 a) = some p))) := by
  have w9 := wf.2.2.2.2.2.2.2.2.1
  obtain ⟨p1, p2⟩ := wm.2.2.2.2 a ha
  intro w
  induction w with
  | zero =>
    intro _
    unfold fsM
    rw [mkB_bit, Nat.zero_testBit, show (1024 : Nat) = 2 ^ 10 from rfl, Nat.testBit_two_pow, decide_eq_true_eq]
    constructor
    · rintro (q | ⟨q1, q2, q3⟩)
      · cases q
      · exact Or.inl ⟨q3.symm, by omega, by omega⟩
    · rintro (⟨q1, q2, q3⟩ | ⟨q, _⟩)
      · exact Or.inr ⟨by omega, by omega, q1.symm⟩
      · omega
  | succ w ih =>
    intro hw
    have ih := ih (by omega)
    unfold fsM
    cases hs : setL L M a w with
    | none =>
      show ((fsM L M a w (t * 8 + p)).testBit b = true) ↔ _
      rw [ih]
      constructor
      · rintro (q | ⟨q1, q2, q3⟩)
        · exact Or.inl q
        · exact Or.inr ⟨by omega, q2, q3⟩
      · rintro (q | ⟨q1, q2, q3⟩)
        · exact Or.inl q
        · by_cases hb : b = w
          · subst hb; rw [hs] at q2; cases q2
          · exact Or.inr ⟨by omega, q2, q3⟩
    | some d =>
      obtain ⟨q0, hq0⟩ := setL_ot hs
      have hq := otL_lt wf (show w < L 7 5 by omega) hq0
      have hd := setL_lt wf (show w < L 7 5 by omega) hs
      show ((mkB (fsM L M a w) d ((otL L w (M 0 a)).getD 0) (2 ^ w) (t * 8 + p)).testBit b = true) ↔ _
      rw [mkB_bit, ih, hq0, Nat.testBit_two_pow, decide_eq_true_eq]
      show ((_ ∨ _) ∨ (d ≤ 99 ∧ t * 8 + p = d * 8 + q0 ∧ w = b)) ↔ _
      constructor
      · rintro ((q | ⟨q1, q2, q3⟩) | ⟨q1, q2, q3⟩)
        · exact Or.inl q
        · exact Or.inr ⟨by omega, q2, q3⟩
        · subst q3
          obtain rfl : t = d := by omega
          obtain rfl : p = q0 := by omega
          exact Or.inr ⟨by omega, hs, hq0⟩
      · rintro (q | ⟨q1, q2, q3⟩)
        · exact Or.inl (Or.inl q)
        · by_cases hb : b = w
          · subst hb
            rw [hs] at q2
            rw [hq0] at q3
            cases q2
            cases q3
            exact Or.inr ⟨by omega, rfl, rfl⟩
          · exact Or.inl (Or.inr ⟨by omega, q2, q3⟩)
theorem firB_bit (wf : WfH L) (wm : WfM L M 30000) {a : Nat} (ha : a < L 7 6) {t b : Nat} (ht : t < 100) : ((firB L M a (t * 8)).testBit b = true) ↔ ((b = 10 ∧ RCa L M (M 0 a) 0 t 0) ∨ (b < L 7 5 ∧ ∃ d q, setL L M a b = some d ∧ otL L b (M 0 a) = some q ∧ RCa L M q d t 0)) := by
  have w10 := wf.2.2.2.2.2.2.2.2.2.1
  obtain ⟨p1, p2⟩ := wm.2.2.2.2 a ha
  have hs := spT_bit (hour := M 2 0) (A := upL L M) (B := fsM L M a (L 7 5)) wf (I := fun b t p => (b = 10 ∧ t = 0 ∧ p = M 0 a) ∨ (b < L 7 5 ∧ setL L M a b = some t ∧ otL L b (M 0 a) = some p)) (fun t p b ht hp => fsM_bit wf wm ha t p b ht hp _ (Nat.le_refl _)) (by
    rintro b t p (⟨_, _, q⟩ | ⟨q1, _, q2⟩)
    · omega
    · exact otL_lt wf q1 q2) 100 (Nat.le_refl _) t 0 b ht (by omega)
  unfold firB RCa
  rw [show t * 8 = t * 8 + 0 from rfl, hs]
  constructor
  · intro q
    by_cases hb : b = 10
    · exact Or.inl ⟨hb, rcF_mono (by
        rintro t p (⟨_, q1, q2⟩ | ⟨q1, _⟩)
        · exact ⟨q1, q2⟩
        · omega) _ _ _ q⟩
    · by_cases hw : b < L 7 5
      · cases hsl : setL L M a b with
        | none =>
          have : ∀ n t p, ¬ rcF L (M 2 0) (upL L M) (fun _ _ => False) n t p := by
            intro n
            induction n with
            | zero => intro t p q; exact q
            | succ n ih =>
              intro t p q
              unfold rcF at q
              rcases q with q | ⟨_, (⟨_, q⟩ | ⟨w, q', d, _, _, _, _, _, q⟩)⟩
              · exact ih _ _ q
              · exact ih _ _ q
              · exact ih _ _ q
          exact (this _ _ _ (rcF_mono (by
            rintro t p (⟨q1, _⟩ | ⟨_, q1, _⟩)
            · exact hb q1
            · rw [hsl] at q1; cases q1) _ _ _ q)).elim
        | some d =>
          obtain ⟨q0, hq0⟩ := setL_ot hsl
          exact Or.inr ⟨hw, d, q0, rfl, hq0, rcF_mono (by
            rintro t p (⟨q1, _⟩ | ⟨_, q1, q2⟩)
            · exact (hb q1).elim
            · rw [hsl] at q1
              rw [hq0] at q2
              cases q1
              cases q2
              exact ⟨rfl, rfl⟩) _ _ _ q⟩
      · have : ∀ n t p, ¬ rcF L (M 2 0) (upL L M) (fun _ _ => False) n t p := by
          intro n
          induction n with
          | zero => intro t p q; exact q
          | succ n ih =>
            intro t p q
            unfold rcF at q
            rcases q with q | ⟨_, (⟨_, q⟩ | ⟨w, q', d, _, _, _, _, _, q⟩)⟩
            · exact ih _ _ q
            · exact ih _ _ q
            · exact ih _ _ q
        exact (this _ _ _ (rcF_mono (by
          rintro t p (⟨q1, _⟩ | ⟨q1, _⟩)
          · exact hb q1
          · exact hw q1) _ _ _ q)).elim
  · rintro (⟨q1, q2⟩ | ⟨q1, d, q0, q2, q3, q4⟩)
    · exact rcF_mono (fun t p z => Or.inl ⟨q1, z⟩) _ _ _ q2
    · exact rcF_mono (fun t p z => Or.inr ⟨q1, by rw [q2, z.1], by rw [q3, z.2]⟩) _ _ _ q4
theorem RCa_sub (wf : WfH L) (wm : WfM L M 30000) {a w d q t : Nat} (ha : a < L 7 6) (hw : w < L 7 5) (hl : M 1 a = 0) (hs : setL L M a w = some d) (hq : otL L w (M 0 a) = some q) (h : RCa L M q d t 0) : RCa L M (M 0 a) 0 t 0 := by
  have hd := setL_lt wf hw hs
  have hp := (wm.2.2.2.2 a ha).1
  rw [setL_0 hl, hq, if_neg (by intro z; cases z)] at hs
  have := rcF_sub (L := L) (hour := M 2 0) (A := upL L M) (I := fun t p => t = d ∧ p = q) (J := fun t p => t = 0 ∧ p = M 0 a) (k := 1) (by
    rintro t p ⟨z1, z2⟩
    subst z1
    subst z2
    exact Or.inr ⟨by omega, Or.inr ⟨w, M 0 a, t, hw, hp, hq, hs, (Nat.zero_add t).symm, rfl, rfl⟩⟩) (by rintro t p ⟨z, _⟩; omega) 100 t 0 h
  exact this
theorem fir_top (wf : WfH L) (wm : WfM L M 30000) {a : Nat} (ha : a < L 7 6) (hl : M 1 a = 0) : ffL (fun t => firB L M a (t * 8) != 0) 100 0 = topF L M a := by
  obtain ⟨p1, p2⟩ := wm.2.2.2.2 a ha
  unfold topF
  refine ffL_cg 100 0 (fun j _ hj => bo_eq (P := RCa L M (M 0 a) 0 j 0) ?_ ?_)
  · rw [ne0_bit]
    constructor
    · rintro ⟨b, hb⟩
      rcases (firB_bit wf wm ha (show j < 100 by omega)).1 hb with ⟨_, q⟩ | ⟨q1, d, q, q2, q3, q4⟩
      · exact q
      · exact RCa_sub wf wm ha q1 hl q2 q3 q4
    · intro q
      exact ⟨10, (firB_bit wf wm ha (show j < 100 by omega)).2 (Or.inl ⟨rfl, q⟩)⟩
  · have := tpB_bit wf p1 (show M 1 a ≤ 99 by omega) (show j < 100 by omega)
    rw [hl] at this
    exact this
theorem ffL_skip {P : Nat → Bool} {m : Nat} (hm : P m = true) : ∀ (d i : Nat), i ≤ m → m < i + d → (∀ j, i ≤ j → j < m → P j = false) → ffL P d i = some m := by
  intro d
  induction d with
  | zero => intro i h1 h2 _; omega
  | succ d ih =>
    intro i h1 h2 h
    unfold ffL
    by_cases him : i = m
    · subst him; rw [if_pos hm]
    · rw [if_neg (by rw [h i (Nat.le_refl _) (by omega)]; simp)]
      exact ih (i + 1) (by omega) (by omega) (fun j h3 h4 => h j (by omega) h4)
theorem ffL_app {P : Nat → Bool} {e : Nat} : ∀ (d i : Nat), ffL P (d + e) i = (match ffL P d i with
  | some v => some v
  | none => ffL P e (i + d)) := by
  intro d
  induction d with
  | zero => intro i; rw [Nat.zero_add]; rfl
  | succ d ih =>
    intro i
    rw [show d + 1 + e = (d + e) + 1 by omega]
    have e1 : ffL P (d + e + 1) i = if P i = true then some i else ffL P (d + e) (i + 1) := rfl
    have e2 : ffL P (d + 1) i = if P i = true then some i else ffL P d (i + 1) := rfl
    rw [e1, e2]
    by_cases hP : P i = true
    · rw [if_pos hP, if_pos hP]
    · rw [if_neg hP, if_neg hP, ih (i + 1), show i + 1 + d = i + (d + 1) by omega]
theorem ffL_none {P : Nat → Bool} : ∀ (d i : Nat), ffL P d i = none → ∀ j, i ≤ j → j < i + d → P j = false := by
  intro d
  induction d with
  | zero => intro i _ j h1 h2; omega
  | succ d ih =>
    intro i h j h1 h2
    unfold ffL at h
    split at h
    · cases h
    · rename_i hP
      by_cases hj : j = i
      · subst hj; simpa using hP
      · exact ih (i + 1) h j (by omega) (by omega)
theorem ffL_min {P : Nat → Bool} : ∀ (d i v : Nat), ffL P d i = some v → ∀ j, i ≤ j → j < v → P j = false := by
  intro d
  induction d with
  | zero => intro i v h; cases h
  | succ d ih =>
    intro i v h j h1 h2
    unfold ffL at h
    split at h
    · cases h; omega
    · rename_i hP
      by_cases hj : j = i
      · subst hj; simpa using hP
      · exact ih (i + 1) v h j (by omega) h2
def frW (L M : LT) (a t : Nat) : Nat → Nat → Nat
  | 0, _ => 10
  | d + 1, w => if (firB L M a (t * 8)).testBit w = true then w else frW L M a t d (w + 1)
theorem frW_ff (L M : LT) (a t : Nat) : ∀ d w, frW L M a t d w = (ffL (fun i => (firB L M a (t * 8)).testBit i) d w).getD 10 := by
  intro d
  induction d with
  | zero => intro w; rfl
  | succ d ih =>
    intro w
    unfold frW ffL
    split
    · rfl
    · exact ih _
theorem low_fr (wf : WfH L) (wm : WfM L M 30000) {a t : Nat} (ha : a < L 7 6) (ht : t < 100) (hr : RCa L M (M 0 a) 0 t 0) : lowF (firB L M a (t * 8)) = some (frW L M a t (L 7 5) 0) := by
  have w10 := wf.2.2.2.2.2.2.2.2.2.1
  have hb : ∀ b, ((firB L M a (t * 8)).testBit b = true) ↔ _ := fun b => firB_bit wf wm ha ht
  have e1 : lowF (firB L M a (t * 8)) = ffL (fun i => (firB L M a (t * 8)).testBit i) 32 0 := by
    unfold lowF
    refine ffL_cg 32 0 (fun j _ _ => ?_)
    rw [Nat.testBit_eq_decide_div_mod_eq]
    rfl
  rw [e1, frW_ff, show (32 : Nat) = L 7 5 + (32 - L 7 5) by omega, ffL_app]
  cases hf : ffL (fun i => (firB L M a (t * 8)).testBit i) (L 7 5) 0 with
  | some v => rfl
  | none =>
    show ffL _ (32 - L 7 5) (0 + L 7 5) = some 10
    refine ffL_skip ((hb 10).2 (Or.inl ⟨rfl, hr⟩)) _ _ (by omega) (by omega) (fun j h1 h2 => ?_)
    cases hc : (firB L M a (t * 8)).testBit j with
    | false => rfl
    | true =>
      rcases (hb j).1 hc with ⟨z, _⟩ | ⟨z, _⟩
      · omega
      · omega
theorem first_lp (wf : WfH L) (wm : WfM L M 30000) {a t : Nat} (ha : a < L 7 6) (hl : M 1 a = 0) (ht : t < 100) (htop : topF L M a = some t) : ∀ (d w : Nat), w + d = L 7 5 → ∀ (h : MH) (V : LT) (d4 : Option Value), MdA h V → RH V L → StV (V 76) 0 L M → (∀ j, j < 100 → V 86 j = spotL L M (L 7 1) (L 7 2) j) → ∃ h' V', m_ev 150 37 [some (.ref 72), some (.int (nI a)), some (.int (nI t)), some (.int (nI w)), d4] [] h = some (some (.int (nI (frW L M a t d w))), h') ∧ MdA h' V' ∧ Sk V V' ∧ Fr 72 89 h h' := by
  have w9 := wf.2.2.2.2.2.2.2.2.1
  have w10 := wf.2.2.2.2.2.2.2.2.2.1
  have w12 := wf.2.2.2.2.2.2.2.2.2.2.2.1
  obtain ⟨p1, p2⟩ := wm.2.2.2.2 a ha
  have m1 := wm.1
  have n1 : ¬ nI 1 = nI 0 := by decide
  intro d
  induction d with
  | zero =>
    intro w hw h V d4 e rh st u
    obtain rfl : w = L 7 5 := by omega
    refine ⟨h, V, ?_, e, Sk.rf _, Fr.rf _ _ _⟩
    have r6 := rh.2.2.2.2.2.1
    rw [b150_37]
    simp (disch := omega) only [mdF e, Option.bind_some, r6, nI_leI, Nat.le_refl, if_true, b150_81, frW]
  | succ d ih =>
    intro w hw h V d4 e rh st u
    have hnw : ¬ L 7 5 ≤ w := by omega
    have hww : w < L 7 5 := by omega
    obtain ⟨s0, s1, s2, s3, s4, s8⟩ := stF st
    have r6 := rh.2.2.2.2.2.1
    have sa := s4 a ha
    have hu0 : V 86 0 < L 7 0 := by rw [u 0 (by omega)]; exact spotL_lt wf M _ _ _
    have hbit := firB_bit wf wm ha ht (b := w)
    have no : (firB L M a (t * 8)).testBit w = false → ∀ (x4 : Int32), ∃ h' V', m_ev 150 79 [some (.ref 72), some (.int (nI a)), some (.int (nI t)), some (.int (nI w)), some (.int x4)] [] h = some (some (.int (nI (frW L M a t (d + 1) w))), h') ∧ MdA h' V' ∧ Sk V V' ∧ Fr 72 89 h h' := by
      intro hf x4
      obtain ⟨h1, V1, q1, e1, k1, f1⟩ := ih (w + 1) (by omega) h V (some (.int x4)) e rh st u
      refine ⟨h1, V1, ?_, e1, k1, f1⟩
      rw [b150_79, nI_add, q1, frW, if_neg (by rw [hf]; simp)]
    rw [b150_37]
    simp (disch := omega) only [mdF e, Option.bind_some, r6, nI_leI, hnw, if_false, b150_41, nI_add, sa, if_true, d_leadsFrom e rh wf hww, b150_50]
    cases hot : otL L w (M 0 a) with
    | none =>
      simp only [Option.isSome, b01_f, if_true, b150_56, show ((-4 : Int32) ≤ nI 0) from by decide]
      refine no ?_ _
      cases hc : (firB L M a (t * 8)).testBit w with
      | false => rfl
      | true =>
        rcases hbit.1 hc with ⟨z, _⟩ | ⟨_, dd, q, _, z, _⟩
        · omega
        · rw [hot] at z; cases z
    | some q =>
      have hq := otL_lt wf hww hot
      have hse : setL L M a w = hoL L w (M 2 0) (upL L M 0) := by rw [setL_0 hl, hot, if_neg (by intro z; cases z)]
      have hup : L 0 (V 86 0) = upL L M 0 := upL_sp (u 0 (by omega))
      simp (disch := omega) only [Option.isSome, b01_t, n1, if_false, b150_51, mdF e, if_true, d_hoursOf e rh wf hww (show 0 < 577 by omega) (show V 76 0 + 0 < 2 ^ 31 by omega) hu0, s0, Nat.add_zero, hup, ← hse, b150_55, nO_le0 (fun dd hdd => setL_lt wf hww hdd)]
      cases hs : setL L M a w with
      | none =>
        rw [if_pos rfl]
        refine no ?_ _
        cases hc : (firB L M a (t * 8)).testBit w with
        | false => rfl
        | true =>
          rcases hbit.1 hc with ⟨z, _⟩ | ⟨_, dd, q, z, _⟩
          · omega
          · rw [hs] at z; cases z
      | some dd =>
        have hdd := setL_lt wf hww hs
        rw [if_neg (by intro z; cases z), b150_60]
        obtain ⟨h3, V3, c, q3, e3, k3, v3, b3, c3, f3⟩ := d_findCan (y := 150) (k := 72) (ls := [some (.ref 72), some (.int (nI a)), some (.int (nI t)), some (.int (nI w)), some (.int (nO (some dd)))]) (r := []) e rh wf (by omega) (fun j hj => by rw [u j hj]; exact spotL_lt wf M _ _ _) (p0 := q) (left := dd) (by omega) (by omega)
        have hbc : BC (V3 87) := by rw [v3]; exact cnK_bc wf b3 99 (Nat.le_refl _)
        have hbits : ∀ t, t < 100 → ((((V3 87) t).testBit 0 = true) ↔ RCa L M q dd t 0) := by
          intro t ht
          rw [v3, s0]
          exact can_rc wf (fun j hj => upL_sp (u j hj)) c3 ht
        have q3' : m_call m_ev 143 150 72 [.ref 72, .int (nI q), .int (nO (some dd))] [some (.ref 72), some (.int (nI a)), some (.int (nI t)), some (.int (nI w)), some (.int (nO (some dd)))] [] h = m_ev 150 72 [some (.ref 72), some (.int (nI a)), some (.int (nI t)), some (.int (nI w)), some (.int (nO (some dd)))] [] h3 := q3
        simp (disch := omega) only [mdF e, Option.bind_some, nI_add, sa, if_true, d_otherEnd e rh wf hww hot, b150_70, q3', b150_72, mdF e3, d_topBy0 e3 hbc, b150_75]
        -- is it TOP?
        have hmin : ∀ j, j < t → ¬ RCa L M (M 0 a) 0 j 0 := by
          intro j hj z
          have zz := (tpB_bit wf p1 (show M 1 a ≤ 99 by omega) (show j < 100 by omega)).2 (by rw [hl]; exact z)
          have := ffL_min 100 0 t htop j (by omega) hj
          rw [this] at zz
          cases zz
        have hlow : ∀ j, j < t → ((V3 87) j).testBit 0 = false := by
          intro j hj
          cases hc : ((V3 87) j).testBit 0 with
          | false => rfl
          | true => exact (hmin j hj (RCa_sub wf wm ha hww hl hs hot ((hbits j (by omega)).1 hc))).elim
        cases hc : (firB L M a (t * 8)).testBit w with
        | true =>
          have hr : RCa L M q dd t 0 := by
            rcases hbit.1 hc with ⟨z, _⟩ | ⟨_, d', q', z1, z2, z3⟩
            · omega
            · rw [hs] at z1
              rw [hot] at z2
              cases z1
              cases z2
              exact z3
          have hff : ffL (fun t => (V3 87 t).testBit 0) 100 0 = some t := ffL_skip (P := fun t => (V3 87 t).testBit 0) (m := t) ((hbits t ht).2 hr) 100 0 (by omega) (by omega) (fun j _ hj => hlow j hj)
          refine ⟨h3, V3, ?_, e3, k3.sk (by omega), f3⟩
          rw [hff]
          rw [if_pos (show nO (some t) = nI t from rfl), b150_77, frW, if_pos hc]
        | false =>
          have hr : ¬ RCa L M q dd t 0 := by
            intro z
            rw [hbit.2 (Or.inr ⟨hww, dd, q, hs, hot, z⟩)] at hc
            cases hc
          have hne : ¬ nO (ffL (fun t => (V3 87 t).testBit 0) 100 0) = nI t := by
            intro z
            cases hf : ffL (fun t => (V3 87 t).testBit 0) 100 0 with
            | none => rw [hf] at z; exact nI_neg4' (show t < 2 ^ 31 by omega) z
            | some u2 =>
              rw [hf] at z
              obtain ⟨_, hu2, hP⟩ := ffL_lt _ _ _ hf
              have z' : nI u2 = nI t := z
              rw [nI_eq (by omega) (by omega)] at z'
              subst z'
              exact hr ((hbits u2 ht).1 hP)
          rw [if_neg hne]
          obtain ⟨h4, V4, q4, e4, k4, f4⟩ := ih (w + 1) (by omega) h3 V3 (some (.int (nO (some dd)))) e3 (rh.sx k3 (by omega)) (by rw [k3 76 (by omega)]; exact st) (by rw [k3 86 (by omega)]; exact u)
          refine ⟨h4, V4, ?_, e4, (k3.sk (by omega)).tr k4, f3.tr f4⟩
          rw [b150_79, nI_add, q4, frW, if_neg (by rw [hc]; simp)]
theorem e_first_bad (e : MdA h V) (rh : RH V L) (wf : WfH L) {x : Int32} (hx : x < nI 0 ∨ nI (L 7 6) ≤ x) : AM 150 [.ref 72, .int x] h (-1) h := by
  refine ⟨?_, Fr.rf _ _ _⟩
  have r8 := rh.2.2.2.2.2.2.1
  have w12 := wf.2.2.2.2.2.2.2.2.2.2.2.1
  show m_ev 150 0 [some (.ref 72), some (.int x), none, none, none] [] h = _
  simp only [b150_0, mdF e, if_true, d_isAsker0 e (by omega) (by rw [r8]; exact hx), b150_3, b150_4]
theorem e_first (e : MdA h V) (rh : RH V L) (st : StV (V 76) 0 L M) (wf : WfH L) (wm : WfM L M 30000) {a : Nat} (ha : a < L 7 6) : ∃ h' V', AM 150 [.ref 72, .int (nI a)] h (nO (firF L M a)) h' ∧ MdA h' V' ∧ Sk V V' := by
  obtain ⟨s0, s1, s2, s3, s4, s8⟩ := stF st
  have r8 := rh.2.2.2.2.2.2.1
  have w9 := wf.2.2.2.2.2.2.2.2.1
  have w12 := wf.2.2.2.2.2.2.2.2.2.2.2.1
  obtain ⟨p1, p2⟩ := wm.2.2.2.2 a ha
  have n1 : ¬ nI 1 = nI 0 := by decide
  obtain ⟨h3, V3, q3, e3, k3, u3, b3, c3, f3⟩ := d_findOf (M := M) (y := 150) (k := 13) (ls := [some (.ref 72), some (.int (nI a)), none, none, none]) (r := []) e rh wf s0 s1 ha (s4 a ha) (s8 a ha) wm
  have k76 := k3 76 (by omega)
  have g8 : V3 76 (8 + a) = M 1 a := by rw [k76]; exact s8 a ha
  have g4 : V3 76 (4 + a) = M 0 a := by rw [k76]; exact s4 a ha
  have pre : m_ev 150 0 [some (.ref 72), some (.int (nI a)), none, none, none] [] h = (if nI 0 < nI (M 1 a) then m_ev 150 33 [some (.ref 72), some (.int (nI a)), some (.int (nO (topF L M a))), none, none] [] h3 else m_ev 150 24 [some (.ref 72), some (.int (nI a)), some (.int (nO (topF L M a))), none, none] [] h3) := by
    simp (disch := omega) only [b150_0, mdF e, if_true, d_isAsker e (show V 0 8 < 2 ^ 31 by omega) (show a < V 0 8 by omega), b150_3, n1, if_false, b150_6, Option.bind_some, s2, q3, b150_13, mdF e3, d_topBy0 e3 b3, top_rc wf wm ha c3, b150_16, nI_add, g8]
  unfold firF
  by_cases hc : 0 < M 1 a ∨ M 0 a = 0
  · refine ⟨h3, V3, ⟨?_, f3⟩, e3, k3⟩
    show m_ev 150 0 [some (.ref 72), some (.int (nI a)), none, none, none] [] h = _
    rw [pre, if_pos hc]
    simp (disch := omega) only [nI_ltI, b150_24, mdF e3, Option.bind_some, nI_add, g4, nI_eq, b150_33, nO]
    (repeat' split) <;> first | rfl | (exfalso; omega)
  · have hl : M 1 a = 0 := by omega
    have h0 : ¬ M 0 a = 0 := fun z => hc (Or.inr z)
    rw [if_neg hc, fir_top wf wm ha hl]
    cases htop : topF L M a with
    | none =>
      refine ⟨h3, V3, ⟨?_, f3⟩, e3, k3⟩
      show m_ev 150 0 [some (.ref 72), some (.int (nI a)), none, none, none] [] h = _
      rw [pre, hl, htop]
      simp (disch := omega) only [nI_ltI, Nat.lt_irrefl, if_false, b150_24, mdF e3, Option.bind_some, nI_add, g4, nI_eq, h0, b150_31, nO, show ¬ nI 0 ≤ (-4 : Int32) from by decide, b150_33]
    | some t =>
      obtain ⟨_, htl, htP⟩ := ffL_lt _ _ _ htop
      have hr := (tpB_bit wf p1 (show M 1 a ≤ 99 by omega) (show t < 100 by omega)).1 htP
      rw [hl] at hr
      obtain ⟨h4, V4, q4, e4, k4, f4⟩ := first_lp wf wm ha hl (show t < 100 by omega) htop (L 7 5) 0 (by omega) h3 V3 none e3 (rh.sk k3) (by rw [k76]; exact st) u3
      refine ⟨h4, V4, ⟨?_, f3.tr f4⟩, e4, k3.tr k4⟩
      show m_ev 150 0 [some (.ref 72), some (.int (nI a)), none, none, none] [] h = _
      rw [pre, hl, htop]
      simp (disch := omega) only [nI_ltI, Nat.lt_irrefl, if_false, b150_24, mdF e3, Option.bind_some, nI_add, g4, nI_eq, h0, b150_31, nO, nI_leI, Nat.zero_le, if_true, b150_35, q4, low_fr wf wm ha (show t < 100 by omega) hr]
end
