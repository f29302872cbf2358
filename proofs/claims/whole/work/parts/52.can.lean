/-! the model's findCan, and who can be where -/
def mkC (c : Nat → Nat) (j q : Nat) : Nat → Nat := fun i => if i = j then c i ||| 2 ^ q else c i
def cnP (L : LT) (w k : Nat) (hd : Option Nat) (c : Nat → Nat) : Nat → (Nat → Nat)
  | 0 => c
  | p + 1 => match hd with
    | none => cnP L w k hd c p
    | some d => if k + d ≤ 99 ∧ (cnP L w k hd c p k).testBit p = true then (match otL L w p with
      | none => cnP L w k hd c p
      | some q => mkC (cnP L w k hd c p) (k + d) q) else cnP L w k hd c p
def cnW (L : LT) (hour : Nat) (A : Nat → Nat) (k : Nat) (c : Nat → Nat) : Nat → (Nat → Nat)
  | 0 => c
  | w + 1 => cnP L w k (hoL L w (hour + k) (A k)) (cnW L hour A k c w) (L 7 4)
def cnS (c : Nat → Nat) (k : Nat) : Nat → Nat := fun i => if i = k + 1 then c i ||| c k else c i
def cnK (L : LT) (hour : Nat) (A : Nat → Nat) (c : Nat → Nat) : Nat → (Nat → Nat)
  | 0 => c
  | k + 1 => cnW L hour A k (cnS (cnK L hour A c k) k) (L 7 5)
def BC (c : Nat → Nat) : Prop := ∀ i, i < 100 → c i < 256
theorem mkC_bc {c : Nat → Nat} {j q : Nat} (h : BC c) (hq : q < 8) : BC (mkC c j q) := by
  intro i hi
  unfold mkC
  split
  · exact Nat.or_lt_two_pow (n := 8) (h i hi) (Nat.pow_lt_pow_right (by omega) hq)
  · exact h i hi
theorem cnP_bc {L : LT} (wf : WfH L) {w k : Nat} (hw : w < L 7 5) {hd : Option Nat} {c : Nat → Nat} (h : BC c) : ∀ p, BC (cnP L w k hd c p) := by
  have w9 := wf.2.2.2.2.2.2.2.2.1
  intro p
  induction p with
  | zero => exact h
  | succ p ih =>
    unfold cnP
    split
    · exact ih
    · split
      · split
        · exact ih
        · rename_i q hq
          have := otL_lt wf hw hq
          exact mkC_bc ih (by omega)
      · exact ih
theorem cnW_bc {L : LT} (wf : WfH L) {hour k : Nat} {A c : Nat → Nat} (h : BC c) : ∀ w, w ≤ L 7 5 → BC (cnW L hour A k c w) := by
  intro w
  induction w with
  | zero => intro _; exact h
  | succ w ih => intro hw; exact cnP_bc wf (by omega) (ih (by omega)) _
theorem cnS_bc {c : Nat → Nat} {k : Nat} (h : BC c) (hk : k < 100) : BC (cnS c k) := by
  intro i hi
  unfold cnS
  split
  · exact Nat.or_lt_two_pow (n := 8) (h i hi) (h k hk)
  · exact h i hi
theorem cnK_bc {L : LT} (wf : WfH L) {hour : Nat} {A c : Nat → Nat} (h : BC c) : ∀ k, k ≤ 99 → BC (cnK L hour A c k) := by
  intro k
  induction k with
  | zero => intro _; exact h
  | succ k ih => intro hk; exact cnW_bc wf (cnS_bc (ih (by omega)) (by omega)) _ (Nat.le_refl _)
section
variable {y k : Nat} {ls : ML} {r : List Value} {h : MH} {V L M : LT}
theorem nO_le0 {hd : Option Nat} (h1 : ∀ d, hd = some d → 1 ≤ d ∧ d ≤ 24) : (nO hd ≤ nI 0) = (hd = none) := by
  cases hd with
  | none => simp only [nO]; exact eq_true (by decide)
  | some d =>
    have := h1 d rfl
    simp only [nO]
    rw [nI_leI (by omega) (by omega)]
    apply propext
    constructor
    · intro q; omega
    · intro q; cases q
theorem uL_mkC (V : LT) (j q : Nat) : (uL V 87 j (V 87 j ||| 2 ^ q)) 87 = mkC (V 87) j q := by
  funext i
  unfold uL mkC
  by_cases hi : i = j
  · subst hi; simp
  · simp [hi]
theorem cnP_loop {x1 x2 : Int32} (wf : WfH L) {w j : Nat} (hw : w < L 7 5) (hj : j < 99) {hd : Option Nat} (h1 : ∀ d, hd = some d → 1 ≤ d ∧ d ≤ 24) {c : Nat → Nat} (hc : BC c) : ∀ (d p : Nat), p + d = L 7 4 → ∀ (h : MH) (V : LT), MdA h V → RH V L → V 87 = cnP L w j hd c p → ∃ h' V', m_ev 143 53 [some (.ref 72), some (.int x1), some (.int x2), some (.int (nI j)), some (.int (nI w)), some (.int (nO hd)), some (.int (nI p))] [] h = m_ev 143 42 [some (.ref 72), some (.int x1), some (.int x2), some (.int (nI j)), some (.int (nI (w + 1))), some (.int (nO hd)), some (.int (nI (L 7 4)))] [] h' ∧ MdA h' V' ∧ Sx 87 V V' ∧ V' 87 = cnP L w j hd c (L 7 4) ∧ Fr 72 89 h h' := by
  have w9 := wf.2.2.2.2.2.2.2.2.1
  have n1 : ¬ nI 1 = nI 0 := by decide
  intro d
  induction d with
  | zero =>
    intro p hp h V e rh v
    obtain rfl : p = L 7 4 := by omega
    refine ⟨h, V, ?_, e, Sx.rf _ _, v, Fr.rf _ _ _⟩
    have r5 := rh.2.2.2.2.1
    rw [b143_53]
    simp (disch := omega) only [mdF e, Option.bind_some, r5, nI_leI, Nat.le_refl, if_true, b143_93, nI_add]
  | succ d ih =>
    intro p hp h V e rh v
    have hnp : ¬ L 7 4 ≤ p := by omega
    have r5 := rh.2.2.2.2.1
    have skip : V 87 = cnP L w j hd c (p + 1) → ∃ h' V', m_ev 143 91 [some (.ref 72), some (.int x1), some (.int x2), some (.int (nI j)), some (.int (nI w)), some (.int (nO hd)), some (.int (nI p))] [] h = m_ev 143 42 [some (.ref 72), some (.int x1), some (.int x2), some (.int (nI j)), some (.int (nI (w + 1))), some (.int (nO hd)), some (.int (nI (L 7 4)))] [] h' ∧ MdA h' V' ∧ Sx 87 V V' ∧ V' 87 = cnP L w j hd c (L 7 4) ∧ Fr 72 89 h h' := by
      intro v'
      rw [b143_91, nI_add]
      exact ih (p + 1) (by omega) h V e rh v'
    rw [b143_53]
    simp (disch := omega) only [mdF e, Option.bind_some, r5, nI_leI, hnp, if_false, b143_57, nO_le0 h1]
    cases hd with
    | none =>
      rw [if_pos rfl]
      exact skip (by rw [v, cnP])
    | some dd =>
      have hdd := h1 dd rfl
      rw [if_neg (by intro q; cases q), b143_59]
      simp only [nO] at skip ih ⊢
      simp (disch := omega) only [nI_add, nI_ltI]
      by_cases h99 : 99 < j + dd
      · rw [if_pos h99]
        exact skip (by rw [v, cnP, if_neg (by omega)])
      · rw [if_neg h99, b143_64]
        have hb := cnP_bc wf hw (k := j) (hd := some dd) hc p
        have hbj : V 87 j < 256 := by rw [v]; exact hb j (by omega)
        simp (disch := omega) only [mdF e, Option.bind_some, d_has, b143_70]
        cases hbit : (V 87 j).testBit p with
        | false =>
          simp only [b01_f, if_true]
          exact skip (by rw [v, cnP, if_neg]; rw [← v, hbit]; simp)
        | true =>
          have hcond : j + dd ≤ 99 ∧ (cnP L w j (some dd) c p j).testBit p = true := ⟨by omega, by rw [← v]; exact hbit⟩
          simp (disch := omega) only [b01_t, n1, if_false, b143_71, mdF e, if_true, d_leadsFrom e rh wf hw, b143_75]
          cases hot : otL L w p with
          | none =>
            simp only [Option.isSome, b01_f, if_true]
            exact skip (by rw [v, cnP, if_pos hcond, hot])
          | some q =>
            have hq := otL_lt wf hw hot
            have h2q : 2 ^ q < 2 ^ 8 := Nat.pow_lt_pow_right (by omega) (by omega)
            have hb2 : V 87 (j + dd) < 256 := by rw [v]; exact hb _ (by omega)
            obtain ⟨h3, q3, e3, f3⟩ := mdW87 e (V 87 (j + dd) ||| 2 ^ q) (k := j + dd) (by omega)
            have v3 : (uL V 87 (j + dd) (V 87 (j + dd) ||| 2 ^ q)) 87 = cnP L w j (some dd) c (p + 1) := by
              rw [uL_mkC, v, cnP, if_pos hcond, hot]
            obtain ⟨h4, V4, q4, e4, s4, v4, f4⟩ := ih (p + 1) (by omega) h3 _ e3 (rh.sx (Sx.u 87 V _ _) (by omega)) v3
            refine ⟨h4, V4, ?_, e4, (Sx.u 87 V _ _).tr s4, v4, f3.tr f4⟩
            simp (disch := omega) only [Option.isSome, b01_t, n1, if_false, b143_76, mdF e, Option.bind_some, nI_add, if_true, d_otherEnd e rh wf hw hot, b143_88, one_shl, nx_orN, q3]
            exact q4
theorem cnW_loop {x1 x2 : Int32} (wf : WfH L) {j hour : Nat} {u : Nat → Nat} (hj : j < 99) (hh : hour ≤ 30000) (hu : u j < L 7 0) {c : Nat → Nat} (hc : BC c) : ∀ (d w : Nat), w + d = L 7 5 → ∀ (h : MH) (V : LT) (d5 d6 : Option Value), MdA h V → RH V L → V 76 0 = hour → V 86 = u → V 87 = cnW L hour (fun i => L 0 (u i)) j c w → ∃ h' V' d5' d6', m_ev 143 42 [some (.ref 72), some (.int x1), some (.int x2), some (.int (nI j)), some (.int (nI w)), d5, d6] [] h = m_ev 143 24 [some (.ref 72), some (.int x1), some (.int x2), some (.int (nI (j + 1))), some (.int (nI (L 7 5))), d5', d6'] [] h' ∧ MdA h' V' ∧ Sx 87 V V' ∧ V' 87 = cnW L hour (fun i => L 0 (u i)) j c (L 7 5) ∧ Fr 72 89 h h' := by
  have w10 := wf.2.2.2.2.2.2.2.2.2.1
  intro d
  induction d with
  | zero =>
    intro w hw h V d5 d6 e rh vh vu v
    obtain rfl : w = L 7 5 := by omega
    refine ⟨h, V, d5, d6, ?_, e, Sx.rf _ _, v, Fr.rf _ _ _⟩
    have r6 := rh.2.2.2.2.2.1
    rw [b143_42]
    simp (disch := omega) only [mdF e, Option.bind_some, r6, nI_leI, Nat.le_refl, if_true, b143_95, nI_add]
  | succ d ih =>
    intro w hw h V d5 d6 e rh vh vu v
    have hnw : ¬ L 7 5 ≤ w := by omega
    have hww : w < L 7 5 := by omega
    have r6 := rh.2.2.2.2.2.1
    have huj : V 86 j < L 7 0 := by rw [vu]; exact hu
    obtain ⟨h1, V1, q1, e1, s1, v1, f1⟩ := cnP_loop (x1 := x1) (x2 := x2) wf hww hj (hd := hoL L w (hour + j) (L 0 (u j))) (fun dd hdd => hoL_lt wf hww hdd) (c := cnW L hour (fun i => L 0 (u i)) j c w) (cnW_bc wf hc w (by omega)) (L 7 4) 0 (by omega) h V e rh v
    obtain ⟨h2, V2, d5', d6', q2, e2, s2, v2, f2⟩ := ih (w + 1) (by omega) h1 V1 (some (.int (nO (hoL L w (hour + j) (L 0 (u j)))))) (some (.int (nI (L 7 4)))) e1 (rh.sx s1 (by omega)) (by rw [s1 76 (by omega)]; exact vh) (by rw [s1 86 (by omega)]; exact vu) v1
    refine ⟨h2, V2, d5', d6', ?_, e2, s1.tr s2, v2, f1.tr f2⟩
    rw [b143_42]
    simp (disch := omega) only [mdF e, Option.bind_some, r6, nI_leI, hnw, if_false, b143_46, if_true, d_hoursOf e rh wf hww (show j < 577 by omega) (show V 76 0 + j < 2 ^ 31 by omega) huj, b143_50]
    rw [vh, vu, q1]
    exact q2
theorem uL_cnS (V : LT) (j : Nat) : (uL V 87 (j + 1) (V 87 (j + 1) ||| V 87 j)) 87 = cnS (V 87) j := by
  funext i
  unfold uL cnS
  by_cases hi : i = j + 1
  · subst hi; simp
  · simp [hi]
theorem cnK_loop {x1 x2 : Int32} (wf : WfH L) {hour : Nat} {u : Nat → Nat} (hh : hour ≤ 30000) (hu : ∀ j, j < 100 → u j < L 7 0) {c : Nat → Nat} (hc : BC c) : ∀ (d j : Nat), j + d = 99 → ∀ (h : MH) (V : LT) (d4 d5 d6 : Option Value), MdA h V → RH V L → V 76 0 = hour → V 86 = u → V 87 = cnK L hour (fun i => L 0 (u i)) c j → ∃ h' V', m_ev 143 24 [some (.ref 72), some (.int x1), some (.int x2), some (.int (nI j)), d4, d5, d6] [] h = some (none, h') ∧ MdA h' V' ∧ Sx 87 V V' ∧ V' 87 = cnK L hour (fun i => L 0 (u i)) c 99 ∧ Fr 72 89 h h' := by
  intro d
  induction d with
  | zero =>
    intro j hj h V d4 d5 d6 e rh vh vu v
    obtain rfl : j = 99 := by omega
    refine ⟨h, V, ?_, e, Sx.rf _ _, v, Fr.rf _ _ _⟩
    rw [b143_24]
    simp (disch := omega) only [nI_leI, Nat.le_refl, if_true, b143_97]
  | succ d ih =>
    intro j hj h V d4 d5 d6 e rh vh vu v
    have hnj : ¬ 99 ≤ j := by omega
    obtain ⟨h3, q3, e3, f3⟩ := mdW87 e (V 87 (j + 1) ||| V 87 j) (k := j + 1) (by omega)
    have s3 := Sx.u 87 V (j + 1) (V 87 (j + 1) ||| V 87 j)
    have v3 : (uL V 87 (j + 1) (V 87 (j + 1) ||| V 87 j)) 87 = cnS (cnK L hour (fun i => L 0 (u i)) c j) j := by rw [uL_cnS, v]
    obtain ⟨h1, V1, d5', d6', q1, e1, s1, v1, f1⟩ := cnW_loop (x1 := x1) (x2 := x2) wf (j := j) (hour := hour) (u := u) (by omega) hh (hu j (by omega)) (c := cnS (cnK L hour (fun i => L 0 (u i)) c j) j) (cnS_bc (cnK_bc wf hc j (by omega)) (by omega)) (L 7 5) 0 (by omega) h3 _ d5 d6 e3 (rh.sx s3 (by omega)) (by rw [s3 76 (by omega)]; exact vh) (by rw [s3 86 (by omega)]; exact vu) v3
    obtain ⟨h2, V2, q2, e2, s2, v2, f2⟩ := ih (j + 1) (by omega) h1 V1 (some (.int (nI (L 7 5)))) d5' d6' e1 (rh.sx (s3.tr s1) (by omega)) (by rw [(s3.tr s1) 76 (by omega)]; exact vh) (by rw [(s3.tr s1) 86 (by omega)]; exact vu) v1
    refine ⟨h2, V2, ?_, e2, (s3.tr s1).tr s2, v2, (f3.tr f1).tr f2⟩
    rw [b143_24]
    simp (disch := omega) only [nI_leI, hnj, if_false, b143_27, mdF e, Option.bind_some, nI_add, nx_orN, q3]
    rw [q1]
    exact q2
theorem can0_loop {x1 x2 : Int32} : ∀ (d j : Nat), j + d = 100 → ∀ (h : MH) (V : LT), MdA h V → (∀ i, i < j → V 87 i = 0) → ∃ h' V', m_ev 143 2 [some (.ref 72), some (.int x1), some (.int x2), some (.int (nI j)), none, none, none] [] h = m_ev 143 12 [some (.ref 72), some (.int x1), some (.int x2), some (.int (nI 100)), none, none, none] [] h' ∧ MdA h' V' ∧ Sx 87 V V' ∧ (∀ i, i < 100 → V' 87 i = 0) ∧ Fr 72 89 h h' := by
  intro d
  induction d with
  | zero =>
    intro j hj h V e v
    obtain rfl : j = 100 := by omega
    refine ⟨h, V, ?_, e, Sx.rf _ _, v, Fr.rf _ _ _⟩
    rw [b143_2, if_pos (by rw [nI_ltI (by omega) (by omega)]; omega)]
  | succ d ih =>
    intro j hj h V e v
    obtain ⟨h3, q3, e3, f3⟩ := mdW87 e 0 (k := j) (by omega)
    obtain ⟨h2, V2, q2, e2, s2, v2, f2⟩ := ih (j + 1) (by omega) h3 _ e3 (by
      intro i hi
      by_cases hij : i = j
      · subst hij; exact uL_s _ _ _ _
      · rw [uL_k _ _ _ hij]; exact v i (by omega))
    refine ⟨h2, V2, ?_, e2, (Sx.u 87 V _ _).tr s2, v2, f3.tr f2⟩
    rw [b143_2]
    simp (disch := omega) only [nI_ltI, if_neg (show ¬ 99 < j by omega), b143_5, mdF e, Option.bind_some, q3, nI_add]
    exact q2
/-- who can be where: after the hours before n have been gone through -/
def rcF (L : LT) (hour : Nat) (A : Nat → Nat) (I : Nat → Nat → Prop) : Nat → Nat → Nat → Prop
  | 0 => I
  | n + 1 => fun t p => rcF L hour A I n t p ∨ (t ≤ 99 ∧ ((t = n + 1 ∧ rcF L hour A I n n p) ∨ ∃ w q d, w < L 7 5 ∧ q < L 7 4 ∧ otL L w q = some p ∧ hoL L w (hour + n) (A n) = some d ∧ t = n + d ∧ rcF L hour A I n n q))
theorem d_findCan (e : MdA h V) (rh : RH V L) (wf : WfH L) (hh : V 76 0 ≤ 30000) (hu : ∀ j, j < 100 → V 86 j < L 7 0) {p0 left : Nat} (hp : p0 < 8) (hl : left ≤ 99) : ∃ h' V' c, m_call m_ev 143 y k [.ref 72, .int (nI p0), .int (nI left)] ls r h = m_ev y k ls r h' ∧ MdA h' V' ∧ Sx 87 V V' ∧ V' 87 = cnK L (V 76 0) (fun i => L 0 (V 86 i)) c 99 ∧ BC c ∧ (∀ i, i < 100 → c i = if i = left then 2 ^ p0 else 0) ∧ Fr 72 89 h h' := by
  obtain ⟨h1, V1, q1, e1, s1, v1, f1⟩ := can0_loop (x1 := nI p0) (x2 := nI left) 100 0 rfl h V e (fun i hi => by omega)
  obtain ⟨h3, q3, e3, f3⟩ := mdW87 e1 (2 ^ p0) (k := left) (by omega)
  have s3 := s1.tr (Sx.u 87 V1 left (2 ^ p0))
  have h2p : 2 ^ p0 < 2 ^ 8 := Nat.pow_lt_pow_right (by omega) hp
  have hv : ∀ i, i < 100 → (uL V1 87 left (2 ^ p0)) 87 i = if i = left then 2 ^ p0 else 0 := by
    intro i hi
    by_cases hil : i = left
    · subst hil; rw [if_pos rfl]; exact uL_s _ _ _ _
    · rw [if_neg hil, uL_k _ _ _ hil]; exact v1 i hi
  have hbc : BC ((uL V1 87 left (2 ^ p0)) 87) := by
    intro i hi
    rw [hv i hi]
    split <;> omega
  obtain ⟨h2, V2, q2, e2, s2, v2, f2⟩ := cnK_loop (x1 := nI p0) (x2 := nI left) wf (hour := V 76 0) (u := V 86) hh hu hbc 99 0 rfl h3 _ none none none e3 (rh.sx s3 (by omega)) (by rw [s3 76 (by omega)]) (s3 86 (by omega)) rfl
  refine ⟨h2, V2, _, cl_0 ?_, e2, s3.tr s2, v2, hbc, hv, (f1.tr f3).tr f2⟩
  show m_ev 143 0 [some (.ref 72), some (.int (nI p0)), some (.int (nI left)), none, none, none, none] [] h = _
  rw [b143_0, q1, b143_12]
  simp (disch := omega) only [nI_ltI, if_neg (show ¬ 99 < left by omega), b143_15, mdF e1, Option.bind_some, one_shl, q3]
  exact q2
-- bits
theorem mkC_bit (c : Nat → Nat) (j q i b : Nat) : ((mkC c j q i).testBit b = true) ↔ ((c i).testBit b = true ∨ (i = j ∧ q = b)) := by
  unfold mkC
  by_cases hi : i = j
  · rw [if_pos hi, Nat.testBit_or, Bool.or_eq_true, Nat.testBit_two_pow, decide_eq_true_eq]
    simp [hi]
  · rw [if_neg hi]; simp [hi]
theorem cnP_k {w j : Nat} {hd : Option Nat} (h1 : ∀ d, hd = some d → 1 ≤ d) (c : Nat → Nat) : ∀ p, cnP L w j hd c p j = c j := by
  intro p
  induction p with
  | zero => rfl
  | succ p ih =>
    unfold cnP
    split
    · exact ih
    · rename_i d
      have := h1 d rfl
      split
      · cases hot : otL L w p with
        | none => exact ih
        | some q =>
          show mkC (cnP L w j (some d) c p) (j + d) q j = c j
          unfold mkC; rw [if_neg (by omega)]; exact ih
      · exact ih
theorem cnP_bit {w j : Nat} {hd : Option Nat} (h1 : ∀ d, hd = some d → 1 ≤ d) (c : Nat → Nat) (i b : Nat) : ∀ p, ((cnP L w j hd c p i).testBit b = true) ↔ ((c i).testBit b = true ∨ ∃ q d, q < p ∧ hd = some d ∧ j + d ≤ 99 ∧ (c j).testBit q = true ∧ otL L w q = some b ∧ i = j + d) := by
  intro p
  induction p with
  | zero =>
    constructor
    · intro q; exact Or.inl q
    · intro q
      rcases q with q | ⟨_, _, q, _⟩
      · exact q
      · omega
  | succ p ih =>
    have hk := cnP_k (L := L) (w := w) (j := j) h1 c p
    have keep : (∀ d, hd = some d → j + d ≤ 99 → (c j).testBit p = true → otL L w p = some b → i = j + d → False) → ((cnP L w j hd c p i).testBit b = true ↔ ((c i).testBit b = true ∨ ∃ q d, q < p + 1 ∧ hd = some d ∧ j + d ≤ 99 ∧ (c j).testBit q = true ∧ otL L w q = some b ∧ i = j + d)) := by
      intro hno
      rw [ih]
      constructor
      · rintro (q | ⟨q, d, a1, a2⟩)
        · exact Or.inl q
        · exact Or.inr ⟨q, d, by omega, a2⟩
      · rintro (q | ⟨q, d, a1, a2, a3, a4, a5, a6⟩)
        · exact Or.inl q
        · by_cases hqp : q = p
          · subst hqp; exact (hno d a2 a3 a4 a5 a6).elim
          · exact Or.inr ⟨q, d, by omega, a2, a3, a4, a5, a6⟩
    unfold cnP
    split
    · exact keep (fun d a => by cases a)
    · rename_i d
      split
      · rename_i hcond
        rw [hk] at hcond
        cases hot : otL L w p with
        | none => exact keep (fun d' a1 a2 a3 a4 => by rw [hot] at a4; cases a4)
        | some q =>
          show ((mkC (cnP L w j (some d) c p) (j + d) q i).testBit b = true) ↔ _
          rw [mkC_bit, ih]
          constructor
          · rintro ((a | ⟨q', d', a1, a2⟩) | ⟨a1, a2⟩)
            · exact Or.inl a
            · exact Or.inr ⟨q', d', by omega, a2⟩
            · subst a2; exact Or.inr ⟨p, d, by omega, rfl, hcond.1, hcond.2, hot, a1⟩
          · rintro (a | ⟨q', d', a1, a2, a3, a4, a5, a6⟩)
            · exact Or.inl (Or.inl a)
            · by_cases hqp : q' = p
              · subst hqp
                cases a2
                rw [hot] at a5
                cases a5
                exact Or.inr ⟨a6, rfl⟩
              · exact Or.inl (Or.inr ⟨q', d', by omega, a2, a3, a4, a5, a6⟩)
      · rename_i hcond
        rw [hk] at hcond
        exact keep (fun d' a1 a2 a3 a4 a5 => by cases a1; exact hcond ⟨a2, a3⟩)
theorem cnW_k (wf : WfH L) {hour j : Nat} {A : Nat → Nat} (c : Nat → Nat) : ∀ w, w ≤ L 7 5 → cnW L hour A j c w j = c j := by
  intro w
  induction w with
  | zero => intro _; rfl
  | succ w ih =>
    intro hw
    unfold cnW
    rw [cnP_k (fun d hd => (hoL_lt wf (show w < L 7 5 by omega) hd).1)]
    exact ih (by omega)
theorem cnW_bit (wf : WfH L) {hour j : Nat} {A : Nat → Nat} (c : Nat → Nat) (i b : Nat) : ∀ w, w ≤ L 7 5 → (((cnW L hour A j c w i).testBit b = true) ↔ ((c i).testBit b = true ∨ ∃ w' q d, w' < w ∧ q < L 7 4 ∧ hoL L w' (hour + j) (A j) = some d ∧ j + d ≤ 99 ∧ (c j).testBit q = true ∧ otL L w' q = some b ∧ i = j + d)) := by
  intro w
  induction w with
  | zero =>
    intro _
    constructor
    · intro q; exact Or.inl q
    · rintro (q | ⟨_, _, _, q, _⟩)
      · exact q
      · omega
  | succ w ih =>
    intro hw
    unfold cnW
    rw [cnP_bit (fun d hd => (hoL_lt wf (show w < L 7 5 by omega) hd).1), ih (by omega), cnW_k wf c w (by omega)]
    constructor
    · rintro ((a | ⟨w', q, d, a1, a2⟩) | ⟨q, d, a1, a2⟩)
      · exact Or.inl a
      · exact Or.inr ⟨w', q, d, by omega, a2⟩
      · exact Or.inr ⟨w, q, d, by omega, a1, a2⟩
    · rintro (a | ⟨w', q, d, a1, a2⟩)
      · exact Or.inl (Or.inl a)
      · by_cases hww : w' = w
        · subst hww; exact Or.inr ⟨q, d, a2⟩
        · exact Or.inl (Or.inr ⟨w', q, d, by omega, a2⟩)
theorem cnK_bit (wf : WfH L) {hour : Nat} {A c : Nat → Nat} {I : Nat → Nat → Prop} (hI : ∀ i b, i < 100 → (((c i).testBit b = true) ↔ I i b)) : ∀ n, n ≤ 99 → ∀ i b, i < 100 → (((cnK L hour A c n i).testBit b = true) ↔ rcF L hour A I n i b) := by
  intro n
  induction n with
  | zero => intro _ i b hi; exact hI i b hi
  | succ n ih =>
    intro hn i b hi
    have ihn := ih (by omega)
    unfold cnK rcF
    rw [cnW_bit wf _ i b _ (Nat.le_refl _)]
    have hs : ∀ q, ((cnS (cnK L hour A c n) n n).testBit q = true) ↔ rcF L hour A I n n q := by
      intro q
      unfold cnS
      rw [if_neg (by omega)]
      exact ihn n q (by omega)
    have hsi : ((cnS (cnK L hour A c n) n i).testBit b = true) ↔ (rcF L hour A I n i b ∨ (i = n + 1 ∧ rcF L hour A I n n b)) := by
      unfold cnS
      by_cases hin : i = n + 1
      · rw [if_pos hin, Nat.testBit_or, Bool.or_eq_true, ihn i b hi, ihn n b (by omega)]
        simp [hin]
      · rw [if_neg hin, ihn i b hi]; simp [hin]
    rw [hsi]
    constructor
    · rintro ((a | ⟨a1, a2⟩) | ⟨w, q, d, a1, a2, a3, a4, a5, a6, a7⟩)
      · exact Or.inl a
      · exact Or.inr ⟨by omega, Or.inl ⟨a1, a2⟩⟩
      · exact Or.inr ⟨by omega, Or.inr ⟨w, q, d, a1, a2, a6, a3, a7, (hs q).1 a5⟩⟩
    · rintro (a | ⟨a0, (⟨a1, a2⟩ | ⟨w, q, d, a1, a2, a3, a4, a5, a6⟩)⟩)
      · exact Or.inl (Or.inl a)
      · exact Or.inl (Or.inr ⟨a1, a2⟩)
      · exact Or.inr ⟨w, q, d, a1, a2, a4, by omega, (hs q).2 a6, a3, a5⟩
end
