/-! the model: FROM, UPPERMOST, ROUND, ways, askers, words, counts -/
section
variable {y k : Nat} {ls : ML} {r : List Value} {h : MH} {V L M T S : LT}
theorem mk0_bit (t p b : Nat) (ht : t < 100) (hp : p < 8) : ∀ n, n ≤ 8 → (((mk0 n (t * 8 + p)).testBit b = true) ↔ (b < n ∧ t = 0 ∧ p = b)) := by
  intro n
  induction n with
  | zero =>
    intro _
    show ((0 : Nat).testBit b = true) ↔ _
    rw [Nat.zero_testBit]
    constructor
    · intro q; cases q
    · intro q; omega
  | succ n ih =>
    intro hn
    unfold mk0
    rw [mkB_bit, ih (by omega), Nat.testBit_two_pow, decide_eq_true_eq]
    omega
theorem froB_bit (wf : WfH L) {t b : Nat} (ht : t < 100) : ((froB L M (t * 8)).testBit b = true) ↔ (b < L 7 4 ∧ RCa L M b 0 t 0) := by
  have w9 := wf.2.2.2.2.2.2.2.2.1
  have hs := spT_bit (hour := M 2 0) (A := upL L M) (B := mk0 (L 7 4)) wf (I := fun b t p => b < L 7 4 ∧ t = 0 ∧ p = b) (fun t p b ht hp => mk0_bit t p b ht hp _ w9) (by rintro b t p ⟨q1, _, q2⟩; omega) 100 (Nat.le_refl _) t 0 b ht (by omega)
  unfold froB RCa
  rw [show t * 8 = t * 8 + 0 from rfl, hs]
  constructor
  · intro q
    by_cases hb : b < L 7 4
    · exact ⟨hb, rcF_mono (fun _ _ z => z.2) _ _ _ q⟩
    · have : ∀ n t p, ¬ rcF L (M 2 0) (upL L M) (fun _ _ => False) n t p := by
        intro n
        induction n with
        | zero => intro t p q; exact q
        | succ n ih =>
          intro t p q
          unfold rcF at q
          rcases q with q | ⟨_, (⟨_, q⟩ | ⟨w, q', d, _, _, _, _, _, q⟩)⟩
          · exact ih _ _ q
          · exact ih _ _ q
          · exact ih _ _ q
      exact (this _ _ _ (rcF_mono (fun _ _ z => hb z.1) _ _ _ q)).elim
  · rintro ⟨q1, q2⟩
    exact rcF_mono (fun _ _ z => ⟨q1, z⟩) _ _ _ q2
theorem from_lp (wf : WfH L) (wm : WfM L M 30000) {w t : Nat} (hw : w ≤ 3) (ht : t < 100) (hup : upL L M t = w) : ∀ (d p : Nat), p + d = L 7 4 → ∀ (h : MH) (V : LT) (s : Nat), MdA h V → RH V L → StV (V 76) 0 L M → (∀ j, j < 100 → V 86 j = spotL L M (L 7 1) (L 7 2) j) → s < 2 ^ 30 → (∀ b, (s.testBit b = true) ↔ (b < p ∧ RCa L M b 0 t 0)) → ∃ h' V', m_ev 154 25 [some (.ref 72), some (.int (nI w)), some (.int (nI t)), some (.int (nI s)), some (.int (nI p))] [] h = some (some (.int (nI (froB L M (t * 8)))), h') ∧ MdA h' V' ∧ Sk V V' ∧ Fr 72 89 h h' := by
  have w2 := wf.2.1
  have w3 := wf.2.2.1
  have w9 := wf.2.2.2.2.2.2.2.2.1
  have m1 := wm.1
  have n1 : ¬ nI 1 = nI 0 := by decide
  intro d
  induction d with
  | zero =>
    intro p hp h V s e rh st u hs hb
    obtain rfl : p = L 7 4 := by omega
    refine ⟨h, V, ?_, e, Sk.rf _, Fr.rf _ _ _⟩
    have r5 := rh.2.2.2.2.1
    have : s = froB L M (t * 8) := Nat.eq_of_testBit_eq (fun b => bo_eq (hb b) (froB_bit wf ht))
    rw [b154_25]
    simp (disch := omega) only [mdF e, Option.bind_some, r5, nI_leI, Nat.le_refl, if_true, b154_55, this]
  | succ d ih =>
    intro p hp h V s e rh st u hs hb
    have hnp : ¬ L 7 4 ≤ p := by omega
    obtain ⟨s0, s1, s2, s3, s4, s8⟩ := stF st
    have r5 := rh.2.2.2.2.1
    have r73 := rh.2.2.2.2.2.2.2.1
    have hut : V 86 t < L 7 0 := by rw [u t ht]; exact spotL_lt wf M _ _ _
    have h7 := r73 _ hut
    have hupt : L 0 (V 86 t) = w := by rw [upL_sp (u t ht)]; exact hup
    obtain ⟨h3, V3, c, q3, e3, k3, v3, b3, c3, f3⟩ := d_findCan (y := 154) (k := 38) (ls := [some (.ref 72), some (.int (nI w)), some (.int (nI t)), some (.int (nI s)), some (.int (nI p))]) (r := []) e rh wf (by omega) (fun j hj => by rw [u j hj]; exact spotL_lt wf M _ _ _) (p0 := p) (left := 0) (by omega) (by omega)
    have hbc : BC (V3 87) := by rw [v3]; exact cnK_bc wf b3 99 (Nat.le_refl _)
    have hbt := hbc t ht
    have hbit : (((V3 87) t).testBit 0 = true) ↔ RCa L M p 0 t 0 := by
      rw [v3, s0]
      exact can_rc wf (fun j hj => upL_sp (u j hj)) c3 ht
    have h2p : 2 ^ p < 2 ^ 8 := Nat.pow_lt_pow_right (by omega) (by omega)
    rw [b154_25]
    simp (disch := omega) only [mdF e, Option.bind_some, r5, nI_leI, hnp, if_false, b154_29, if_true, d_wordBy e (show t < 577 by omega) (show V 86 t < 12 by omega), h7, hupt, b154_32, b154_34, q3, b154_38, mdF e3, d_has, b154_45]
    cases hc : ((V3 87) t).testBit 0 with
    | true =>
      obtain ⟨h4, V4, q4, e4, k4, f4⟩ := ih (p + 1) (by omega) h3 V3 (s ||| 2 ^ p) e3 (rh.sx k3 (by omega)) (by rw [k3 76 (by omega)]; exact st) (by rw [k3 86 (by omega)]; exact u) (Nat.or_lt_two_pow hs (by omega)) (by
        intro b
        rw [Nat.testBit_or, Bool.or_eq_true, hb b, Nat.testBit_two_pow, decide_eq_true_eq]
        constructor
        · rintro (⟨z1, z2⟩ | z)
          · exact ⟨by omega, z2⟩
          · subst z; exact ⟨by omega, hbit.1 hc⟩
        · rintro ⟨z1, z2⟩
          by_cases hbp : b = p
          · exact Or.inr hbp.symm
          · exact Or.inl ⟨by omega, z2⟩)
      refine ⟨h4, V4, ?_, e4, (k3.sk (by omega)).tr k4, f3.tr f4⟩
      simp (disch := omega) only [b01_t, n1, if_false, b154_46, one_shl, nx_orN, nI_add]
      exact q4
    | false =>
      obtain ⟨h4, V4, q4, e4, k4, f4⟩ := ih (p + 1) (by omega) h3 V3 s e3 (rh.sx k3 (by omega)) (by rw [k3 76 (by omega)]; exact st) (by rw [k3 86 (by omega)]; exact u) hs (by
        intro b
        rw [hb b]
        constructor
        · rintro ⟨z1, z2⟩; exact ⟨by omega, z2⟩
        · rintro ⟨z1, z2⟩
          by_cases hbp : b = p
          · subst hbp; rw [hbit.2 z2] at hc; cases hc
          · exact ⟨by omega, z2⟩)
      refine ⟨h4, V4, ?_, e4, (k3.sk (by omega)).tr k4, f3.tr f4⟩
      simp (disch := omega) only [b01_f, if_true, b154_50, nx_orN, nI_add, Nat.or_zero]
      exact q4
theorem e_from_bad {x x' : Int32} (hx : x < nI 0 ∨ nI 4 ≤ x) : AM 154 [.ref 72, .int x, .int x'] h (-1) h := by
  refine ⟨?_, Fr.rf _ _ _⟩
  show m_ev 154 0 [some (.ref 72), some (.int x), some (.int x'), none, none] [] h = _
  simp only [b154_0, d_isWord0 hx, b154_2, if_true, b154_8]
theorem e_from_bad2 {w : Nat} (hw : w ≤ 3) {x' : Int32} (hx : x' < nI 0 ∨ nI 100 ≤ x') : AM 154 [.ref 72, .int (nI w), .int x'] h (-1) h := by
  refine ⟨?_, Fr.rf _ _ _⟩
  have n1 : ¬ nI 1 = nI 0 := by decide
  show m_ev 154 0 [some (.ref 72), some (.int (nI w)), some (.int x'), none, none] [] h = _
  simp only [b154_0, d_isWord hw, b154_2, n1, if_false, b154_3, d_in0 hx rfl (show 0 ≤ 100 by omega) (by omega), b154_7, if_true, b154_8]
theorem e_from (e : MdA h V) (rh : RH V L) (st : StV (V 76) 0 L M) (wf : WfH L) (wm : WfM L M 30000) {w t : Nat} (hw : w ≤ 3) (ht : t ≤ 99) : ∃ h' V', AM 154 [.ref 72, .int (nI w), .int (nI t)] h (if upL L M t = w then nI (froB L M (t * 8)) else nI 0) h' ∧ MdA h' V' ∧ Sk V V' := by
  obtain ⟨s0, s1, s2, s3, s4, s8⟩ := stF st
  have r2 := rh.2.1
  have r3 := rh.2.2.1
  have wf0 := wf
  obtain ⟨w1, w2, w3, w4, w5, w6, w7, w8, w9, w10, w11, w12, w13⟩ := wf0
  have wm0 := wm
  obtain ⟨m1, m2, m3, m4, m5⟩ := wm0
  have n1 : ¬ nI 1 = nI 0 := by decide
  obtain ⟨h3, V3, q3, e3, k3, u3, f3⟩ := d_findUps (M := M) (y := 154) (k := 21) (ls := [some (.ref 72), some (.int (nI w)), some (.int (nI t)), none, none]) (r := []) e rh wf (n := 99) (by omega) w4 w5 w6 m1 m3 m2 s0 s1
  have rh3 := rh.sx k3 (by omega)
  have u3' : ∀ j, j < 100 → V3 86 j = spotL L M (L 7 1) (L 7 2) j := fun j hj => u3 j (by omega)
  have pre : m_ev 154 0 [some (.ref 72), some (.int (nI w)), some (.int (nI t)), none, none] [] h = m_ev 154 25 [some (.ref 72), some (.int (nI w)), some (.int (nI t)), some (.int (nI 0)), some (.int (nI 0))] [] h3 := by
    simp (disch := omega) only [b154_0, d_isWord hw, b154_2, n1, if_false, b154_3, d_in1 (show 0 ≤ t by omega) ht (show 99 < 2 ^ 31 by omega), b154_7, b154_10, mdF e, Option.bind_some, s2, r2, r3, if_true, q3, b154_21]
  by_cases hup : upL L M t = w
  · obtain ⟨h4, V4, q4, e4, k4, f4⟩ := from_lp wf wm hw (show t < 100 by omega) hup (L 7 4) 0 (by omega) h3 V3 0 e3 rh3 (by rw [k3 76 (by omega)]; exact st) u3' (by omega) (by
      intro b
      rw [Nat.zero_testBit]
      constructor
      · intro z; cases z
      · intro z; omega)
    refine ⟨h4, V4, ⟨?_, f3.tr f4⟩, e4, (k3.sk (by omega)).tr k4⟩
    show m_ev 154 0 [some (.ref 72), some (.int (nI w)), some (.int (nI t)), none, none] [] h = _
    rw [pre, q4, if_pos hup]
  · refine ⟨h3, V3, ⟨?_, f3⟩, e3, k3.sk (by omega)⟩
    show m_ev 154 0 [some (.ref 72), some (.int (nI w)), some (.int (nI t)), none, none] [] h = _
    have r5 := rh3.2.2.2.2.1
    have r73 := rh3.2.2.2.2.2.2.2.1
    have hut : V3 86 t < L 7 0 := by rw [u3' t (by omega)]; exact spotL_lt wf M _ _ _
    have h7 := r73 _ hut
    have hul := upL_lt wf M t
    rw [pre, if_neg hup, b154_25]
    simp (disch := omega) only [mdF e3, Option.bind_some, r5, nI_leI, show ¬ L 7 4 ≤ 0 by omega, if_false, b154_29, if_true, d_wordBy e3 (show t < 577 by omega) (show V3 86 t < 12 by omega), h7, upL_sp (u3' t (by omega)), b154_32, nI_eq, hup, b154_55]
-- upper
theorem e_upper_bad {x : Int32} (hx : x < nI 0 ∨ nI 201 ≤ x) : AM 141 [.ref 72, .int x] h (-1) h := by
  refine ⟨?_, Fr.rf _ _ _⟩
  show m_ev 141 0 [some (.ref 72), some (.int x)] [] h = _
  simp only [b141_0, d_in0 hx rfl (show 0 ≤ 201 by omega) (by omega), b141_4, if_true, b141_5]
theorem e_upper (e : MdA h V) (rh : RH V L) (st : StV (V 76) 0 L M) (wf : WfH L) (wm : WfM L M 30000) {n : Nat} (hn : n ≤ 200) : ∃ h' V', AM 141 [.ref 72, .int (nI n)] h (nI (upL L M n)) h' ∧ MdA h' V' ∧ Sk V V' := by
  obtain ⟨s0, s1, s2, s3, s4, s8⟩ := stF st
  have r2 := rh.2.1
  have r3 := rh.2.2.1
  have wf0 := wf
  obtain ⟨w1, w2, w3, w4, w5, w6, w7, w8, w9, w10, w11, w12, w13⟩ := wf0
  obtain ⟨m1, m2, m3, m4, m5⟩ := wm
  have n1 : ¬ nI 1 = nI 0 := by decide
  obtain ⟨h3, V3, q3, e3, k3, u3, f3⟩ := d_findUps (M := M) (y := 141) (k := 18) (ls := [some (.ref 72), some (.int (nI n))]) (r := []) e rh wf (n := n) (by omega) w4 w5 w6 m1 m3 m2 s0 s1
  have rh3 := rh.sx k3 (by omega)
  have hu := u3 n (Nat.le_refl _)
  have hut : V3 86 n < L 7 0 := by rw [hu]; exact spotL_lt wf M _ _ _
  have h7 := rh3.2.2.2.2.2.2.2.1 _ hut
  refine ⟨h3, V3, ⟨?_, f3⟩, e3, k3.sk (by omega)⟩
  show m_ev 141 0 [some (.ref 72), some (.int (nI n))] [] h = _
  simp (disch := omega) only [b141_0, d_in1 (show 0 ≤ n by omega) hn (show 200 < 2 ^ 31 by omega), b141_4, n1, if_false, b141_7, mdF e, Option.bind_some, s2, r2, r3, if_true, q3, b141_18, mdF e3, d_wordBy e3 (show n < 577 by omega) (show V3 86 n < 12 by omega), h7, upL_sp hu, b141_21]
-- round
theorem rnd_in {n : Nat} (e : MdA h V) (rh : RH V L) (wf : WfH L) (hn : n ≤ 288) (u : ∀ j, j ≤ 576 → V 86 j = spotL L M (L 7 1) (L 7 2) j) : ∀ (d m : Nat), m + d = 288 → ∀ (b : Bool), m_ev 142 24 [some (.ref 72), some (.int (nI n)), some (.int (nI (b01 b))), some (.int (nI m))] [] h = m_ev 142 44 [some (.ref 72), some (.int (nI n)), some (.int (nI (b01 (b && alL (fun m => upL L M m == upL L M (n + m)) d m)))), some (.int (nI 288))] [] h := by
  have w2 := wf.2.1
  have n1 : ¬ nI 1 = nI 0 := by decide
  have r73 := rh.2.2.2.2.2.2.2.1
  intro d
  induction d with
  | zero =>
    intro m hm b
    obtain rfl : m = 288 := by omega
    rw [b142_24, if_pos (nI_le (Nat.le_refl _) (by omega))]
    simp [alL]
  | succ d ih =>
    intro m hm b
    have hnm : ¬ 288 ≤ m := by omega
    have u1 := u m (by omega)
    have u2 := u (n + m) (by omega)
    have l1 : V 86 m < L 7 0 := by rw [u1]; exact spotL_lt wf M _ _ _
    have l2 : V 86 (n + m) < L 7 0 := by rw [u2]; exact spotL_lt wf M _ _ _
    have x1 := r73 _ l1
    have x2 := r73 _ l2
    have y1 := upL_lt wf M m
    have y2 := upL_lt wf M (n + m)
    rw [b142_24]
    simp (disch := omega) only [nI_leI, hnm, if_false, b142_27]
    cases b with
    | false =>
      have := ih (m + 1) (by omega) false
      simp only [b01_f, if_true, b142_40, nI_add, Bool.false_and] at this ⊢
      exact this
    | true =>
      simp (disch := omega) only [b01_t, n1, if_false, b142_29, mdF e, if_true, d_wordBy e (show m < 577 by omega) (show V 86 m < 12 by omega), x1, upL_sp u1, b142_32, nI_add, d_wordBy e (show n + m < 577 by omega) (show V 86 (n + m) < 12 by omega), x2, upL_sp u2, b142_37, nI_eq]
      by_cases hc : upL L M m = upL L M (n + m)
      · have := ih (m + 1) (by omega) true
        simp only [b01_t] at this
        rw [if_pos hc, b142_38, nI_add, this, alL, if_pos (by rw [beq_iff_eq]; exact hc)]
      · have := ih (m + 1) (by omega) false
        simp only [b01_f] at this
        rw [if_neg hc, b142_40, nI_add, this, alL, if_neg (by rw [beq_iff_eq]; exact hc), Bool.false_and, Bool.and_false]
theorem rnd_out (e : MdA h V) (rh : RH V L) (wf : WfH L) (u : ∀ j, j ≤ 576 → V 86 j = spotL L M (L 7 1) (L 7 2) j) : ∀ (d n : Nat), n + d = 289 → 1 ≤ n → ∀ (d2 d3 : Option Value), m_ev 142 17 [some (.ref 72), some (.int (nI n)), d2, d3] [] h = some (some (.int (nO (ffL (agnL L M) d n))), h) := by
  have n1 : ¬ nI 1 = nI 0 := by decide
  intro d
  induction d with
  | zero =>
    intro n hn h1 d2 d3
    obtain rfl : n = 289 := by omega
    rw [b142_17]
    simp (disch := omega) only [nI_ltI, show 288 < 289 by omega, if_true, b142_50, ffL, nO]
  | succ d ih =>
    intro n hn h1 d2 d3
    have hnn : ¬ 288 < n := by omega
    have hin := rnd_in (n := n) e rh wf (by omega) u 288 0 rfl true
    rw [b142_17]
    simp (disch := omega) only [nI_ltI, hnn, if_false, b142_20]
    rw [b01_t] at hin
    rw [hin, Bool.true_and, b142_44, ffL]
    show (if nI (b01 (agnL L M n)) = nI 0 then _ else _) = _
    cases ha : agnL L M n with
    | true => rw [if_neg (show ¬ nI (b01 true) = nI 0 from n1), b142_46, if_pos rfl]; rfl
    | false => rw [if_pos (show nI (b01 false) = nI 0 from rfl), b142_48, nI_add, ih (n + 1) (by omega) (by omega), if_neg (by simp)]
theorem e_round_no (e : MdA h V) (st : StV (V 76) 0 L M) (wm : WfM L M 30000) (hf : ¬ M 2 2 = 0) : AM 142 [.ref 72] h (-4) h := by
  obtain ⟨s0, s1, s2, s3, s4, s8⟩ := stF st
  have m3 := wm.2.2.1
  refine ⟨?_, Fr.rf _ _ _⟩
  show m_ev 142 0 [some (.ref 72), none, none, none] [] h = _
  simp (disch := omega) only [b142_0, mdF e, Option.bind_some, s2, nI_leI, show ¬ M 2 2 ≤ 0 by omega, if_false, b142_5]
theorem e_round (e : MdA h V) (rh : RH V L) (st : StV (V 76) 0 L M) (wf : WfH L) (wm : WfM L M 30000) (hf : M 2 2 = 0) : ∃ h' V', AM 142 [.ref 72] h (nO (ffL (agnL L M) 288 1)) h' ∧ MdA h' V' ∧ Sk V V' := by
  obtain ⟨s0, s1, s2, s3, s4, s8⟩ := stF st
  have r2 := rh.2.1
  have r3 := rh.2.2.1
  have wf0 := wf
  obtain ⟨w1, w2, w3, w4, w5, w6, w7, w8, w9, w10, w11, w12, w13⟩ := wf0
  obtain ⟨m1, m2, m3, m4, m5⟩ := wm
  obtain ⟨h3, V3, q3, e3, k3, u3, f3⟩ := d_findUps (M := M) (y := 142) (k := 15) (ls := [some (.ref 72), none, none, none]) (r := []) e rh wf (n := 576) (by omega) w4 w5 w6 m1 m3 m2 s0 s1
  rw [hf] at q3
  refine ⟨h3, V3, ⟨?_, f3⟩, e3, k3.sk (by omega)⟩
  show m_ev 142 0 [some (.ref 72), none, none, none] [] h = _
  simp (disch := omega) only [b142_0, mdF e, Option.bind_some, s2, hf, nI_leI, Nat.le_refl, if_true, b142_7, r2, r3, q3, b142_15]
  exact rnd_out e3 (rh.sx k3 (by omega)) wf u3 288 1 rfl (by omega) none none
-- way
theorem e_way_bad (e : MdA h V) (rh : RH V L) (wf : WfH L) {x x' : Int32} (hx : x < nI 0 ∨ nI (L 7 5) ≤ x) : AM 128 [.ref 72, .int x, .int x'] h (-1) h := by
  refine ⟨?_, Fr.rf _ _ _⟩
  have r6 := rh.2.2.2.2.2.1
  have w10 := wf.2.2.2.2.2.2.2.2.2.1
  show m_ev 128 0 [some (.ref 72), some (.int x), some (.int x')] [] h = _
  simp only [b128_0, mdF e, if_true, d_isWay0 e (by omega) (by rw [r6]; exact hx), b128_3, b128_9]
theorem e_way_bad2 (e : MdA h V) (rh : RH V L) (wf : WfH L) {j : Nat} (hj : j < L 7 5) {x' : Int32} (hx : x' < nI 0 ∨ nI 4 ≤ x') : AM 128 [.ref 72, .int (nI j), .int x'] h (-1) h := by
  refine ⟨?_, Fr.rf _ _ _⟩
  have r6 := rh.2.2.2.2.2.1
  have w10 := wf.2.2.2.2.2.2.2.2.2.1
  have n1 : ¬ nI 1 = nI 0 := by decide
  show m_ev 128 0 [some (.ref 72), some (.int (nI j)), some (.int x')] [] h = _
  simp only [b128_0, mdF e, if_true, d_isWay e (show V 0 6 < 2 ^ 31 by omega) (show j < V 0 6 by omega), b128_3, n1, if_false, b128_4, d_in0 hx rfl (show 0 ≤ 4 by omega) (by omega), b128_8, b128_9]
theorem e_way (e : MdA h V) (rh : RH V L) (st : StV (V 76) 0 L M) (wf : WfH L) (wm : WfM L M 30000) {j q : Nat} (hj : j < L 7 5) (hq : q < 4) : ∃ h' V', AM 128 [.ref 72, .int (nI j), .int (nI q)] h (wayF L M j q) h' ∧ MdA h' V' ∧ Sk V V' := by
  obtain ⟨s0, s1, s2, s3, s4, s8⟩ := stF st
  have r2 := rh.2.1
  have r3 := rh.2.2.1
  have r6 := rh.2.2.2.2.2.1
  have wf0 := wf
  obtain ⟨w1, w2, w3, w4, w5, w6, w7, w8, w9, w10, w11, w12, w13⟩ := wf0
  obtain ⟨m1, m2, m3, m4, m5⟩ := wm
  have n1 : ¬ nI 1 = nI 0 := by decide
  obtain ⟨h3, V3, q3, e3, k3, u3, f3⟩ := d_findUps (M := M) (y := 128) (k := 22) (ls := [some (.ref 72), some (.int (nI j)), some (.int (nI q))]) (r := []) e rh wf (n := 0) (by omega) w4 w5 w6 m1 m3 m2 s0 s1
  have rh3 := rh.sx k3 (by omega)
  have hu := u3 0 (Nat.le_refl _)
  have hut : V3 86 0 < L 7 0 := by rw [hu]; exact spotL_lt wf M _ _ _
  have hh3 : V3 76 0 = M 2 0 := by rw [k3 76 (by omega)]; exact s0
  obtain ⟨a1, a2, a3, a4⟩ := rh3.2.2.2.2.2.2.2.2.1 j hj
  refine ⟨h3, V3, ⟨?_, f3⟩, e3, k3.sk (by omega)⟩
  show m_ev 128 0 [some (.ref 72), some (.int (nI j)), some (.int (nI q))] [] h = _
  have hcg : hoL L j (V3 76 0 + 0) (L 0 (V3 86 0)) = hoL L j (M 2 0) (upL L M 0) := by rw [hh3, upL_sp hu, Nat.add_zero]
  simp (disch := omega) only [b128_0, mdF e, if_true, d_isWay e (show V 0 6 < 2 ^ 31 by omega) (show j < V 0 6 by omega), b128_3, n1, if_false, b128_4, d_in1 (show 0 ≤ q by omega) (show q ≤ 3 by omega) (show 3 < 2 ^ 31 by omega), b128_8, b128_11, Option.bind_some, s2, r2, r3, q3, b128_22, nI_leI]
  unfold wayF
  by_cases hq3 : 3 ≤ q
  · rw [if_pos hq3, if_neg (show ¬ q = 0 by omega), if_neg (show ¬ q = 1 by omega), if_neg (show ¬ q = 2 by omega)]
    simp (disch := omega) only [b128_34, mdF e3, if_true, d_hoursOf e3 rh3 wf hj (show 0 < 577 by omega) (show V3 76 0 + 0 < 2 ^ 31 by omega) hut, b128_38, hcg]
  · rw [if_neg hq3]
    simp (disch := omega) only [b128_25, mdF e3, Option.bind_some, nI_mulN, nI_add]
    rcases (show q = 0 ∨ q = 1 ∨ q = 2 by omega) with rfl | rfl | rfl
    · rw [if_pos rfl, Nat.add_zero, a1]
    · rw [if_neg (by omega), if_pos rfl, a2]
    · rw [if_neg (by omega), if_neg (by omega), if_pos rfl, a3]
-- asker
theorem d_isOnTop (e : MdA h V) (st : StV (V 76) 0 L M) (wm : WfM L M 30000) (wf : WfH L) {a : Nat} (ha : a < L 7 6) : m_call m_ev 129 y k [.ref 72, .int (nI a)] ls r h = m_ev y k ls (.int (nI (b01 (onT M a))) :: r) h := by
  obtain ⟨s0, s1, s2, s3, s4, s8⟩ := stF st
  have w9 := wf.2.2.2.2.2.2.2.2.1
  have w12 := wf.2.2.2.2.2.2.2.2.2.2.2.1
  obtain ⟨p1, p2⟩ := wm.2.2.2.2 a ha
  have t4 := s4 a ha
  have t8 := s8 a ha
  refine cl_v ?_
  show m_ev 129 0 [some (.ref 72), some (.int (nI a))] [] h = _
  simp (disch := omega) only [b129_0, mdF e, Option.bind_some, nI_add, t4, t8, nI_eq, b129_7, b129_14, b129_16, onT, b01_d]
  (repeat' split) <;> first | rfl | (exfalso; omega)
theorem e_asker_bad (e : MdA h V) (rh : RH V L) (wf : WfH L) {x x' : Int32} (hx : x < nI 0 ∨ nI (L 7 6) ≤ x) : AM 130 [.ref 72, .int x, .int x'] h (-1) h := by
  refine ⟨?_, Fr.rf _ _ _⟩
  have r8 := rh.2.2.2.2.2.2.1
  have w12 := wf.2.2.2.2.2.2.2.2.2.2.2.1
  show m_ev 130 0 [some (.ref 72), some (.int x), some (.int x')] [] h = _
  simp only [b130_0, mdF e, if_true, d_isAsker0 e (by omega) (by rw [r8]; exact hx), b130_3, b130_4]
theorem ne_ix {x : Int32} {n : Nat} (hn : n < 2 ^ 31) (hx : x < nI 0 ∨ nI n ≤ x) {j : Nat} (hj : j < n) : ¬ x = nI j := by
  intro q
  subst q
  rcases hx with q | q
  · rw [nI_ltI (by omega) (by omega)] at q; omega
  · rw [nI_leI (by omega) (by omega)] at q; omega
theorem e_asker_bad2 (e : MdA h V) (rh : RH V L) (wf : WfH L) {j : Nat} (hj : j < L 7 6) {x' : Int32} (hx : x' < nI 0 ∨ nI 4 ≤ x') : AM 130 [.ref 72, .int (nI j), .int x'] h (-1) h := by
  refine ⟨?_, Fr.rf _ _ _⟩
  have r8 := rh.2.2.2.2.2.2.1
  have w12 := wf.2.2.2.2.2.2.2.2.2.2.2.1
  have n1 : ¬ nI 1 = nI 0 := by decide
  show m_ev 130 0 [some (.ref 72), some (.int (nI j)), some (.int x')] [] h = _
  simp only [b130_0, mdF e, if_true, d_isAsker e (show V 0 8 < 2 ^ 31 by omega) (show j < V 0 8 by omega), b130_3, n1, if_false, b130_6, ne_ix (show 4 < 2 ^ 31 by omega) hx (show 0 < 4 by omega), ne_ix (show 4 < 2 ^ 31 by omega) hx (show 1 < 4 by omega), ne_ix (show 4 < 2 ^ 31 by omega) hx (show 2 < 4 by omega), ne_ix (show 4 < 2 ^ 31 by omega) hx (show 3 < 4 by omega), b130_41]
theorem e_asker (e : MdA h V) (rh : RH V L) (st : StV (V 76) 0 L M) (wf : WfH L) (wm : WfM L M 30000) {j q : Nat} (hj : j < L 7 6) (hq : q < 4) : AM 130 [.ref 72, .int (nI j), .int (nI q)] h (askF L M j q) h := by
  have st0 := st
  obtain ⟨s0, s1, s2, s3, s4, s8⟩ := stF st0
  have r8 := rh.2.2.2.2.2.2.1
  have w2 := wf.2.1
  have w12 := wf.2.2.2.2.2.2.2.2.2.2.2.1
  have n1 : ¬ nI 1 = nI 0 := by decide
  have m2 := wm.2.1
  have r73 := rh.2.2.2.2.2.2.2.1 _ m2
  have r75 := rh.2.2.2.2.2.2.2.2.2 j hj
  have t4 := s4 j hj
  have t8 := s8 j hj
  have hup : upL L M 0 = L 0 (M 2 1) := by unfold upL; rw [spot_0 L M _ _ m2]
  refine ⟨?_, Fr.rf _ _ _⟩
  show m_ev 130 0 [some (.ref 72), some (.int (nI j)), some (.int (nI q))] [] h = _
  have hne : ∀ i, i < 4 → q ≠ i → ¬ nI q = nI i := fun i h1 h2 => by rw [nI_eq (by omega) (by omega)]; exact h2
  unfold askF
  rcases (show q = 0 ∨ q = 1 ∨ q = 2 ∨ q = 3 by omega) with rfl | rfl | rfl | rfl
  · simp (disch := omega) only [b130_0, mdF e, if_true, d_isAsker e (show V 0 8 < 2 ^ 31 by omega) (show j < V 0 8 by omega), b130_3, n1, if_false, b130_6, b130_8, Option.bind_some, nI_add, t4]
  · simp (disch := omega) only [b130_0, mdF e, if_true, d_isAsker e (show V 0 8 < 2 ^ 31 by omega) (show j < V 0 8 by omega), b130_3, n1, if_false, b130_6, b130_15, Option.bind_some, r75, show ¬ (1 : Nat) = 0 by omega]
  · simp (disch := omega) only [b130_0, mdF e, if_true, d_isAsker e (show V 0 8 < 2 ^ 31 by omega) (show j < V 0 8 by omega), b130_3, n1, if_false, b130_6, hne 0 (by omega) (by omega), hne 1 (by omega) (by omega), b130_20, Option.bind_some, nI_add, t8, show ¬ (2 : Nat) = 0 by omega, show ¬ (2 : Nat) = 1 by omega]
  · simp (disch := omega) only [b130_0, mdF e, if_true, d_isAsker e (show V 0 8 < 2 ^ 31 by omega) (show j < V 0 8 by omega), b130_3, n1, if_false, b130_6, hne 0 (by omega) (by omega), hne 1 (by omega) (by omega), hne 2 (by omega) (by omega), b130_27, d_isOnTop e st wm wf hj, b130_30, show ¬ (3 : Nat) = 0 by omega, show ¬ (3 : Nat) = 1 by omega, show ¬ (3 : Nat) = 2 by omega]
    cases onT M j with
    | true => simp (disch := omega) only [b01_t, n1, if_false, b130_31, mdF e, Option.bind_some, s1, r73, if_true, hup]
    | false => simp only [b01_f, if_true, b130_39, Bool.false_eq_true, if_false]
-- word
theorem e_word_bad {x : Int32} (hx : x < nI 0) : AM 127 [.ref 72, .int x] h (-1) h := by
  refine ⟨?_, Fr.rf _ _ _⟩
  show m_ev 127 0 [some (.ref 72), some (.int x)] [] h = _
  have : ¬ nI 0 ≤ x := fun p => Int32.lt_irrefl (Int32.lt_of_lt_of_le hx p)
  rw [b127_0, if_neg this, b127_2]
theorem e_word_none (e : MdA h V) (rh : RH V L) (wf : WfH L) {x : Int32} (hx : nI (L 7 0) ≤ x) : AM 127 [.ref 72, .int x] h (-4) h := by
  refine ⟨?_, Fr.rf _ _ _⟩
  show m_ev 127 0 [some (.ref 72), some (.int x)] [] h = _
  have r0 := rh.1
  have : nI 0 ≤ x := Int32.le_trans (by have := wf.2.1; rw [nI_leI (by omega) (by omega)]; omega) hx
  simp only [b127_0, if_pos this, b127_4, mdF e, Option.bind_some, r0, if_pos hx, b127_13]
theorem e_word (e : MdA h V) (rh : RH V L) (wf : WfH L) {j : Nat} (hj : j < L 7 0) : AM 127 [.ref 72, .int (nI j)] h (nI (L 0 j)) h := by
  refine ⟨?_, Fr.rf _ _ _⟩
  show m_ev 127 0 [some (.ref 72), some (.int (nI j))] [] h = _
  have w2 := wf.2.1
  have r0 := rh.1
  have r73 := rh.2.2.2.2.2.2.2.1 j hj
  simp (disch := omega) only [b127_0, nI_leI, Nat.zero_le, if_true, b127_4, mdF e, Option.bind_some, r0, show ¬ L 7 0 ≤ j by omega, if_false, b127_8, r73]
-- how many on top
theorem ont_loop (e : MdA h V) (rh : RH V L) (st : StV (V 76) 0 L M) (wf : WfH L) (wm : WfM L M 30000) : ∀ (d i : Nat), i + d = L 7 6 → m_ev 157 4 [some (.ref 72), some (.int (nI (cntL (onT M) i))), some (.int (nI i))] [] h = some (some (.int (nI (cntL (onT M) (L 7 6)))), h) := by
  have w12 := wf.2.2.2.2.2.2.2.2.2.2.2.1
  have r8 := rh.2.2.2.2.2.2.1
  have n1 : ¬ nI 1 = nI 0 := by decide
  intro d
  induction d with
  | zero =>
    intro i hi
    obtain rfl : i = L 7 6 := by omega
    rw [b157_4]
    simp (disch := omega) only [mdF e, Option.bind_some, r8, nI_leI, Nat.le_refl, if_true, b157_20]
  | succ d ih =>
    intro i hi
    have hni : ¬ L 7 6 ≤ i := by omega
    have hih := ih (i + 1) (by omega)
    rw [cntL] at hih
    rw [b157_4]
    simp (disch := omega) only [mdF e, Option.bind_some, r8, nI_leI, hni, if_false, b157_8, if_true, d_isOnTop e st wm wf (show i < L 7 6 by omega), b157_12]
    cases hc : onT M i with
    | true =>
      rw [hc, if_pos rfl] at hih
      simp only [b01_t, n1, if_false, b157_13, nI_add]
      exact hih
    | false =>
      rw [hc, if_neg (by simp)] at hih
      simp only [b01_f, if_true, b157_15, nI_add]
      exact hih
theorem d_onTop (e : MdA h V) (rh : RH V L) (st : StV (V 76) 0 L M) (wf : WfH L) (wm : WfM L M 30000) : m_call m_ev 157 y k [.ref 72] ls r h = m_ev y k ls (.int (nI (cntL (onT M) (L 7 6))) :: r) h := by
  refine cl_v ?_
  show m_ev 157 0 [some (.ref 72), none, none] [] h = _
  rw [b157_0]
  exact ont_loop e rh st wf wm (L 7 6) 0 (by omega)
end
