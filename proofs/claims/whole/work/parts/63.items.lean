/-! the model: the items of a text -/
def RP (V L : LT) : Prop := V 0 22 = L 7 0 ∧ V 0 24 = L 7 1 ∧ V 0 25 = L 7 2 ∧ V 0 26 = L 7 3 ∧ V 0 27 = L 7 4 ∧ V 0 28 = L 7 5 ∧ V 0 30 = L 7 6 ∧ V 0 21 = (if 0 < L 7 5 ∨ 0 < L 7 6 then 1 else 0) ∧ (∀ i, i < L 7 0 → V 82 i = L 0 i) ∧ (∀ w, w < L 7 5 → V 83 (4 * w) = L 1 w ∧ V 83 (4 * w + 1) = L 2 w ∧ V 83 (4 * w + 2) = L 3 w ∧ V 83 (4 * w + 3) = L 4 w) ∧ (∀ a, a < L 7 6 → V 84 a = L 5 a ∧ V 85 a = L 6 a)
def IT (T V V' : LT) (b : Bool) (p : Bool × LT × LT) : Prop := Sp V V' ∧ ((b = true) ↔ (p.1 = true ∧ ltT T (p.2.2 1 0) = 59)) ∧ (b = true → RP V' p.2.1 ∧ V' 0 19 = p.2.2 1 0 + 1)
theorem RP.f {V V' L : LT} (r : RP V L) (h0 : ∀ k, 20 ≤ k → V' 0 k = V 0 k) (h1 : ∀ q, 82 ≤ q → q ≤ 85 → V' q = V q) : RP V' L := by
  unfold RP
  rw [h0 22 (by omega), h0 24 (by omega), h0 25 (by omega), h0 26 (by omega), h0 27 (by omega), h0 28 (by omega), h0 30 (by omega), h0 21 (by omega), h1 82 (by omega) (by omega), h1 83 (by omega) (by omega), h1 84 (by omega) (by omega), h1 85 (by omega) (by omega)]
  exact r
theorem RP.sq {V V' L : LT} (r : RP V L) (s : Sq V V') : RP V' L := r.f (fun k hk => s.1 k (by omega)) (fun q h1 h2 => s.2 q (by omega) (by omega))
theorem Sp.u {V : LT} {k x : Nat} (hk : 18 < k) : Sp V (uL V 0 k x) := ⟨fun j hj => uL_k _ _ _ (by omega), fun r h1 _ => uL_row _ _ _ (by omega)⟩
theorem Sp.v {V : LT} {q k x : Nat} (hq : 80 < q) : Sp V (uL V q k x) := ⟨fun j hj => by rw [uL_row _ _ _ (by omega)], fun r h1 h2 => uL_row _ _ _ (by omega)⟩
section
variable {y k : Nat} {ls : ML} {r : List Value} {h : MH} {V L M T S C : LT}
-- the ring
theorem ring_lp (wt : WfT T) : ∀ (d i : Nat), i + d = 12 → ∀ (h : MH) (V L C : LT), MdA h V → RT V T → V 0 19 = C 1 0 → L 7 0 = i → (∀ j, j < i → V 82 j = L 0 j) → C 1 0 + d < 2 ^ 28 → ∃ h' V', m_ev 113 2 [some (.ref 72), some (.int (nI i)), none] [] h = m_ev 113 28 [some (.ref 72), some (.int (nI ((rngP T d L C).1 7 0))), none] [] h' ∧ MdA h' V' ∧ (∀ j, j ≠ 19 → V' 0 j = V 0 j) ∧ (∀ q, q ≠ 0 → q ≠ 82 → V' q = V q) ∧ V' 0 19 = (rngP T d L C).2 1 0 ∧ (∀ j, j < (rngP T d L C).1 7 0 → V' 82 j = (rngP T d L C).1 0 j) ∧ (rngP T d L C).1 7 0 ≤ 12 ∧ Fr 72 89 h h' := by
  intro d
  induction d with
  | zero =>
    intro i hi h V L C e rt hv hL hj hC
    obtain rfl : i = 12 := by omega
    refine ⟨h, V, ?_, e, fun _ _ => rfl, fun _ _ _ => rfl, hv, by show ∀ j, j < L 7 0 → V 82 j = L 0 j; rw [hL]; exact hj, by show L 7 0 ≤ 12; omega, Fr.rf _ _ _⟩
    show _ = m_ev 113 28 [some (.ref 72), some (.int (nI (L 7 0))), none] [] h
    rw [hL, b113_2]
    simp (disch := omega) only [mdF e, Option.bind_some, hv, if_true, d_letterAt e rt wt (show C 1 0 < 2 ^ 31 by omega), b113_6, d_wordOf wt, b113_7, b113_8, nI_leI, Nat.le_refl]
    split <;> rfl
  | succ d ih =>
    intro i hi h V L C e rt hv hL hj hC
    have hni : ¬ 12 ≤ i := by omega
    cases hw : wiN (ltT T (C 1 0)) with
    | none =>
      have hr : rngP T (d + 1) L C = (L, C) := by rw [rngP, hw]
      rw [hr]
      refine ⟨h, V, ?_, e, fun _ _ => rfl, fun _ _ _ => rfl, hv, by show ∀ j, j < L 7 0 → V 82 j = L 0 j; rw [hL]; exact hj, by show L 7 0 ≤ 12; omega, Fr.rf _ _ _⟩
      show _ = m_ev 113 28 [some (.ref 72), some (.int (nI (L 7 0))), none] [] h
      rw [hL, b113_2]
      simp (disch := omega) only [mdF e, Option.bind_some, hv, if_true, d_letterAt e rt wt (show C 1 0 < 2 ^ 31 by omega), b113_6, d_wordOf wt, hw, b113_7]
      rw [if_pos (show nJ none < nI 0 from by decide)]
    | some w =>
      have hw4 := wiN_lt hw
      have hr : rngP T (d + 1) L C = rngP T d (adW L w) (avC C) := by rw [rngP, hw]
      rw [hr]
      obtain ⟨h3, q3, e3, f3⟩ := mdW82 e w (k := i) (by omega)
      obtain ⟨h4, q4, e4, f4⟩ := mdW0 e3 19 (C 1 0 + 1) (by simp)
      have v3 : (uL V 82 i w) 0 19 = C 1 0 := by rw [uL_row _ _ _ (by omega)]; exact hv
      have a0 : (adW L w) 7 0 = i + 1 := by unfold adW; rw [uL_s, hL]
      have rt4 : RT (uL (uL V 82 i w) 0 19 (C 1 0 + 1)) T := rt.sp ((Sp.v (by omega)).tr (Sp.u (by omega)))
      obtain ⟨h5, V5, q5, e5, k5, o5, v5, x5, l5, f5⟩ := ih (i + 1) (by omega) h4 _ (adW L w) (avC C) e4 rt4 (by rw [uL_s, avC_at]) a0 (by
        intro j hjj
        rw [uL_row _ _ _ (by omega)]
        have ea : ∀ j, (adW L w) 0 j = (uL L 0 i w) 0 j := fun j => by unfold adW; rw [hL]; exact uL_r _ _ _ _ (by omega)
        rw [ea j]
        by_cases hji : j = i
        · subst hji; rw [uL_s, uL_s]
        · rw [uL_k _ _ _ hji, uL_k _ _ _ hji]; exact hj j (by omega)) (by rw [avC_at]; omega)
      refine ⟨h5, V5, ?_, e5, ?_, ?_, v5, x5, l5, (f3.tr f4).tr f5⟩
      · rw [b113_2]
        have nw : ¬ nI w < nI 0 := by rw [nI_ltI (by omega) (by omega)]; omega
        have jw : nJ (some w) = nI w := rfl
        simp (disch := omega) only [mdF e, Option.bind_some, hv, if_true, d_letterAt e rt wt (show C 1 0 < 2 ^ 31 by omega), b113_6, d_wordOf wt, hw, b113_7, nw, if_false, b113_8, nI_leI, hni, b113_11, b113_18, b113_19, jw, q3, mdF e3, v3, nI_add, q4]
        exact q5
      · intro j hj19
        rw [k5 j hj19, uL_k _ _ _ hj19, uL_row _ _ _ (by omega)]
      · intro q h1 h2
        rw [o5 q h1 h2, uL_row _ _ _ h1, uL_row _ _ _ h2]
theorem d_ringOf (e : MdA h V) (rt : RT V T) (wt : WfT T) (rp : RP V L) (hv : V 0 19 = C 1 0) (hC : C 1 0 < 2 ^ 27) : ∃ h' V' b, m_call m_ev 113 y k [.ref 72] ls r h = m_ev y k ls (.int (nI (b01 b)) :: r) h' ∧ MdA h' V' ∧ IT T V V' b (rinP T L C) ∧ Fr 72 89 h h' := by
  obtain ⟨h3, V3, q3, e3, k3, o3, v3, x3, l3, f3⟩ := ring_lp wt 12 0 rfl h V (uL L 7 0 0) C e rt hv (uL_s _ _ _ _) (fun j hj => by omega) (by omega)
  obtain ⟨g1, g2, g3, g4⟩ := rng_wf T 12 (uL L 7 0 0) C (by rw [uL_s]; omega) (by rw [uL_s]; intro i hi; omega)
  have hat := rng_at T 12 (uL L 7 0 0) C
  have hsp : rinP T L C = (decide (2 ≤ (rngP T 12 (uL L 7 0 0) C).1 7 0), rngP T 12 (uL L 7 0 0) C) := rfl
  rw [hsp]
  generalize hR : rngP T 12 (uL L 7 0 0) C = R at *
  have g3' : ∀ q, 1 ≤ q → q ≤ 6 → R.1 q = L q := fun q h1 h2 => by rw [g3 q h1 h2]; exact uL_row _ _ _ (by omega)
  have g4' : ∀ i, 1 ≤ i → R.1 7 i = L 7 i := fun i hi => by rw [g4 i hi, uL_k _ _ _ (by omega)]
  obtain ⟨h4, q4, e4, f4⟩ := mdW0 e3 22 (R.1 7 0) (by simp)
  obtain ⟨h5, q5, e5, f5⟩ := mdW0 e4 19 (R.2 1 0 + 1) (by simp)
  have v4 : (uL V3 0 22 (R.1 7 0)) 0 19 = R.2 1 0 := by rw [uL_k _ _ _ (by omega)]; exact v3
  have sp3 : Sp V V3 := ⟨fun j hj => k3 j (by omega), fun q h1 h2 => o3 q (by omega) (by omega)⟩
  have sp5 : Sp V (uL (uL V3 0 22 (R.1 7 0)) 0 19 (R.2 1 0 + 1)) := (sp3.tr (Sp.u (by omega))).tr (Sp.u (by omega))
  have rt4 := (rt.sp sp3).sp (Sp.u (V := V3) (k := 22) (x := R.1 7 0) (by omega))
  have hf : ∀ b : Bool, (b = true ↔ (2 ≤ R.1 7 0 ∧ ltT T (R.2 1 0) = 59)) → IT T V (uL (uL V3 0 22 (R.1 7 0)) 0 19 (R.2 1 0 + 1)) b (decide (2 ≤ R.1 7 0), R) := by
    intro b hb
    refine ⟨sp5, by rw [hb]; show _ ↔ (decide (2 ≤ R.1 7 0) = true ∧ _); rw [decide_eq_true_eq], fun _ => ⟨?_, uL_s _ _ _ _⟩⟩
    show RP _ R.1
    obtain ⟨p1, p2, p3, p4, p5, p6, p7, p8, p9, p10, p11⟩ := rp
    have fl : ∀ j, j ≠ 19 → j ≠ 22 → (uL (uL V3 0 22 (R.1 7 0)) 0 19 (R.2 1 0 + 1)) 0 j = V 0 j := fun j h1 h2 => by rw [uL_k _ _ _ h1, uL_k _ _ _ h2, k3 j h1]
    have rw' : ∀ q, q ≠ 0 → (uL (uL V3 0 22 (R.1 7 0)) 0 19 (R.2 1 0 + 1)) q = V3 q := fun q h1 => by rw [uL_row _ _ _ h1, uL_row _ _ _ h1]
    refine ⟨by rw [uL_k _ _ _ (by omega), uL_s], ?_, ?_, ?_, ?_, ?_, ?_, ?_, ?_, ?_, ?_⟩
    · rw [fl 24 (by omega) (by omega), g4' 1 (by omega)]; exact p2
    · rw [fl 25 (by omega) (by omega), g4' 2 (by omega)]; exact p3
    · rw [fl 26 (by omega) (by omega), g4' 3 (by omega)]; exact p4
    · rw [fl 27 (by omega) (by omega), g4' 4 (by omega)]; exact p5
    · rw [fl 28 (by omega) (by omega), g4' 5 (by omega)]; exact p6
    · rw [fl 30 (by omega) (by omega), g4' 6 (by omega)]; exact p7
    · rw [fl 21 (by omega) (by omega), g4' 5 (by omega), g4' 6 (by omega)]; exact p8
    · rw [rw' 82 (by omega)]; exact x3
    · rw [rw' 83 (by omega), o3 83 (by omega) (by omega), g4' 5 (by omega), g3' 1 (by omega) (by omega), g3' 2 (by omega) (by omega), g3' 3 (by omega) (by omega), g3' 4 (by omega) (by omega)]; exact p10
    · rw [rw' 84 (by omega), rw' 85 (by omega), o3 84 (by omega) (by omega), o3 85 (by omega) (by omega), g4' 6 (by omega), g3' 5 (by omega) (by omega), g3' 6 (by omega) (by omega)]; exact p11
  have pre : m_ev 113 0 [some (.ref 72), none, none] [] h = (if R.1 7 0 ≤ 1 then m_ev 113 42 [some (.ref 72), some (.int (nI (R.1 7 0))), none] [] h4 else m_ev 113 34 [some (.ref 72), some (.int (nI (R.1 7 0))), none] [] h4) := by
    rw [b113_0, q3, b113_28]
    simp (disch := omega) only [q4, Option.bind_some, nI_leI]
  by_cases h1 : R.1 7 0 ≤ 1
  · refine ⟨h5, _, false, cl_v ?_, e5, hf false ⟨fun q => (by cases q), fun q => (by omega)⟩, (f3.tr f4).tr f5⟩
    show m_ev 113 0 [some (.ref 72), none, none] [] h = _
    rw [pre, if_pos h1]
    simp (disch := omega) only [b113_42, mdF e4, Option.bind_some, v4, nI_add, q5, b01_f]
  · have pre2 : m_ev 113 34 [some (.ref 72), some (.int (nI (R.1 7 0))), none] [] h4 = (if ltT T (R.2 1 0) = 59 then m_ev 113 40 [some (.ref 72), some (.int (nI (R.1 7 0))), none] [] h4 else m_ev 113 42 [some (.ref 72), some (.int (nI (R.1 7 0))), none] [] h4) := by
      simp (disch := omega) only [b113_34, mdF e4, Option.bind_some, v4, if_true, d_letterAt e4 rt4 wt (show R.2 1 0 < 2 ^ 31 by omega), b113_38, mlt_eq wt]
    by_cases h59 : ltT T (R.2 1 0) = 59
    · refine ⟨h5, _, true, cl_v ?_, e5, hf true ⟨fun _ => ⟨by omega, h59⟩, fun _ => rfl⟩, (f3.tr f4).tr f5⟩
      show m_ev 113 0 [some (.ref 72), none, none] [] h = _
      rw [pre, if_neg h1, pre2, if_pos h59]
      simp (disch := omega) only [b113_40, mdF e4, Option.bind_some, v4, nI_add, q5, b01_t]
    · refine ⟨h5, _, false, cl_v ?_, e5, hf false ⟨fun q => (by cases q), fun q => absurd q.2 h59⟩, (f3.tr f4).tr f5⟩
      show m_ev 113 0 [some (.ref 72), none, none] [] h = _
      rw [pre, if_neg h1, pre2, if_neg h59]
      simp (disch := omega) only [b113_42, mdF e4, Option.bind_some, v4, nI_add, q5, b01_f]
-- the law
theorem d_turnOf (e : MdA h V) (rt : RT V T) (wt : WfT T) (rp : RP V L) (hv : V 0 19 = C 1 0) (hC : C 1 0 < 2 ^ 27) : ∃ h' V' b, m_call m_ev 114 y k [.ref 72] ls r h = m_ev y k ls (.int (nI (b01 b)) :: r) h' ∧ MdA h' V' ∧ IT T V V' b (lawP T L C) ∧ Fr 72 89 h h' := by
  have n1 : ¬ nI 1 = nI 0 := by decide
  obtain ⟨h3, V3, b, q3, e3, s3, hb, hb2, f3⟩ := d_readNumbers (C := C) (y := 114) (k := 3) (ls := [some (.ref 72)]) (r := []) e rt wt (n := 3) (by omega) (by omega) hv hC
  have hnv := num_v T 3 0 C (by intro j hj; omega)
  unfold lawP
  generalize hN : numP T 3 0 C = N at *
  have noC : b = false ∨ (b = true ∧ ¬ (N.2 0 0 ≤ 11 ∧ N.2 0 2 ≤ 11 ∧ 1 ≤ N.2 0 1 ∧ N.2 0 1 ≤ 24)) → m_ev 114 0 [some (.ref 72)] [] h = some (some (.int (nI 0)), h3) → ∃ h' V' b, m_call m_ev 114 y k [.ref 72] ls r h = m_ev y k ls (.int (nI (b01 b)) :: r) h' ∧ MdA h' V' ∧ IT T V V' b (if N.1 = true ∧ N.2 0 0 ≤ 11 ∧ N.2 0 2 ≤ 11 ∧ 1 ≤ N.2 0 1 ∧ N.2 0 1 ≤ 24 then (true, uL (uL (uL L 7 1 (N.2 0 0)) 7 2 (N.2 0 1)) 7 3 (N.2 0 2), N.2) else (false, L, N.2)) ∧ Fr 72 89 h h' := by
    intro hc hq
    refine ⟨h3, V3, false, cl_v hq, e3, ⟨s3.sp, ⟨fun q => (by cases q), ?_⟩, fun q => (by cases q)⟩, f3⟩
    split
    · rename_i hx
      rintro ⟨_, q2⟩
      have := hb.2 ⟨hx.1, q2⟩
      rcases hc with z | ⟨_, z⟩
      · rw [this] at z; cases z
      · exact absurd hx.2 z
    · rintro ⟨q, _⟩; cases q
  cases b with
  | false =>
    refine noC (Or.inl rfl) ?_
    simp only [b114_0, mdF e, if_true, q3, b01_f, b114_3, b114_22]
  | true =>
    obtain ⟨z1, z2⟩ := hb.1 rfl
    obtain ⟨w1, w2⟩ := hb2 rfl
    have t0 := w2 0 (by omega)
    have t1 := w2 1 (by omega)
    have t2 := w2 2 (by omega)
    have b0 := hnv z1 0 (by omega)
    have b1 := hnv z1 1 (by omega)
    have b2 := hnv z1 2 (by omega)
    have i0 := d_isTold (y := 114) (k := 9) (ls := [some (.ref 72)]) (r := []) e3 (j := 0) (a := 0) (b := 11) (by omega) (by omega) (by omega) (by omega)
    have i1 := d_isTold (y := 114) (k := 15) (ls := [some (.ref 72)]) (r := []) e3 (j := 1) (a := 1) (b := 24) (by omega) (by omega) (by omega) (by omega)
    have i2 := d_isTold (y := 114) (k := 21) (ls := [some (.ref 72)]) (r := []) e3 (j := 2) (a := 0) (b := 11) (by omega) (by omega) (by omega) (by omega)
    rw [t0] at i0
    rw [t1] at i1
    rw [t2] at i2
    by_cases c0 : 0 ≤ N.2 0 0 ∧ N.2 0 0 ≤ 11
    · rw [decide_eq_true c0] at i0
      by_cases c1 : 1 ≤ N.2 0 1 ∧ N.2 0 1 ≤ 24
      · rw [decide_eq_true c1] at i1
        by_cases c2 : 0 ≤ N.2 0 2 ∧ N.2 0 2 ≤ 11
        · rw [decide_eq_true c2] at i2
          obtain ⟨h4, q4, e4, f4⟩ := mdW0 e3 24 (N.2 0 0) (by simp)
          obtain ⟨h5, q5, e5, f5⟩ := mdW0 e4 25 (N.2 0 1) (by simp)
          obtain ⟨h6, q6, e6, f6⟩ := mdW0 e5 26 (N.2 0 2) (by simp)
          have u1 : (uL V3 0 24 (N.2 0 0)) 81 1 = N.2 0 1 := by rw [uL_row _ _ _ (by omega)]; exact t1
          have u2 : (uL (uL V3 0 24 (N.2 0 0)) 0 25 (N.2 0 1)) 81 2 = N.2 0 2 := by rw [uL_row _ _ _ (by omega), uL_row _ _ _ (by omega)]; exact t2
          rw [if_pos ⟨z1, by omega, by omega, by omega, by omega⟩]
          have sp6 : Sp V (uL (uL (uL V3 0 24 (N.2 0 0)) 0 25 (N.2 0 1)) 0 26 (N.2 0 2)) := ((s3.sp.tr (Sp.u (by omega))).tr (Sp.u (by omega))).tr (Sp.u (by omega))
          refine ⟨h6, _, true, cl_v ?_, e6, ⟨sp6, ⟨fun _ => ⟨rfl, z2⟩, fun _ => rfl⟩, fun _ => ⟨?_, ?_⟩⟩, ((f3.tr f4).tr f5).tr f6⟩
          · show m_ev 114 0 [some (.ref 72)] [] h = _
            simp (disch := omega) only [b114_0, mdF e, if_true, q3, b01_t, b114_3, n1, if_false, b114_4, mdF e3, i0, b114_9, b114_10, i1, b114_15, b114_16, i2, b114_21, b114_24, Option.bind_some, t0, q4, mdF e4, u1, q5, mdF e5, u2, q6]
          · have rp3 := rp.sq s3
            obtain ⟨p1, p2, p3, p4, p5, p6, p7, p8, p9, p10, p11⟩ := rp3
            have fl : ∀ j, j ≠ 24 → j ≠ 25 → j ≠ 26 → (uL (uL (uL V3 0 24 (N.2 0 0)) 0 25 (N.2 0 1)) 0 26 (N.2 0 2)) 0 j = V3 0 j := fun j h1 h2 h3 => by rw [uL_k _ _ _ h3, uL_k _ _ _ h2, uL_k _ _ _ h1]
            have rw' : ∀ q, q ≠ 0 → (uL (uL (uL V3 0 24 (N.2 0 0)) 0 25 (N.2 0 1)) 0 26 (N.2 0 2)) q = V3 q := fun q h1 => by rw [uL_row _ _ _ h1, uL_row _ _ _ h1, uL_row _ _ _ h1]
            have fL : ∀ j, j ≠ 1 → j ≠ 2 → j ≠ 3 → (uL (uL (uL L 7 1 (N.2 0 0)) 7 2 (N.2 0 1)) 7 3 (N.2 0 2)) 7 j = L 7 j := fun j h1 h2 h3 => by rw [uL_k _ _ _ h3, uL_k _ _ _ h2, uL_k _ _ _ h1]
            have rL : ∀ q, q ≠ 7 → (uL (uL (uL L 7 1 (N.2 0 0)) 7 2 (N.2 0 1)) 7 3 (N.2 0 2)) q = L q := fun q h1 => by rw [uL_row _ _ _ h1, uL_row _ _ _ h1, uL_row _ _ _ h1]
            show RP _ (uL (uL (uL L 7 1 (N.2 0 0)) 7 2 (N.2 0 1)) 7 3 (N.2 0 2))
            unfold RP
            rw [fl 22 (by omega) (by omega) (by omega), fl 27 (by omega) (by omega) (by omega), fl 28 (by omega) (by omega) (by omega), fl 30 (by omega) (by omega) (by omega), fl 21 (by omega) (by omega) (by omega), fL 0 (by omega) (by omega) (by omega), fL 4 (by omega) (by omega) (by omega), fL 5 (by omega) (by omega) (by omega), fL 6 (by omega) (by omega) (by omega), rw' 82 (by omega), rw' 83 (by omega), rw' 84 (by omega), rw' 85 (by omega), rL 0 (by omega), rL 1 (by omega), rL 2 (by omega), rL 3 (by omega), rL 4 (by omega), rL 5 (by omega), rL 6 (by omega)]
            refine ⟨p1, ?_, ?_, ?_, p5, p6, p7, p8, p9, p10, p11⟩ <;> simp [uL]
          · rw [uL_k _ _ _ (by omega), uL_k _ _ _ (by omega), uL_k _ _ _ (by omega)]; exact w1
        · rw [decide_eq_false c2] at i2
          refine noC (Or.inr ⟨rfl, by omega⟩) ?_
          simp only [b114_0, mdF e, if_true, q3, b01_t, b01_f, b114_3, n1, if_false, b114_4, mdF e3, i0, b114_9, b114_10, i1, b114_15, b114_16, i2, b114_21, b114_22]
      · rw [decide_eq_false c1] at i1
        refine noC (Or.inr ⟨rfl, by omega⟩) ?_
        simp only [b114_0, mdF e, if_true, q3, b01_t, b01_f, b114_3, n1, if_false, b114_4, mdF e3, i0, b114_9, b114_10, i1, b114_15, b114_22]
    · rw [decide_eq_false c0] at i0
      refine noC (Or.inr ⟨rfl, by omega⟩) ?_
      simp only [b114_0, mdF e, if_true, q3, b01_t, b01_f, b114_3, n1, if_false, b114_4, mdF e3, i0, b114_9, b114_22]
-- how many places
theorem d_placesOf (e : MdA h V) (rt : RT V T) (wt : WfT T) (rp : RP V L) (hv : V 0 19 = C 1 0) (hC : C 1 0 < 2 ^ 27) : ∃ h' V' b, m_call m_ev 115 y k [.ref 72] ls r h = m_ev y k ls (.int (nI (b01 b)) :: r) h' ∧ MdA h' V' ∧ IT T V V' b (plaP T L C) ∧ Fr 72 89 h h' := by
  have n1 : ¬ nI 1 = nI 0 := by decide
  have rp0 := rp
  obtain ⟨p1, p2, p3, p4, p5, p6, p7, p8, p9, p10, p11⟩ := rp0
  unfold plaP
  by_cases hbg : 0 < L 7 5 ∨ 0 < L 7 6
  · rw [if_pos hbg] at p8 ⊢
    obtain ⟨h4, q4, e4, f4⟩ := mdW0 e 27 (V 0 27) (by simp)
    refine ⟨h4, _, false, cl_v ?_, e4, ⟨Sp.u (by omega), ⟨fun q => (by cases q), fun q => (by cases q.1)⟩, fun q => (by cases q)⟩, f4⟩
    show m_ev 115 0 [some (.ref 72), none] [] h = _
    simp only [b115_0, mdF e, Option.bind_some, p8, n1, if_false, b115_15, if_true, b115_25, q4, true_or, b01_f]
  · rw [if_neg hbg] at p8 ⊢
    obtain ⟨h3, V3, b, q3, e3, s3, hb, hb2, f3⟩ := d_readNumbers (C := C) (y := 115) (k := 6) (ls := [some (.ref 72), none]) (r := []) e rt wt (n := 1) (by omega) (by omega) hv hC
    have hnv := num_v T 1 0 C (by intro j hj; omega)
    generalize hN : numP T 1 0 C = N at *
    obtain ⟨h4, q4, e4, f4⟩ := mdW0 e3 27 (V3 0 27) (by simp)
    have fin15 : m_ev 115 15 [some (.ref 72), none] [] h3 = some (some (.int (nI 0)), h4) := by
      simp only [b115_15, if_true, b115_25, mdF e3, Option.bind_some, q4, true_or]
    cases b with
    | false =>
      refine ⟨h4, _, false, cl_v ?_, e4, ⟨s3.sp.tr (Sp.u (by omega)), ⟨fun q => (by cases q), ?_⟩, fun q => (by cases q)⟩, f3.tr f4⟩
      · show m_ev 115 0 [some (.ref 72), none] [] h = _
        simp only [b115_0, mdF e, Option.bind_some, p8, if_true, b115_3, q3, b01_f, b115_6, fin15]
      · split
        · rename_i hx
          rintro ⟨_, q2⟩
          have := hb.2 ⟨hx, q2⟩
          cases this
        · rintro ⟨q, _⟩; cases q
    | true =>
      obtain ⟨z1, z2⟩ := hb.1 rfl
      obtain ⟨w1, w2⟩ := hb2 rfl
      have t0 := w2 0 (by omega)
      have b0 := hnv z1 0 (by omega)
      have i0 := d_isTold (y := 115) (k := 12) (ls := [some (.ref 72), none]) (r := []) e3 (j := 0) (a := 1) (b := 8) (by omega) (by omega) (by omega) (by omega)
      rw [t0] at i0
      rw [if_pos z1]
      by_cases c0 : 1 ≤ N.2 0 0 ∧ N.2 0 0 ≤ 8
      · rw [decide_eq_true c0] at i0 ⊢
        obtain ⟨h5, q5, e5, f5⟩ := mdW0 e3 27 (N.2 0 0) (by simp)
        refine ⟨h5, _, true, cl_v ?_, e5, ⟨s3.sp.tr (Sp.u (by omega)), ⟨fun _ => ⟨rfl, z2⟩, fun _ => rfl⟩, fun _ => ⟨?_, ?_⟩⟩, f3.tr f5⟩
        · show m_ev 115 0 [some (.ref 72), none] [] h = _
          simp (disch := omega) only [b115_0, mdF e, Option.bind_some, p8, if_true, b115_3, q3, b01_t, b115_6, n1, if_false, b115_7, mdF e3, i0, b115_12, b115_13, b115_20, t0, q5, or_true]
        · have rp3 := rp.sq s3
          obtain ⟨p1, p2, p3, p4, p5, p6, p7, p8, p9, p10, p11⟩ := rp3
          have fl : ∀ j, j ≠ 27 → (uL V3 0 27 (N.2 0 0)) 0 j = V3 0 j := fun j h1 => by rw [uL_k _ _ _ h1]
          have rw' : ∀ q, q ≠ 0 → (uL V3 0 27 (N.2 0 0)) q = V3 q := fun q h1 => by rw [uL_row _ _ _ h1]
          have fL : ∀ j, j ≠ 4 → (uL L 7 4 (N.2 0 0)) 7 j = L 7 j := fun j h1 => by rw [uL_k _ _ _ h1]
          have rL : ∀ q, q ≠ 7 → (uL L 7 4 (N.2 0 0)) q = L q := fun q h1 => by rw [uL_row _ _ _ h1]
          show RP _ (uL L 7 4 (N.2 0 0))
          unfold RP
          rw [fl 22 (by omega), fl 24 (by omega), fl 25 (by omega), fl 26 (by omega), fl 28 (by omega), fl 30 (by omega), fl 21 (by omega), fL 0 (by omega), fL 1 (by omega), fL 2 (by omega), fL 3 (by omega), fL 5 (by omega), fL 6 (by omega), rw' 82 (by omega), rw' 83 (by omega), rw' 84 (by omega), rw' 85 (by omega), rL 0 (by omega), rL 1 (by omega), rL 2 (by omega), rL 3 (by omega), rL 4 (by omega), rL 5 (by omega), rL 6 (by omega)]
          refine ⟨p1, p2, p3, p4, ?_, p6, p7, p8, p9, p10, p11⟩
          rw [uL_s, uL_s]
        · rw [uL_k _ _ _ (by omega)]; exact w1
      · rw [decide_eq_false c0] at i0 ⊢
        refine ⟨h4, _, false, cl_v ?_, e4, ⟨s3.sp.tr (Sp.u (by omega)), ⟨fun q => (by cases q), fun q => (by cases q.1)⟩, fun q => (by cases q)⟩, f3.tr f4⟩
        show m_ev 115 0 [some (.ref 72), none] [] h = _
        simp only [b115_0, mdF e, Option.bind_some, p8, if_true, b115_3, q3, b01_t, b01_f, b115_6, n1, if_false, b115_7, mdF e3, i0, b115_12, fin15]
end
