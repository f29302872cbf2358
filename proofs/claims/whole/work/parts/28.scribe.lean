/-! a whole text -/
section
variable {y k : Nat} {ls : ML} {r : List Value} {h : MH} {g m a t : Nat} {L M T C : LT}
theorem b01_01 (b : Bool) : nI (b01 b) = nI 0 ∨ nI (b01 b) = nI 1 := by cases b; exact Or.inl rfl; exact Or.inr rfl
theorem rng_at (T : LT) : ∀ (d : Nat) (L C : LT), (rngP T d L C).2 1 0 ≤ C 1 0 + d := by
  intro d
  induction d with
  | zero => intro L C; simp [rngP]
  | succ d ih =>
    intro L C
    unfold rngP
    split
    · show C 1 0 ≤ _; omega
    · rename_i w _
      have := ih (adW L w) (avC C)
      rw [avC_at] at this
      omega
theorem itm_at (T : LT) (c : Nat) (L C : LT) : (itmP T c L C).2.2 1 0 ≤ C 1 0 + 12 := by
  have n1 := num_at T 1 0 C
  have n2 := num_at T 2 0 C
  have n3 := num_at T 3 0 C
  have n4 := num_at T 4 0 C
  have n5 := rng_at T 12 (uL L 7 0 0) C
  unfold itmP
  split
  · unfold askP; split <;> (dsimp only; omega)
  · split
    · unfold plaP; split
      · dsimp only; omega
      · split <;> (dsimp only; omega)
    · split
      · unfold rinP; dsimp only; omega
      · split
        · unfold lawP; split <;> (dsimp only; omega)
        · split
          · unfold wayP; split <;> (dsimp only; omega)
          · dsimp only; omega
theorem c_copyItem (e : ScA h a t C) (f : TxA h t T) (u : HiA h g L) (wf : WfH L) (wt : WfT T) (ha : t + 2 ≤ a ∨ a + 2 ≤ t) (hg : g + 8 ≤ a ∨ a + 2 ≤ g) (hg2 : g + 8 ≤ t ∨ t + 2 ≤ g) (hC : C 1 0 < 2 ^ 28) {c : Nat} (hc : c < 128) : ∃ h', m_call m_ev 38 y k [.ref a, .int (nI c), .ref g] ls r h = m_ev y k ls (.int (nI (b01 (itmP T c L C).1)) :: r) h' ∧ ScA h' a t (itmP T c L C).2.2 ∧ HiA h' g (itmP T c L C).2.1 ∧ Fr2 a (a + 2) g (g + 8) h h' := by
  unfold itmP
  by_cases c1 : c = 97
  · obtain ⟨h1, q1, e1, u1, f1⟩ := c_copyAsker (y := 38) (k := 21) (ls := [some (.ref a), some (.int (nI c)), some (.ref g)]) (r := []) e f u wf wt ha hg hC
    rw [if_pos c1]
    refine ⟨h1, cl_v ?_, e1, u1, f1⟩
    show m_ev 38 0 [some (.ref a), some (.int (nI c)), some (.ref g)] [] h = _
    simp (disch := omega) only [b38_0, nI_eq, c1, if_true, b38_18, scF e]
    subst c1
    rw [q1, b38_21, if_pos (b01_01 _)]
  · rw [if_neg c1]
    by_cases c2 : c = 104
    · obtain ⟨h1, q1, e1, u1, f1⟩ := c_copyPlaces (y := 38) (k := 13) (ls := [some (.ref a), some (.int (nI c)), some (.ref g)]) (r := []) e f u wf wt ha hg hC
      rw [if_pos c2]
      refine ⟨h1, cl_v ?_, e1, u1, f1⟩
      show m_ev 38 0 [some (.ref a), some (.int (nI c)), some (.ref g)] [] h = _
      simp (disch := omega) only [b38_0, nI_eq, if_neg c1, if_pos c2, if_true, b38_10, scF e]
      rw [q1, b38_13, if_pos (b01_01 _)]
    · rw [if_neg c2]
      by_cases c3 : c = 114
      · obtain ⟨h1, q1, e1, u1, f1⟩ := c_copyRing (y := 38) (k := 5) (ls := [some (.ref a), some (.int (nI c)), some (.ref g)]) (r := []) e f u wt ha hg hg2 hC
        rw [if_pos c3]
        refine ⟨h1, cl_v ?_, e1, u1, f1⟩
        show m_ev 38 0 [some (.ref a), some (.int (nI c)), some (.ref g)] [] h = _
        simp (disch := omega) only [b38_0, nI_eq, if_neg c1, if_neg c2, if_pos c3, if_true, b38_2, scF e]
        rw [q1, b38_5, if_pos (b01_01 _)]
      · rw [if_neg c3]
        by_cases c4 : c = 115
        · obtain ⟨h1, q1, e1, u1, f1⟩ := c_copyLaw (y := 38) (k := 9) (ls := [some (.ref a), some (.int (nI c)), some (.ref g)]) (r := []) e f u wt ha hg hC
          rw [if_pos c4]
          refine ⟨h1, cl_v ?_, e1, u1, f1⟩
          show m_ev 38 0 [some (.ref a), some (.int (nI c)), some (.ref g)] [] h = _
          simp (disch := omega) only [b38_0, nI_eq, if_neg c1, if_neg c2, if_neg c3, if_pos c4, if_true, b38_6, scF e]
          rw [q1, b38_9, if_pos (b01_01 _)]
        · rw [if_neg c4]
          by_cases c5 : c = 119
          · obtain ⟨h1, q1, e1, u1, f1⟩ := c_copyWay (y := 38) (k := 17) (ls := [some (.ref a), some (.int (nI c)), some (.ref g)]) (r := []) e f u wf wt ha hg hC
            rw [if_pos c5]
            refine ⟨h1, cl_v ?_, e1, u1, f1⟩
            show m_ev 38 0 [some (.ref a), some (.int (nI c)), some (.ref g)] [] h = _
            simp (disch := omega) only [b38_0, nI_eq, if_neg c1, if_neg c2, if_neg c3, if_neg c4, if_pos c5, if_true, b38_14, scF e]
            rw [q1, b38_17, if_pos (b01_01 _)]
          · rw [if_neg c5]
            refine ⟨h, cl_v ?_, e, u, Fr2.rf _ _ _ _ _⟩
            show m_ev 38 0 [some (.ref a), some (.int (nI c)), some (.ref g)] [] h = _
            simp (disch := omega) only [b38_0, nI_eq, if_neg c1, if_neg c2, if_neg c3, if_neg c4, if_neg c5, b38_22, b01_f]
-- a hill stays well formed
theorem clL_wf (L : LT) : WfH (clL L) := by
  unfold WfH clL adW
  simp [uL]
  intro i hi
  rcases (show i = 0 ∨ i = 1 by omega) with rfl | rfl <;> simp
theorem rng_wf (T : LT) : ∀ (d : Nat) (L C : LT), L 7 0 + d ≤ 12 → (∀ i, i < L 7 0 → L 0 i < 4) → (rngP T d L C).1 7 0 ≤ 12 ∧ (∀ i, i < (rngP T d L C).1 7 0 → (rngP T d L C).1 0 i < 4) ∧ (∀ r, 1 ≤ r → r ≤ 6 → (rngP T d L C).1 r = L r) ∧ ∀ i, 1 ≤ i → (rngP T d L C).1 7 i = L 7 i := by
  intro d
  induction d with
  | zero => intro L C h1 h2; exact ⟨by simpa [rngP] using h1, by simpa [rngP] using h2, fun _ _ _ => rfl, fun _ _ => rfl⟩
  | succ d ih =>
    intro L C h1 h2
    unfold rngP
    split
    · exact ⟨by show L 7 0 ≤ 12; omega, h2, fun _ _ _ => rfl, fun _ _ => rfl⟩
    · rename_i w hw
      have hw4 := wiN_lt hw
      have a0 : (adW L w) 7 0 = L 7 0 + 1 := uL_s _ _ _ _
      obtain ⟨i1, i2, i3, i4⟩ := ih (adW L w) (avC C) (by rw [a0]; omega) (by
        intro i hi
        rw [a0] at hi
        unfold adW
        rw [uL_r _ _ _ _ (by omega)]
        by_cases hil : i = L 7 0
        · subst hil; rw [uL_s]; exact hw4
        · rw [uL_k _ _ _ hil]; exact h2 i (by omega))
      refine ⟨i1, i2, ?_, ?_⟩
      · intro q q1 q2
        rw [i3 q q1 q2]
        funext i
        unfold adW
        rw [uL_r _ _ _ _ (by omega), uL_r _ _ _ _ (by omega)]
      · intro i hi
        rw [i4 i hi]
        unfold adW
        rw [uL_k _ _ _ (by omega), uL_r _ _ _ _ (by omega)]
theorem itm_wf (T : LT) (c : Nat) (wf : WfH L) (h1 : (itmP T c L C).1 = true) : WfH (itmP T c L C).2.1 := by
  obtain ⟨w1, w2, w3, w4, w5, w6, w7, w8, w9, w10, w11, w12, w13⟩ := wf
  revert h1
  unfold itmP
  split
  · unfold askP
    split
    · rename_i hq
      obtain ⟨⟨p0, p1, p2⟩, p3⟩ := hq
      intro _
      generalize numP T 2 0 C = p at *
      dsimp only
      refine ⟨?_, ?_, ?_, ?_, ?_, ?_, ?_, ?_, ?_, ?_, ?_, ?_, ?_⟩ <;> simp (disch := omega) only [adK, uL_k, uL_r, uL_s] <;> first | assumption | omega | skip
      intro b hb
      by_cases hba : b = L 7 6
      · subst hba; simp [uL]; omega
      · have := w13 b (by omega)
        simpa [uL, hba] using this
    · intro q; cases q
  · split
    · unfold plaP
      split
      · intro q; cases q
      · rename_i hn
        split
        · intro q
          have q' := of_decide_eq_true q
          generalize numP T 1 0 C = p at *
          have n5 : L 7 5 = 0 := by omega
          have n6 : L 7 6 = 0 := by omega
          dsimp only
          refine ⟨?_, ?_, ?_, ?_, ?_, ?_, ?_, ?_, ?_, ?_, ?_, ?_, ?_⟩ <;> simp (disch := omega) only [uL_k, uL_r, uL_s] <;> first | assumption | omega | (intro b hb; omega)
        · intro q; cases q
    · split
      · unfold rinP
        intro q
        have q' := of_decide_eq_true q
        obtain ⟨r1, r2, r3, r4⟩ := rng_wf T 12 (uL L 7 0 0) C (by rw [uL_s]; omega) (by rw [uL_s]; intro i hi; omega)
        have r4' : ∀ i, 1 ≤ i → (rngP T 12 (uL L 7 0 0) C).1 7 i = L 7 i := fun i hi => by rw [r4 i hi, uL_k _ _ _ (by omega)]
        have r3' : ∀ q, 1 ≤ q → q ≤ 6 → (rngP T 12 (uL L 7 0 0) C).1 q = L q := fun q h1 h2 => by rw [r3 q h1 h2]; funext i; exact uL_r _ _ _ _ (by omega)
        dsimp only
        refine ⟨q', r1, r2, ?_, ?_, ?_, ?_, ?_, ?_, ?_, ?_, ?_, ?_⟩ <;> simp (disch := omega) only [r4', r3'] <;> assumption
      · split
        · unfold lawP
          split
          · rename_i hq
            obtain ⟨p0, p1, p2, p3, p4⟩ := hq
            intro _
            generalize numP T 3 0 C = p at *
            dsimp only
            refine ⟨?_, ?_, ?_, ?_, ?_, ?_, ?_, ?_, ?_, ?_, ?_, ?_, ?_⟩ <;> simp (disch := omega) only [uL_k, uL_r, uL_s] <;> first | assumption | omega
          · intro q; cases q
        · split
          · unfold wayP
            split
            · rename_i hq
              obtain ⟨⟨p0, p1, p2, p3, p4, p5, p6⟩, p7⟩ := hq
              intro _
              generalize numP T 4 0 C = p at *
              dsimp only
              refine ⟨?_, ?_, ?_, ?_, ?_, ?_, ?_, ?_, ?_, ?_, ?_, ?_, ?_⟩ <;> simp (disch := omega) only [adY, uL_k, uL_r, uL_s] <;> first | assumption | omega | skip
              intro b hb
              by_cases hba : b = L 7 5
              · subst hba; simp [uL]; omega
              · have := w11 b (by omega)
                simpa [uL, hba] using this
            · intro q; cases q
          · intro q; cases q
end
