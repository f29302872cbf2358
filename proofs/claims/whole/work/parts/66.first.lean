/-! the hill at first, as it is told -/
def frW0 (i : Nat) : Nat := [0, 1, 2, 0, 3, 1].getD i 0
def fwW (j i : Nat) : Nat := ([[0, 0, 1, 3], [1, 1, 2, 4], [2, 2, 3, 2], [3, 0, 3, 6], [0, 3, 4, 5], [1, 4, 5, 2], [3, 5, 0, 9]].getD j []).getD i 0
def faW (j i : Nat) : Nat := ([[4, 0], [3, 1], [5, 2]].getD j []).getD i 0
def FS (L : LT) (w a : Nat) : Prop := L 7 0 = 6 ∧ (∀ i, i < 6 → L 0 i = frW0 i) ∧ L 7 1 = 2 ∧ L 7 2 = 5 ∧ L 7 3 = 1 ∧ L 7 4 = 6 ∧ L 7 5 = w ∧ L 7 6 = a ∧ (∀ j, j < w → L 1 j = fwW j 0 ∧ L 2 j = fwW j 1 ∧ L 3 j = fwW j 2 ∧ L 4 j = fwW j 3) ∧ (∀ j, j < a → L 5 j = faW j 0 ∧ L 6 j = faW j 1)
theorem FS.way {L : LT} {w : Nat} (f : FS L w 0) : FS (adY L (fwW w 0) (fwW w 1) (fwW w 2) (fwW w 3)) (w + 1) 0 := by
  obtain ⟨f1, f2, f3, f4, f5, f6, f7, f8, f9, f10⟩ := f
  refine ⟨by simpa [adY, uL] using f1, fun i hi => by simpa [adY, uL] using f2 i hi, by simpa [adY, uL] using f3, by simpa [adY, uL] using f4, by simpa [adY, uL] using f5, by simpa [adY, uL] using f6, by simp [adY, uL, f7], by simpa [adY, uL] using f8, fun j hj => ?_, fun j hj => by omega⟩
  by_cases hjw : j = w
  · subst hjw; simp [adY, uL, f7]
  · have := f9 j (by omega)
    simpa [adY, uL, f7, hjw] using this
theorem FS.ask {L : LT} {a : Nat} (f : FS L 7 a) : FS (adK L (faW a 0) (faW a 1)) 7 (a + 1) := by
  obtain ⟨f1, f2, f3, f4, f5, f6, f7, f8, f9, f10⟩ := f
  refine ⟨by simpa [adK, uL] using f1, fun i hi => by simpa [adK, uL] using f2 i hi, by simpa [adK, uL] using f3, by simpa [adK, uL] using f4, by simpa [adK, uL] using f5, by simpa [adK, uL] using f6, by simpa [adK, uL] using f7, by simp [adK, uL, f8], fun j hj => by have := f9 j hj; simpa [adK, uL] using this, fun j hj => ?_⟩
  by_cases hja : j = a
  · subst hja; simp [adK, uL, f8]
  · have := f10 j (by omega)
    simpa [adK, uL, f8, hja] using this
theorem firT_len : firT 1 0 = 96 := by unfold firT; rw [apN_at]; decide
theorem firT_lt {i : Nat} (hi : i < 96) : ltT firT i = (m_chs 0).getD i 0 := by
  have hl : (m_chs 0).length = 96 := by decide
  unfold ltT
  rw [firT_len, if_pos hi]
  exact apN_c _ (Nat.le_refl _) i (by omega)
theorem firT_e : ltT firT 96 = 0 := by unfold ltT; rw [firT_len]; simp
section
variable {T L C : LT}
theorem np_0 {d p c : Nat} (hp : C 1 0 = p) (h1 : ltT T p = c) (hc : isF c = true) (h2 : isF (ltT T (p + 1)) = false) : numP T (d + 1) 0 C = numP T d 1 (uL (avC C) 0 0 (c - 48)) := by
  have e : sgP 0 C = C := rfl
  rw [numP, if_pos (Or.inl rfl), e, hp, h1, if_pos hc]
  unfold fgP
  rw [hp, h1, h2, if_neg (by simp)]
theorem np_s {d i p c : Nat} (hi : 0 < i) (hp : C 1 0 = p) (h0 : ltT T p = 44) (h1 : ltT T (p + 1) = c) (hc : isF c = true) (h2 : isF (ltT T (p + 2)) = false) : numP T (d + 1) i C = numP T d (i + 1) (uL (avC (avC C)) 0 i (c - 48)) := by
  have e : sgP i C = avC C := by unfold sgP; rw [if_neg (by omega)]
  have ea : (avC C) 1 0 = p + 1 := by rw [avC_at, hp]
  rw [numP, hp, if_pos (Or.inr h0), e, ea, h1, if_pos hc]
  unfold fgP
  rw [ea, h1, show p + 1 + 1 = p + 2 by omega, h2, if_neg (by simp)]
theorem nm1 {p c0 : Nat} (hp : C 1 0 = p) (a0 : ltT T p = c0) (d0 : isF c0 = true) (e0 : isF (ltT T (p + 1)) = false) : ∃ C', numP T 1 0 C = (true, C') ∧ C' 1 0 = p + 1 ∧ C' 0 0 = c0 - 48 := by
  rw [np_0 hp a0 d0 e0]
  exact ⟨_, rfl, by rw [uC_at, avC_at, hp], uL_s _ _ _ _⟩
theorem nm2 {p c0 c1 : Nat} (hp : C 1 0 = p) (a0 : ltT T p = c0) (d0 : isF c0 = true) (k1 : ltT T (p + 1) = 44) (a1 : ltT T (p + 2) = c1) (d1 : isF c1 = true) (e0 : isF (ltT T (p + 3)) = false) : ∃ C', numP T 2 0 C = (true, C') ∧ C' 1 0 = p + 3 ∧ C' 0 0 = c0 - 48 ∧ C' 0 1 = c1 - 48 := by
  rw [np_0 hp a0 d0 (by rw [k1]; decide)]
  rw [np_s (p := p + 1) (c := c1) (by omega) (by rw [uC_at, avC_at, hp]) k1 a1 d1 e0]
  refine ⟨_, rfl, ?_, ?_, ?_⟩
  · rw [uC_at, avC_at, avC_at, uC_at, avC_at, hp]
  · simp [uL, avC]
  · simp [uL, avC]
theorem nm3 {p c0 c1 c2 : Nat} (hp : C 1 0 = p) (a0 : ltT T p = c0) (d0 : isF c0 = true) (k1 : ltT T (p + 1) = 44) (a1 : ltT T (p + 2) = c1) (d1 : isF c1 = true) (k2 : ltT T (p + 3) = 44) (a2 : ltT T (p + 4) = c2) (d2 : isF c2 = true) (e0 : isF (ltT T (p + 5)) = false) : ∃ C', numP T 3 0 C = (true, C') ∧ C' 1 0 = p + 5 ∧ C' 0 0 = c0 - 48 ∧ C' 0 1 = c1 - 48 ∧ C' 0 2 = c2 - 48 := by
  rw [np_0 hp a0 d0 (by rw [k1]; decide)]
  rw [np_s (p := p + 1) (c := c1) (by omega) (by rw [uC_at, avC_at, hp]) k1 a1 d1 (by rw [k2]; decide)]
  rw [np_s (p := p + 3) (c := c2) (by omega) (by rw [uC_at, avC_at, avC_at, uC_at, avC_at, hp]) k2 a2 d2 e0]
  refine ⟨_, rfl, ?_, ?_, ?_, ?_⟩
  · rw [uC_at, avC_at, avC_at, uC_at, avC_at, avC_at, uC_at, avC_at, hp]
  · simp [uL, avC]
  · simp [uL, avC]
  · simp [uL, avC]
theorem nm4 {p c0 c1 c2 c3 : Nat} (hp : C 1 0 = p) (a0 : ltT T p = c0) (d0 : isF c0 = true) (k1 : ltT T (p + 1) = 44) (a1 : ltT T (p + 2) = c1) (d1 : isF c1 = true) (k2 : ltT T (p + 3) = 44) (a2 : ltT T (p + 4) = c2) (d2 : isF c2 = true) (k3 : ltT T (p + 5) = 44) (a3 : ltT T (p + 6) = c3) (d3 : isF c3 = true) (e0 : isF (ltT T (p + 7)) = false) : ∃ C', numP T 4 0 C = (true, C') ∧ C' 1 0 = p + 7 ∧ C' 0 0 = c0 - 48 ∧ C' 0 1 = c1 - 48 ∧ C' 0 2 = c2 - 48 ∧ C' 0 3 = c3 - 48 := by
  rw [np_0 hp a0 d0 (by rw [k1]; decide)]
  rw [np_s (p := p + 1) (c := c1) (by omega) (by rw [uC_at, avC_at, hp]) k1 a1 d1 (by rw [k2]; decide)]
  rw [np_s (p := p + 3) (c := c2) (by omega) (by rw [uC_at, avC_at, avC_at, uC_at, avC_at, hp]) k2 a2 d2 (by rw [k3]; decide)]
  rw [np_s (p := p + 5) (c := c3) (by omega) (by rw [uC_at, avC_at, avC_at, uC_at, avC_at, avC_at, uC_at, avC_at, hp]) k3 a3 d3 e0]
  refine ⟨_, rfl, ?_, ?_, ?_, ?_, ?_⟩
  · rw [uC_at, avC_at, avC_at, uC_at, avC_at, avC_at, uC_at, avC_at, avC_at, uC_at, avC_at, hp]
  · simp [uL, avC]
  · simp [uL, avC]
  · simp [uL, avC]
  · simp [uL, avC]
/-- one item more -/
theorem cop_st {d p c : Nat} {L' C' : LT} (hp : C 1 0 = p) (hl : ¬ T 1 0 ≤ p) (hc : ltT T p = c) (hi : itmP T c L (avC C) = (true, L', C')) (h59 : ltT T (C' 1 0) = 59) : copP T (d + 1) L C = copP T d L' (avC C') := by
  rw [copP, hp, if_neg hl, hc, hi, if_pos rfl, if_pos h59]
theorem itm_w {a0 a1 a2 a3 : Nat} {C' : LT} (hn : numP T 4 0 C = (true, C')) (t0 : C' 0 0 = a0) (t1 : C' 0 1 = a1) (t2 : C' 0 2 = a2) (t3 : C' 0 3 = a3) (h : a0 ≤ 3 ∧ a1 ≠ a2 ∧ a1 < L 7 4 ∧ a2 < L 7 4 ∧ 1 ≤ a3 ∧ a3 ≤ 12) (h10 : L 7 5 < 10) : itmP T 119 L C = (true, adY L a0 a1 a2 a3, C') := by
  unfold itmP
  rw [if_neg (by omega), if_neg (by omega), if_neg (by omega), if_neg (by omega), if_pos rfl]
  unfold wayP
  rw [hn]
  dsimp only
  rw [if_pos ⟨⟨rfl, by rw [t0, t1, t2, t3]; exact h⟩, h10⟩, t0, t1, t2, t3]
theorem itm_a {a0 a1 : Nat} {C' : LT} (hn : numP T 2 0 C = (true, C')) (t0 : C' 0 0 = a0) (t1 : C' 0 1 = a1) (h : a0 < L 7 4 ∧ a1 ≤ 3) (h4 : L 7 6 < 4) : itmP T 97 L C = (true, adK L a0 a1, C') := by
  unfold itmP
  rw [if_pos rfl]
  unfold askP
  rw [hn]
  dsimp only
  rw [if_pos ⟨⟨rfl, by rw [t0, t1]; exact h⟩, h4⟩, t0, t1]
end
def chW0 (j : Nat) : Bool := (m_chs 0).getD (18 + 9 * j) 0 == 119 && (m_chs 0).getD (19 + 9 * j) 0 == fwW j 0 + 48 && (m_chs 0).getD (20 + 9 * j) 0 == 44 && (m_chs 0).getD (21 + 9 * j) 0 == fwW j 1 + 48 && (m_chs 0).getD (22 + 9 * j) 0 == 44 && (m_chs 0).getD (23 + 9 * j) 0 == fwW j 2 + 48 && (m_chs 0).getD (24 + 9 * j) 0 == 44 && (m_chs 0).getD (25 + 9 * j) 0 == fwW j 3 + 48 && (m_chs 0).getD (26 + 9 * j) 0 == 59
theorem chW0_t : ∀ j, j < 7 → chW0 j = true := by decide
theorem fw_t : ∀ j, j < 7 → fwW j 0 ≤ 3 ∧ fwW j 1 ≠ fwW j 2 ∧ fwW j 1 < 6 ∧ fwW j 2 < 6 ∧ 1 ≤ fwW j 3 ∧ fwW j 3 ≤ 9 := by decide
theorem isF_d {n : Nat} (h : n ≤ 9) : isF (n + 48) = true := by unfold isF; rw [decide_eq_true_eq]; omega
theorem ways_st : ∀ (d j : Nat), j + d = 7 → ∀ (f : Nat) (L C : LT), FS L j 0 → C 1 0 = 18 + 9 * j → ∃ L' C', copP firT (f + d) L C = copP firT f L' C' ∧ FS L' 7 0 ∧ C' 1 0 = 81 := by
  intro d
  induction d with
  | zero =>
    intro j hj f L C fs hC
    obtain rfl : j = 7 := by omega
    exact ⟨L, C, rfl, fs, by omega⟩
  | succ d ih =>
    intro j hj f L C fs hC
    have hch := chW0_t j (by omega)
    unfold chW0 at hch
    simp only [Bool.and_eq_true, beq_iff_eq] at hch
    obtain ⟨⟨⟨⟨⟨⟨⟨⟨g0, g1⟩, g2⟩, g3⟩, g4⟩, g5⟩, g6⟩, g7⟩, g8⟩ := hch
    obtain ⟨q0, q1, q2, q3, q4, q5⟩ := fw_t j (by omega)
    have l : ∀ i, i < 96 → ltT firT i = (m_chs 0).getD i 0 := fun i hi => firT_lt hi
    have ca : (avC C) 1 0 = 19 + 9 * j := by rw [avC_at, hC]; omega
    obtain ⟨C', hn, hat, t0, t1, t2, t3⟩ := nm4 (T := firT) (C := avC C) (p := 19 + 9 * j) ca (by rw [l _ (by omega)]; exact g1) (isF_d (by omega)) (by rw [l _ (by omega), show 19 + 9 * j + 1 = 20 + 9 * j by omega]; exact g2) (by rw [l _ (by omega), show 19 + 9 * j + 2 = 21 + 9 * j by omega]; exact g3) (isF_d (by omega)) (by rw [l _ (by omega), show 19 + 9 * j + 3 = 22 + 9 * j by omega]; exact g4) (by rw [l _ (by omega), show 19 + 9 * j + 4 = 23 + 9 * j by omega]; exact g5) (isF_d (by omega)) (by rw [l _ (by omega), show 19 + 9 * j + 5 = 24 + 9 * j by omega]; exact g6) (by rw [l _ (by omega), show 19 + 9 * j + 6 = 25 + 9 * j by omega]; exact g7) (isF_d (by omega)) (by rw [l _ (by omega), show 19 + 9 * j + 7 = 26 + 9 * j by omega, g8]; decide)
    rw [Nat.add_sub_cancel] at t0 t1 t2 t3
    have l4 : L 7 4 = 6 := fs.2.2.2.2.2.1
    have l5 : L 7 5 = j := fs.2.2.2.2.2.2.1
    have hi := itm_w (L := L) hn t0 t1 t2 t3 (by rw [l4]; omega) (by omega)
    have hst := cop_st (T := firT) (d := f + d) (p := 18 + 9 * j) hC (by rw [firT_len]; omega) (by rw [l _ (by omega)]; exact g0) hi (by rw [hat, l _ (by omega), show 19 + 9 * j + 7 = 26 + 9 * j by omega]; exact g8)
    obtain ⟨L2, C2, e2, fs2, at2⟩ := ih (j + 1) (by omega) f _ (avC C') fs.way (by rw [avC_at, hat]; omega)
    exact ⟨L2, C2, by rw [show f + (d + 1) = f + d + 1 by omega, hst, e2], fs2, at2⟩
def chA0 (j : Nat) : Bool := (m_chs 0).getD (81 + 5 * j) 0 == 97 && (m_chs 0).getD (82 + 5 * j) 0 == faW j 0 + 48 && (m_chs 0).getD (83 + 5 * j) 0 == 44 && (m_chs 0).getD (84 + 5 * j) 0 == faW j 1 + 48 && (m_chs 0).getD (85 + 5 * j) 0 == 59
theorem chA0_t : ∀ j, j < 3 → chA0 j = true := by decide
theorem fa_t : ∀ j, j < 3 → faW j 0 < 6 ∧ faW j 1 ≤ 3 := by decide
theorem asks_st : ∀ (d j : Nat), j + d = 3 → ∀ (f : Nat) (L C : LT), FS L 7 j → C 1 0 = 81 + 5 * j → ∃ L' C', copP firT (f + d) L C = copP firT f L' C' ∧ FS L' 7 3 ∧ C' 1 0 = 96 := by
  intro d
  induction d with
  | zero =>
    intro j hj f L C fs hC
    obtain rfl : j = 3 := by omega
    exact ⟨L, C, rfl, fs, by omega⟩
  | succ d ih =>
    intro j hj f L C fs hC
    have hch := chA0_t j (by omega)
    unfold chA0 at hch
    simp only [Bool.and_eq_true, beq_iff_eq] at hch
    obtain ⟨⟨⟨⟨g0, g1⟩, g2⟩, g3⟩, g4⟩ := hch
    obtain ⟨q0, q1⟩ := fa_t j (by omega)
    have l : ∀ i, i < 96 → ltT firT i = (m_chs 0).getD i 0 := fun i hi => firT_lt hi
    have ca : (avC C) 1 0 = 82 + 5 * j := by rw [avC_at, hC]; omega
    obtain ⟨C', hn, hat, t0, t1⟩ := nm2 (T := firT) (C := avC C) (p := 82 + 5 * j) ca (by rw [l _ (by omega)]; exact g1) (isF_d (by omega)) (by rw [l _ (by omega), show 82 + 5 * j + 1 = 83 + 5 * j by omega]; exact g2) (by rw [l _ (by omega), show 82 + 5 * j + 2 = 84 + 5 * j by omega]; exact g3) (isF_d (by omega)) (by rw [l _ (by omega), show 82 + 5 * j + 3 = 85 + 5 * j by omega, g4]; decide)
    rw [Nat.add_sub_cancel] at t0 t1
    have l4 : L 7 4 = 6 := fs.2.2.2.2.2.1
    have l6 : L 7 6 = j := fs.2.2.2.2.2.2.2.1
    have hi := itm_a (L := L) hn t0 t1 (by rw [l4]; omega) (by omega)
    have hst := cop_st (T := firT) (d := f + d) (p := 81 + 5 * j) hC (by rw [firT_len]; omega) (by rw [l _ (by omega)]; exact g0) hi (by rw [hat, l _ (by omega), show 82 + 5 * j + 3 = 85 + 5 * j by omega]; exact g4)
    obtain ⟨L2, C2, e2, fs2, at2⟩ := ih (j + 1) (by omega) f _ (avC C') fs.ask (by rw [avC_at, hat]; omega)
    exact ⟨L2, C2, by rw [show f + (d + 1) = f + d + 1 by omega, hst, e2], fs2, at2⟩
/-- a ring under way: nothing else told yet -/
def FR (L : LT) (i : Nat) : Prop := L 7 0 = i ∧ (∀ j, j < i → L 0 j = frW0 j) ∧ L 7 4 = 4 ∧ L 7 5 = 0 ∧ L 7 6 = 0
theorem wi_t : ∀ j, j < 6 → wiN ((m_chs 0).getD (1 + j) 0) = some (frW0 j) := by decide
theorem rings_st : ∀ (d i : Nat), i + d = 6 → ∀ (f : Nat) (L C : LT), FR L i → C 1 0 = 1 + i → ∃ L' C', rngP firT (f + d) L C = rngP firT f L' C' ∧ FR L' 6 ∧ C' 1 0 = 7 := by
  intro d
  induction d with
  | zero =>
    intro i hi f L C fr hC
    obtain rfl : i = 6 := by omega
    exact ⟨L, C, rfl, fr, by omega⟩
  | succ d ih =>
    intro i hi f L C fr hC
    obtain ⟨r0, r1, r2, r3, r4⟩ := fr
    have hw := wi_t i (by omega)
    have hs : rngP firT (f + d + 1) L C = rngP firT (f + d) (adW L (frW0 i)) (avC C) := by
      rw [rngP, hC, firT_lt (by omega), hw]
    obtain ⟨L2, C2, e2, fs2, at2⟩ := ih (i + 1) (by omega) f (adW L (frW0 i)) (avC C) ⟨by simp [adW, uL, r0], fun j hj => by
      by_cases hji : j = i
      · subst hji; simp [adW, uL, r0]
      · have := r1 j (by omega)
        simpa [adW, uL, r0, hji] using this, by simpa [adW, uL] using r2, by simpa [adW, uL] using r3, by simpa [adW, uL] using r4⟩ (by rw [avC_at, hC]; omega)
    exact ⟨L2, C2, by rw [show f + (d + 1) = f + d + 1 by omega, hs, e2], fs2, at2⟩
theorem fir_FS : (cop0 firT zL zL).1 = none ∧ FS (cop0 firT zL zL).2.1 7 3 := by
  have l : ∀ i, i < 96 → ltT firT i = (m_chs 0).getD i 0 := fun i hi => firT_lt hi
  have c0 : (uL zL 1 0 0) 1 0 = 0 := uL_s _ _ _ _
  -- the ring
  obtain ⟨L1, C1, e1, fr1, at1⟩ := rings_st 6 0 rfl 6 (uL (clL zL) 7 0 0) (avC (uL zL 1 0 0)) ⟨uL_s _ _ _ _, fun j hj => by omega, by simp [clL, adW, uL], by simp [clL, adW, uL], by simp [clL, adW, uL]⟩ (by rw [avC_at, c0])
  have e1' : rngP firT 12 (uL (clL zL) 7 0 0) (avC (uL zL 1 0 0)) = (L1, C1) := by
    rw [show (12 : Nat) = 6 + 6 from rfl, e1]
    show rngP firT (5 + 1) L1 C1 = _
    rw [rngP, at1, l 7 (by omega)]
    rfl
  have i1 : itmP firT 114 (clL zL) (avC (uL zL 1 0 0)) = (true, L1, C1) := by
    unfold itmP
    rw [if_neg (by omega), if_neg (by omega), if_pos rfl]
    unfold rinP
    rw [e1']
    have : L1 7 0 = 6 := fr1.1
    simp [this]
  have s1 := cop_st (T := firT) (d := 199) (p := 0) c0 (by rw [firT_len]; omega) (by rw [l 0 (by omega)]; rfl) i1 (by rw [at1, l 7 (by omega)]; rfl)
  -- the law
  obtain ⟨C2, n2, at2, t20, t21, t22⟩ := nm3 (T := firT) (C := avC (avC C1)) (p := 9) (c0 := 50) (c1 := 53) (c2 := 49) (by rw [avC_at, avC_at, at1]) (by rw [l 9 (by omega)]; rfl) (by decide) (by rw [l _ (by omega)]; rfl) (by rw [l _ (by omega)]; rfl) (by decide) (by rw [l _ (by omega)]; rfl) (by rw [l _ (by omega)]; rfl) (by decide) (by rw [l _ (by omega)]; decide)
  have i2 : itmP firT 115 L1 (avC (avC C1)) = (true, uL (uL (uL L1 7 1 2) 7 2 5) 7 3 1, C2) := by
    unfold itmP
    rw [if_neg (by omega), if_neg (by omega), if_neg (by omega), if_pos rfl]
    unfold lawP
    rw [n2]
    dsimp only
    rw [if_pos ⟨rfl, by rw [t20]; decide, by rw [t22]; decide, by rw [t21]; decide, by rw [t21]; decide⟩, t20, t21, t22]
  have s2 := cop_st (T := firT) (d := 198) (p := 8) (by rw [avC_at, at1]) (by rw [firT_len]; omega) (by rw [l 8 (by omega)]; rfl) i2 (by rw [at2, l _ (by omega)]; rfl)
  -- the places
  obtain ⟨C3, n3, at3, t30⟩ := nm1 (T := firT) (C := avC (avC C2)) (p := 16) (c0 := 54) (by rw [avC_at, avC_at, at2]) (by rw [l 16 (by omega)]; rfl) (by decide) (by rw [l _ (by omega)]; decide)
  obtain ⟨g0, g1, g2, g3, g4⟩ := fr1
  have i3 : itmP firT 104 (uL (uL (uL L1 7 1 2) 7 2 5) 7 3 1) (avC (avC C2)) = (true, uL (uL (uL (uL L1 7 1 2) 7 2 5) 7 3 1) 7 4 6, C3) := by
    unfold itmP
    rw [if_neg (by omega), if_pos rfl]
    unfold plaP
    have h5 : (uL (uL (uL L1 7 1 2) 7 2 5) 7 3 1) 7 5 = 0 := by simpa [uL] using g3
    have h6 : (uL (uL (uL L1 7 1 2) 7 2 5) 7 3 1) 7 6 = 0 := by simpa [uL] using g4
    rw [h5, h6, if_neg (by omega), n3]
    dsimp only
    have t30' : C3 0 0 = 6 := t30
    rw [if_pos rfl]
    simp only [t30']
    rfl
  have s3 := cop_st (T := firT) (d := 197) (p := 15) (by rw [avC_at, at2]) (by rw [firT_len]; omega) (by rw [l 15 (by omega)]; rfl) i3 (by rw [at3, l _ (by omega)]; rfl)
  have fs3 : FS (uL (uL (uL (uL L1 7 1 2) 7 2 5) 7 3 1) 7 4 6) 0 0 := by
    refine ⟨by simpa [uL] using g0, fun i hi => by simpa [uL] using g1 i hi, by simp [uL], by simp [uL], by simp [uL], by simp [uL], by simpa [uL] using g3, by simpa [uL] using g4, fun j hj => by omega, fun j hj => by omega⟩
  obtain ⟨L4, C4, e4, fs4, at4⟩ := ways_st 7 0 rfl 190 _ (avC C3) fs3 (by rw [avC_at, at3])
  obtain ⟨L5, C5, e5, fs5, at5⟩ := asks_st 3 0 rfl 187 L4 C4 fs4 at4
  have fin : cop0 firT zL zL = (none, L5, C5) := by
    unfold cop0
    rw [s1, s2, s3]
    have : copP firT 197 (uL (uL (uL (uL L1 7 1 2) 7 2 5) 7 3 1) 7 4 6) (avC C3) = copP firT 190 L4 C4 := e4
    rw [this]
    have : copP firT 190 L4 C4 = copP firT 187 L5 C5 := e5
    rw [this]
    show copP firT (186 + 1) L5 C5 = _
    rw [copP, firT_len, at5, if_pos (Nat.le_refl _)]
  rw [fin]
  exact ⟨rfl, fs5⟩
