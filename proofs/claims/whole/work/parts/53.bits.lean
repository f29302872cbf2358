/-! the class's bits: who can be where -/
section
variable {L M : LT} {hour : Nat} {A B : Nat → Nat}
theorem mkB_bit (B : Nat → Nat) (t p who i b : Nat) : ((mkB B t p who i).testBit b = true) ↔ ((B i).testBit b = true ∨ (t ≤ 99 ∧ i = t * 8 + p ∧ who.testBit b = true)) := by
  unfold mkB
  by_cases h : t ≤ 99 ∧ i = t * 8 + p
  · rw [if_pos h, Nat.testBit_or, Bool.or_eq_true]
    constructor
    · rintro (a | a)
      · exact Or.inl a
      · exact Or.inr ⟨h.1, h.2, a⟩
    · rintro (a | ⟨_, _, a⟩)
      · exact Or.inl a
      · exact Or.inr a
  · rw [if_neg h]
    constructor
    · intro a; exact Or.inl a
    · rintro (a | ⟨a1, a2, _⟩)
      · exact a
      · exact absurd ⟨a1, a2⟩ h
theorem swB_bit {ho wd t p who : Nat} (B : Nat → Nat) (i b : Nat) : ∀ w, ((swB L ho wd t p who B w i).testBit b = true) ↔ ((B i).testBit b = true ∨ ∃ w' q d, w' < w ∧ otL L w' p = some q ∧ hoL L w' ho wd = some d ∧ t + d ≤ 99 ∧ i = (t + d) * 8 + q ∧ who.testBit b = true) := by
  intro w
  induction w with
  | zero =>
    constructor
    · intro a; exact Or.inl a
    · rintro (a | ⟨_, _, _, a, _⟩)
      · exact a
      · omega
  | succ w ih =>
    have keep : (∀ q d, otL L w p = some q → hoL L w ho wd = some d → False) → (((swB L ho wd t p who B w i).testBit b = true) ↔ ((B i).testBit b = true ∨ ∃ w' q d, w' < w + 1 ∧ otL L w' p = some q ∧ hoL L w' ho wd = some d ∧ t + d ≤ 99 ∧ i = (t + d) * 8 + q ∧ who.testBit b = true)) := by
      intro hno
      rw [ih]
      constructor
      · rintro (a | ⟨w', q, d, a1, a2⟩)
        · exact Or.inl a
        · exact Or.inr ⟨w', q, d, by omega, a2⟩
      · rintro (a | ⟨w', q, d, a1, a2, a3, a4⟩)
        · exact Or.inl a
        · by_cases hw : w' = w
          · subst hw; exact (hno q d a2 a3).elim
          · exact Or.inr ⟨w', q, d, by omega, a2, a3, a4⟩
    unfold swB
    cases hot : otL L w p with
    | none => exact keep (fun q d a _ => by rw [hot] at a; cases a)
    | some q =>
      cases hho : hoL L w ho wd with
      | none => exact keep (fun q d _ a => by rw [hho] at a; cases a)
      | some d =>
        show ((mkB (swB L ho wd t p who B w) (t + d) q who i).testBit b = true) ↔ _
        rw [mkB_bit, ih]
        constructor
        · rintro ((a | ⟨w', q', d', a1, a2⟩) | ⟨a1, a2, a3⟩)
          · exact Or.inl a
          · exact Or.inr ⟨w', q', d', by omega, a2⟩
          · exact Or.inr ⟨w, q, d, by omega, hot, hho, a1, a2, a3⟩
        · rintro (a | ⟨w', q', d', a1, a2, a3, a4⟩)
          · exact Or.inl (Or.inl a)
          · by_cases hw : w' = w
            · subst hw
              rw [hot] at a2
              rw [hho] at a3
              cases a2
              cases a3
              exact Or.inr a4
            · exact Or.inl (Or.inr ⟨w', q', d', by omega, a2, a3, a4⟩)
theorem mkB_lo {t p who i : Nat} (B : Nat → Nat) (h : i < t * 8) : mkB B t p who i = B i := by
  unfold mkB; rw [if_neg (by rintro ⟨_, q⟩; omega)]
theorem swB_lo (wf : WfH L) {ho wd t p who i : Nat} (B : Nat → Nat) (h : i < (t + 1) * 8) : ∀ w, w ≤ L 7 5 → swB L ho wd t p who B w i = B i := by
  intro w
  induction w with
  | zero => intro _; rfl
  | succ w ih =>
    intro hw
    unfold swB
    cases hot : otL L w p with
    | none => exact ih (by omega)
    | some q =>
      cases hho : hoL L w ho wd with
      | none => exact ih (by omega)
      | some d =>
        have := (hoL_lt wf (show w < L 7 5 by omega) hho).1
        show mkB (swB L ho wd t p who B w) (t + d) q who i = B i
        rw [mkB_lo _ (by omega)]
        exact ih (by omega)
theorem spB_lo (wf : WfH L) {ho wd t i : Nat} (B : Nat → Nat) (h : i < (t + 1) * 8) : ∀ p, spB L ho wd t B p i = B i := by
  intro p
  induction p with
  | zero => rfl
  | succ p ih =>
    unfold spB
    split
    · exact ih
    · rw [swB_lo wf _ h _ (Nat.le_refl _), mkB_lo _ h]
      exact ih
theorem spB_bit (wf : WfH L) {ho wd t : Nat} (B : Nat → Nat) (i b : Nat) : ∀ p, p ≤ 8 → (((spB L ho wd t B p i).testBit b = true) ↔ ((B i).testBit b = true ∨ ∃ p', p' < p ∧ (B (t * 8 + p')).testBit b = true ∧ ((t + 1 ≤ 99 ∧ i = (t + 1) * 8 + p') ∨ ∃ w' q d, w' < L 7 5 ∧ otL L w' p' = some q ∧ hoL L w' ho wd = some d ∧ t + d ≤ 99 ∧ i = (t + d) * 8 + q))) := by
  intro p
  induction p with
  | zero =>
    intro _
    constructor
    · intro a; exact Or.inl a
    · rintro (a | ⟨_, a, _⟩)
      · exact a
      · omega
  | succ p ih =>
    intro hp
    have ih := ih (by omega)
    have hlo : spB L ho wd t B p (t * 8 + p) = B (t * 8 + p) := spB_lo wf B (by omega) p
    unfold spB
    rw [hlo]
    split
    · rename_i hz
      rw [ih]
      constructor
      · rintro (a | ⟨p', a1, a2⟩)
        · exact Or.inl a
        · exact Or.inr ⟨p', by omega, a2⟩
      · rintro (a | ⟨p', a1, a2, a3⟩)
        · exact Or.inl a
        · by_cases hpp : p' = p
          · subst hpp; rw [hz, Nat.zero_testBit] at a2; cases a2
          · exact Or.inr ⟨p', by omega, a2, a3⟩
    · rw [swB_bit, mkB_bit, ih]
      constructor
      · rintro (((a | ⟨p', a1, a2⟩) | ⟨a1, a2, a3⟩) | ⟨w', q, d, a1, a2, a3, a4, a5, a6⟩)
        · exact Or.inl a
        · exact Or.inr ⟨p', by omega, a2⟩
        · exact Or.inr ⟨p, by omega, a3, Or.inl ⟨a1, a2⟩⟩
        · exact Or.inr ⟨p, by omega, a6, Or.inr ⟨w', q, d, a1, a2, a3, a4, a5⟩⟩
      · rintro (a | ⟨p', a1, a2, a3⟩)
        · exact Or.inl (Or.inl (Or.inl a))
        · by_cases hpp : p' = p
          · subst hpp
            rcases a3 with ⟨b1, b2⟩ | ⟨w', q, d, b1, b2, b3, b4, b5⟩
            · exact Or.inl (Or.inr ⟨b1, b2, a2⟩)
            · exact Or.inr ⟨w', q, d, b1, b2, b3, b4, b5, a2⟩
          · exact Or.inl (Or.inl (Or.inr ⟨p', by omega, a2, a3⟩))
-- the relation
theorem rcF_p (wf : WfH L) {I : Nat → Nat → Prop} (hI : ∀ t p, I t p → p < L 7 4) : ∀ n t p, rcF L hour A I n t p → p < L 7 4 := by
  intro n
  induction n with
  | zero => exact hI
  | succ n ih =>
    intro t p h
    unfold rcF at h
    rcases h with a | ⟨_, (⟨_, a⟩ | ⟨w, q, d, a1, a2, a3, a4, a5⟩)⟩
    · exact ih _ _ a
    · exact ih _ _ a
    · exact otL_lt wf a1 a3
theorem rcF_up {I : Nat → Nat → Prop} {n t p : Nat} (h : rcF L hour A I n t p) : ∀ m, n ≤ m → rcF L hour A I m t p := by
  intro m
  induction m with
  | zero => intro hm; obtain rfl : n = 0 := (by omega); exact h
  | succ m ih =>
    intro hm
    by_cases hn : n = m + 1
    · subst hn; exact h
    · exact Or.inl (ih (by omega))
theorem rcF_dn (wf : WfH L) {I : Nat → Nat → Prop} {t p n : Nat} (hn : t ≤ n) : ∀ m, n ≤ m → rcF L hour A I m t p → rcF L hour A I n t p := by
  intro m
  induction m with
  | zero => intro hm h; obtain rfl : n = 0 := (by omega); exact h
  | succ m ih =>
    intro hm h
    by_cases hnm : n = m + 1
    · subst hnm; exact h
    · unfold rcF at h
      rcases h with a | ⟨_, (⟨a, _⟩ | ⟨w, q, d, a1, a2, a3, a4, a5, _⟩)⟩
      · exact ih (by omega) a
      · omega
      · have := (hoL_lt wf a1 a4).1
        omega
theorem rcF_mono {I J : Nat → Nat → Prop} (hIJ : ∀ t p, I t p → J t p) : ∀ n t p, rcF L hour A I n t p → rcF L hour A J n t p := by
  intro n
  induction n with
  | zero => exact hIJ
  | succ n ih =>
    intro t p h
    unfold rcF at h ⊢
    rcases h with a | ⟨a0, (⟨a1, a⟩ | ⟨w, q, d, a1, a2, a3, a4, a5, a6⟩)⟩
    · exact Or.inl (ih _ _ a)
    · exact Or.inr ⟨a0, Or.inl ⟨a1, ih _ _ a⟩⟩
    · exact Or.inr ⟨a0, Or.inr ⟨w, q, d, a1, a2, a3, a4, a5, ih _ _ a6⟩⟩
theorem rcF_cg {A' : Nat → Nat} {I : Nat → Nat → Prop} : ∀ n, (∀ j, j < n → A j = A' j) → ∀ t p, rcF L hour A I n t p → rcF L hour A' I n t p := by
  intro n
  induction n with
  | zero => intro _ t p h; exact h
  | succ n ih =>
    intro hA t p h
    have ih := ih (fun j hj => hA j (by omega))
    unfold rcF at h ⊢
    rw [hA n (by omega)] at h
    rcases h with a | ⟨a0, (⟨a1, a⟩ | ⟨w, q, d, a1, a2, a3, a4, a5, a6⟩)⟩
    · exact Or.inl (ih _ _ a)
    · exact Or.inr ⟨a0, Or.inl ⟨a1, ih _ _ a⟩⟩
    · exact Or.inr ⟨a0, Or.inr ⟨w, q, d, a1, a2, a3, a4, a5, ih _ _ a6⟩⟩
theorem rcF_wait (wf : WfH L) {I : Nat → Nat → Prop} {t p : Nat} (ht : t + 1 ≤ 99) (h : rcF L hour A I 100 t p) : rcF L hour A I 100 (t + 1) p := by
  have h1 := rcF_dn wf (Nat.le_refl t) 100 (by omega) h
  exact rcF_up (n := t + 1) (Or.inr ⟨ht, Or.inl ⟨rfl, h1⟩⟩) 100 (by omega)
/-- a marking J whose marks come about by I's -/
theorem rcF_sub {I J : Nat → Nat → Prop} {k : Nat} (h0 : ∀ t p, I t p → rcF L hour A J k t p) (hk : ∀ t p, I t p → k ≤ t) : ∀ n t p, rcF L hour A I n t p → rcF L hour A J (max n k) t p := by
  intro n
  induction n with
  | zero => intro t p h; rw [Nat.max_eq_right (Nat.zero_le _)]; exact h0 t p h
  | succ n ih =>
    intro t p h
    unfold rcF at h
    rcases h with a | ⟨a0, a⟩
    · exact rcF_up (ih _ _ a) _ (by omega)
    · by_cases hn : k ≤ n
      · have e1 : max n k = n := by omega
        have e2 : max (n + 1) k = n + 1 := by omega
        rw [e1] at ih
        rw [e2]
        rcases a with ⟨a1, a2⟩ | ⟨w, q, d, a1, a2, a3, a4, a5, a6⟩
        · exact Or.inr ⟨a0, Or.inl ⟨a1, ih _ _ a2⟩⟩
        · exact Or.inr ⟨a0, Or.inr ⟨w, q, d, a1, a2, a3, a4, a5, ih _ _ a6⟩⟩
      · have nope : ∀ m p', m < k → ¬ rcF L hour A I m m p' := by
          have : ∀ m t p', t < k → ¬ rcF L hour A I m t p' ∨ k ≤ m := by
            intro m
            induction m with
            | zero => intro t p' ht; exact Or.inl (fun q => by have := hk _ _ q; omega)
            | succ m ih2 =>
              intro t p' ht
              by_cases hm : k ≤ m + 1
              · exact Or.inr hm
              · refine Or.inl (fun q => ?_)
                unfold rcF at q
                rcases q with q | ⟨_, (⟨q1, q2⟩ | ⟨w, q', d, q1, q2, q3, q4, q5, q6⟩)⟩
                · rcases ih2 t p' ht with z | z
                  · exact z q
                  · omega
                · rcases ih2 m p' (by omega) with z | z
                  · exact z q2
                  · omega
                · rcases ih2 m q' (by omega) with z | z
                  · exact z q6
                  · omega
          intro m p' hm q
          rcases this m m p' hm with z | z
          · exact z q
          · omega
        rcases a with ⟨a1, a2⟩ | ⟨w, q, d, a1, a2, a3, a4, a5, a6⟩
        · exact (nope n p (by omega) a2).elim
        · exact (nope n q (by omega) a6).elim
theorem spT_bit (wf : WfH L) {I : Nat → Nat → Nat → Prop} (hB : ∀ t p b, t < 100 → p < 8 → (((B (t * 8 + p)).testBit b = true) ↔ I b t p)) (hI : ∀ b t p, I b t p → p < L 7 4) : ∀ n, n ≤ 100 → ∀ t p b, t < 100 → p < 8 → (((spT L hour A B n (t * 8 + p)).testBit b = true) ↔ rcF L hour A (I b) n t p) := by
  have w9 := wf.2.2.2.2.2.2.2.2.1
  intro n
  induction n with
  | zero => intro _ t p b ht hp; exact hB t p b ht hp
  | succ n ih =>
    intro hn t p b ht hp
    have ih := ih (by omega)
    unfold spT rcF
    rw [spB_bit wf _ _ _ _ w9, ih t p b ht hp]
    constructor
    · rintro (a | ⟨p', a1, a2, (⟨b1, b2⟩ | ⟨w', q, d, b1, b2, b3, b4, b5⟩)⟩)
      · exact Or.inl a
      · have a3 := (ih n p' b (by omega) (by omega)).1 a2
        obtain rfl : p = p' := by omega
        exact Or.inr ⟨by omega, Or.inl ⟨by omega, a3⟩⟩
      · have a3 := (ih n p' b (by omega) (by omega)).1 a2
        have hq := otL_lt wf b1 b2
        obtain rfl : p = q := by omega
        exact Or.inr ⟨by omega, Or.inr ⟨w', p', d, b1, a1, b2, b3, by omega, a3⟩⟩
    · rintro (a | ⟨a0, (⟨a1, a2⟩ | ⟨w, q, d, a1, a2, a3, a4, a5, a6⟩)⟩)
      · exact Or.inl a
      · have hpp := rcF_p wf (hI b) n n p a2
        exact Or.inr ⟨p, hpp, (ih n p b (by omega) (by omega)).2 a2, Or.inl ⟨by omega, by omega⟩⟩
      · exact Or.inr ⟨q, a2, (ih n q b (by omega) (by omega)).2 a6, Or.inr ⟨w, p, d, a1, a3, a4, by omega, by omega⟩⟩
theorem ne0_bit (n : Nat) : ((n != 0) = true) ↔ ∃ b, n.testBit b = true := by
  constructor
  · intro h
    exact Nat.exists_testBit_of_ne_zero (by simpa using h)
  · rintro ⟨b, hb⟩
    rw [bne_iff_ne]
    intro h0
    rw [h0, Nat.zero_testBit] at hb
    cases hb
/-- asker a can be in place p behind t hours -/
def RCa (L M : LT) (p0 l : Nat) : Nat → Nat → Prop := rcF L (M 2 0) (upL L M) (fun t p => t = l ∧ p = p0) 100
theorem tpB_bit (wf : WfH L) {a : Nat} (hp : M 0 a < L 7 4) (hl : M 1 a ≤ 99) {t : Nat} (ht : t < 100) : ((tpB L M a (t * 8) != 0) = true) ↔ RCa L M (M 0 a) (M 1 a) t 0 := by
  have w9 := wf.2.2.2.2.2.2.2.2.1
  rw [ne0_bit]
  unfold tpB RCa
  have hs := spT_bit (hour := M 2 0) (A := upL L M) (B := mkB (fun _ => 0) (M 1 a) (M 0 a) 1) wf (I := fun b t p => b = 0 ∧ t = M 1 a ∧ p = M 0 a) (by
    intro t p b ht hp
    rw [mkB_bit, Nat.zero_testBit]
    have : (Nat.testBit 1 b = true) ↔ b = 0 := by
      rw [show (1 : Nat) = 2 ^ 0 from rfl, Nat.testBit_two_pow, decide_eq_true_eq]; omega
    rw [this]
    constructor
    · rintro (q | ⟨q1, q2, q3⟩)
      · cases q
      · exact ⟨q3, by omega, by omega⟩
    · rintro ⟨q1, q2, q3⟩
      exact Or.inr ⟨hl, by omega, q1⟩) (by rintro b t p ⟨_, _, q⟩; omega) 100 (Nat.le_refl _)
  have h8 : t * 8 + 0 = t * 8 := by omega
  constructor
  · rintro ⟨b, hb⟩
    have := (hs t 0 b ht (by omega)).1 (by rw [h8]; exact hb)
    exact rcF_mono (fun _ _ q => q.2) _ _ _ this
  · intro h
    refine ⟨0, ?_⟩
    have := (hs t 0 0 ht (by omega)).2 (rcF_mono (fun _ _ q => ⟨rfl, q⟩) _ _ _ h)
    rwa [h8] at this
theorem bo_eq {a b : Bool} {P : Prop} (h1 : (a = true) ↔ P) (h2 : (b = true) ↔ P) : a = b := by
  rw [Bool.eq_iff_iff, h1, h2]
theorem ffL_and {P Q : Nat → Bool} : ∀ (d i : Nat), (∀ j, i ≤ j → j + 1 < i + d → P j = true → P (j + 1) = true) → ffL (fun j => P j && Q j) d i = (match ffL P d i with
  | none => none
  | some t => ffL Q (i + d - t) t) := by
  intro d
  induction d with
  | zero => intro i _; rfl
  | succ d ih =>
    intro i h
    by_cases hP : P i = true
    · have e1 : ffL P (d + 1) i = some i := by unfold ffL; rw [if_pos hP]
      rw [e1]
      show _ = ffL Q (i + (d + 1) - i) i
      rw [show i + (d + 1) - i = d + 1 by omega]
      have hall : ∀ m, i + m < i + (d + 1) → P (i + m) = true := by
        intro m
        induction m with
        | zero => intro _; exact hP
        | succ m ih2 => intro hm; exact h (i + m) (by omega) (by omega) (ih2 (by omega))
      refine ffL_cg (d + 1) i (fun j h1 h2 => ?_)
      have := hall (j - i) (by omega)
      rw [show i + (j - i) = j by omega] at this
      rw [this, Bool.true_and]
    · have hP' : P i = false := by simpa using hP
      have e1 : ffL P (d + 1) i = ffL P d (i + 1) := by rw [ffL, if_neg hP]
      rw [e1]
      have e2 : ffL (fun j => P j && Q j) (d + 1) i = ffL (fun j => P j && Q j) d (i + 1) := by rw [ffL, if_neg (by simp [hP'])]
      rw [e2, ih (i + 1) (fun j h1 h2 => h j (by omega) (by omega))]
      rw [show i + 1 + d = i + (d + 1) by omega]
end
