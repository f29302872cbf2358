/-! new shelves -/
def mosC (a : Nat) : Nat → MH
  | 0 => []
  | i + 1 => mosC a i ++ momC (a + 2 + 3 * i)
theorem mosC_l (a : Nat) : ∀ i, (mosC a i).length = 3 * i := by
  intro i
  induction i with
  | zero => rfl
  | succ i ih => simp [mosC, ih, momC]; omega
def sheC (a n i : Nat) : MH := kSh a (fun _ => 0) :: kQ n (fun j => if j < i then some (a + 2 + 3 * j) else none) :: mosC a i
theorem sheC_l (a n i : Nat) : (sheC a n i).length = 3 * i + 2 := by simp [sheC, mosC_l]
section
variable {y k : Nat} {ls : ML} {r : List Value} {h : MH}
theorem she_loop {n : Nat} (hn : n ≤ 100) : ∀ (d i : Nat), i + d = n → m_ev 48 10 [some (.ref h.length), some (.int (nI n)), some (.int (nI i))] [] (h ++ sheC h.length n i) = some (none, h ++ sheC h.length n n) := by
  intro d
  induction d with
  | zero =>
    intro i hi
    obtain rfl : i = n := by omega
    have e0 : (h ++ sheC h.length i i)[h.length]? = some (kSh h.length (fun _ => 0)) := by simp [sheC]
    have e1 : (h ++ sheC h.length i i)[h.length + 1]? = some (kQ i (fun j => if j < i then some (h.length + 2 + 3 * j) else none)) := by simp [sheC]
    rw [b48_10]
    simp (disch := omega) only [fr_e (k := 0) (x := h.length + 1) e0 rfl, al_e e1 (show 2 < 3 by omega), Option.bind_some, nI_leI, Nat.le_refl, if_true, b48_24]
  | succ d ih =>
    intro i hi
    have hni : ¬ n ≤ i := by omega
    have e0 : (h ++ sheC h.length n i)[h.length]? = some (kSh h.length (fun _ => 0)) := by simp [sheC]
    have e1 : (h ++ sheC h.length n i)[h.length + 1]? = some (kQ n (fun j => if j < i then some (h.length + 2 + 3 * j) else none)) := by simp [sheC]
    have hl : (h ++ sheC h.length n i).length = h.length + 2 + 3 * i := by rw [List.length_append, sheC_l]; omega
    have q1 := n_moment (y := 48) (k := 21) (ls := [some (.ref h.length), some (.int (nI n)), some (.int (nI i))]) (r := [.ref (h ++ sheC h.length n i).length, .int (nI i), .ref (h.length + 1)]) (h := h ++ sheC h.length n i)
    have e2 : (h ++ sheC h.length n i ++ momC (h ++ sheC h.length n i).length)[h.length + 1]? = some (kQ n (fun j => if j < i then some (h.length + 2 + 3 * j) else none)) := by
      rw [List.getElem?_append_left (by rw [hl]; omega)]; exact e1
    have e3 : (h ++ sheC h.length n i ++ momC (h ++ sheC h.length n i).length)[h.length + 2 + 3 * i]? = some (kMo (h ++ sheC h.length n i).length (fun _ => 0)) := by
      rw [List.getElem?_append_right (by rw [hl]; omega), hl, Nat.sub_self]
      rfl
    have q2 : m_pr (h ++ sheC h.length n i ++ momC (h ++ sheC h.length n i).length) (h.length + 1) (nI i) (h.length + 2 + 3 * i) = some (h ++ sheC h.length n (i + 1)) := by
      unfold m_pr
      rw [e2]
      dsimp only
      rw [if_pos rfl, if_neg (nI_in (by omega) (by omega)), if_pos (cls_e e3), nI_clamp (by omega)]
      congr 1
      have hf : va_up (fun j => if j < i then some (h.length + 2 + 3 * j) else none) i (some (h.length + 2 + 3 * i)) = fun j => if j < i + 1 then some (h.length + 2 + 3 * j) else none := by
        funext j
        unfold va_up
        by_cases hji : j = i
        · subst hji; simp
        · have : (j < i + 1) = (j < i) := by apply propext; omega
          simp [hji, this]
      rw [hf, List.append_assoc, List.set_append_right _ _ (by omega), Nat.add_sub_cancel_left]
      simp only [sheC, mosC, List.cons_append, List.set_cons_succ, List.set_cons_zero, hl]
      rw [show (h ++ kSh h.length (fun _ => 0) :: kQ n (fun j => if j < i then some (h.length + 2 + 3 * j) else none) :: mosC h.length i).length = h.length + 2 + 3 * i from hl]
    rw [hl] at q1 q2
    rw [b48_10]
    simp (disch := omega) only [fr_e (k := 0) (x := h.length + 1) e0 rfl, al_e e1 (show 2 < 3 by omega), Option.bind_some, nI_leI, hni, if_false, b48_15, hl]
    rw [q1, b48_21, q2]
    simp only [Option.bind_some, nI_add]
    exact ih (i + 1) (by omega)
theorem n_shelf {n : Nat} (hn : n ≤ 100) (h1 : 1 ≤ n) : m_call m_ev 48 y k [.ref h.length, .int (nI n)] ls r (h ++ [.inr (4, m_def 4)]) = m_ev y k ls r (h ++ sheC h.length n n) := by
  refine cl_0 ?_
  show m_ev 48 0 [some (.ref h.length), some (.int (nI n)), none] [] (h ++ [.inr (4, m_def 4)]) = _
  have n0 : ¬ nI n < 0 := by
    have : ¬ nI n < nI 0 := by rw [nI_ltI (by omega) (by omega)]; omega
    exact this
  rw [b48_0, c_max (by omega) (by omega), show max 1 n = n by omega, b48_6, nI_clamp (by omega), if_neg (by rintro (q | q); exact n0 q; omega)]
  simp only [List.append_assoc, List.cons_append, List.nil_append, List.length_append, List.length_cons, List.length_nil]
  rw [pf_mid (by decide)]
  exact she_loop hn n 0 (by omega)
end
