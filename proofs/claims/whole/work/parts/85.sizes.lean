/-! how much room the cells take: no more than a thousand slots each -/
def CszI (h : MH) (i : Nat) : Prop := ∀ e, h[i]? = some e → m_csz e ≤ 1000
section
variable {h h' : MH} {L M T S C X V : LT} {a t g n nx hd : Nat} {P : Nat → LT}
theorem csz_e {i : Nat} {x : va_E} (hx : h[i]? = some x) (hc : m_csz x ≤ 1000) : CszI h i := fun e he => by
  rw [hx] at he
  cases he
  exact hc
theorem sz_all : ∀ (h : MH), (∀ i, i < h.length → CszI h i) → m_sz h ≤ 1000 * h.length := by
  intro h
  induction h with
  | nil => intro _; exact Nat.le_refl _
  | cons e r ih =>
    intro hh
    have h0 := hh 0 (by simp) e rfl
    have h1 := ih (fun i hi e he => hh (i + 1) (by simpa using hi) e (by simpa using he))
    show m_csz e + m_sz r ≤ 1000 * (r.length + 1)
    omega
theorem hi_sz (u : HiA h g L) : ∀ j, j < 8 → CszI h (g + j) := by
  obtain ⟨e0, e1, e2, e3, e4, e5, e6, e7⟩ := u
  intro j hj
  rcases (show j = 0 ∨ j = 1 ∨ j = 2 ∨ j = 3 ∨ j = 4 ∨ j = 5 ∨ j = 6 ∨ j = 7 by omega) with rfl | rfl | rfl | rfl | rfl | rfl | rfl | rfl
  · exact csz_e e0 (Nat.le_of_ble_eq_true rfl)
  · exact csz_e e1 (Nat.le_of_ble_eq_true rfl)
  · exact csz_e e2 (Nat.le_of_ble_eq_true rfl)
  · exact csz_e e3 (Nat.le_of_ble_eq_true rfl)
  · exact csz_e e4 (Nat.le_of_ble_eq_true rfl)
  · exact csz_e e5 (Nat.le_of_ble_eq_true rfl)
  · exact csz_e e6 (Nat.le_of_ble_eq_true rfl)
  · exact csz_e e7 (Nat.le_of_ble_eq_true rfl)
theorem mo_sz (u : MoA h a M) : ∀ j, j < 3 → CszI h (a + j) := by
  obtain ⟨e0, e1, e2⟩ := u
  intro j hj
  rcases (show j = 0 ∨ j = 1 ∨ j = 2 by omega) with rfl | rfl | rfl
  · exact csz_e e0 (Nat.le_of_ble_eq_true rfl)
  · exact csz_e e1 (Nat.le_of_ble_eq_true rfl)
  · exact csz_e e2 (Nat.le_of_ble_eq_true rfl)
theorem se_sz (u : SeA h a S) : ∀ j, j < 3 → CszI h (a + j) := by
  obtain ⟨e0, e1, e2⟩ := u
  intro j hj
  rcases (show j = 0 ∨ j = 1 ∨ j = 2 by omega) with rfl | rfl | rfl
  · exact csz_e e0 (Nat.le_of_ble_eq_true rfl)
  · exact csz_e e1 (Nat.le_of_ble_eq_true rfl)
  · exact csz_e e2 (Nat.le_of_ble_eq_true rfl)
theorem ou_sz (u : OuA h a X) : ∀ j, j < 3 → CszI h (a + j) := by
  obtain ⟨e0, e1, e2⟩ := u
  intro j hj
  rcases (show j = 0 ∨ j = 1 ∨ j = 2 by omega) with rfl | rfl | rfl
  · exact csz_e e0 (Nat.le_of_ble_eq_true rfl)
  · exact csz_e e1 (Nat.le_of_ble_eq_true rfl)
  · exact csz_e e2 (Nat.le_of_ble_eq_true rfl)
theorem tx_sz (u : TxA h a T) : ∀ j, j < 2 → CszI h (a + j) := by
  obtain ⟨e0, e1⟩ := u
  intro j hj
  rcases (show j = 0 ∨ j = 1 by omega) with rfl | rfl
  · exact csz_e e0 (Nat.le_of_ble_eq_true rfl)
  · exact csz_e e1 (Nat.le_of_ble_eq_true rfl)
theorem sc_sz (u : ScA h a t C) : ∀ j, j < 2 → CszI h (a + j) := by
  obtain ⟨e0, e1⟩ := u
  intro j hj
  rcases (show j = 0 ∨ j = 1 by omega) with rfl | rfl
  · exact csz_e e0 (Nat.le_of_ble_eq_true rfl)
  · exact csz_e e1 (Nat.le_of_ble_eq_true rfl)
theorem sh_sz (u : ShA h a n nx hd P) (hn : n = 8 ∨ n = 2) : ∀ j, j < 3 * n + 2 → CszI h (a + j) := by
  obtain ⟨h1, h2, e0, e1, e2⟩ := u
  intro j hj
  by_cases j0 : j = 0
  · subst j0; exact csz_e e0 (Nat.le_of_ble_eq_true rfl)
  by_cases j1 : j = 1
  · subst j1
    refine csz_e e1 ?_
    show n ≤ 1000
    omega
  have hq : ∃ q, q < n ∧ (nx + n - 1 - q) % n = (j - 2) / 3 := by
    rcases hn with rfl | rfl
    · exact ⟨(nx + 7 - (j - 2) / 3) % 8, by omega, by omega⟩
    · exact ⟨(nx + 1 - (j - 2) / 3) % 2, by omega, by omega⟩
  obtain ⟨q, q1, q2⟩ := hq
  obtain ⟨M, mo, _, _⟩ := e2 q q1
  rw [q2] at mo
  have := mo_sz mo ((j - 2) % 3) (Nat.mod_lt _ (by omega))
  rw [show a + 2 + 3 * ((j - 2) / 3) + (j - 2) % 3 = a + j by omega] at this
  exact this
theorem md_sz (u : MdA h V) : ∀ j, j < 17 → CszI h (72 + j) := by
  obtain ⟨e72, e73, e74, e75, e76, e77, e78, e79, e80, e81, e82, e83, e84, e85, e86, e87, e88⟩ := u
  intro j hj
  rcases (show j = 0 ∨ j = 1 ∨ j = 2 ∨ j = 3 ∨ j = 4 ∨ j = 5 ∨ j = 6 ∨ j = 7 ∨ j = 8 ∨ j = 9 ∨ j = 10 ∨ j = 11 ∨ j = 12 ∨ j = 13 ∨ j = 14 ∨ j = 15 ∨ j = 16 by omega) with rfl | rfl | rfl | rfl | rfl | rfl | rfl | rfl | rfl | rfl | rfl | rfl | rfl | rfl | rfl | rfl | rfl
  · exact csz_e e72 (Nat.le_of_ble_eq_true rfl)
  · exact csz_e e73 (Nat.le_of_ble_eq_true rfl)
  · exact csz_e e74 (Nat.le_of_ble_eq_true rfl)
  · exact csz_e e75 (Nat.le_of_ble_eq_true rfl)
  · exact csz_e e76 (Nat.le_of_ble_eq_true rfl)
  · exact csz_e e77 (Nat.le_of_ble_eq_true rfl)
  · exact csz_e e78 (Nat.le_of_ble_eq_true rfl)
  · exact csz_e e79 (Nat.le_of_ble_eq_true rfl)
  · exact csz_e e80 (Nat.le_of_ble_eq_true rfl)
  · exact csz_e e81 (Nat.le_of_ble_eq_true rfl)
  · exact csz_e e82 (Nat.le_of_ble_eq_true rfl)
  · exact csz_e e83 (Nat.le_of_ble_eq_true rfl)
  · exact csz_e e84 (Nat.le_of_ble_eq_true rfl)
  · exact csz_e e85 (Nat.le_of_ble_eq_true rfl)
  · exact csz_e e86 (Nat.le_of_ble_eq_true rfl)
  · exact csz_e e87 (Nat.le_of_ble_eq_true rfl)
  · exact csz_e e88 (Nat.le_of_ble_eq_true rfl)
theorem ofst {h : MH} {p q : Nat} (u : ∀ j, j < q → CszI h (p + j)) {i : Nat} (h1 : p ≤ i) (h2 : i < p + q) : CszI h i := by
  have := u (i - p) (by omega)
  rw [show p + (i - p) = i by omega] at this
  exact this
theorem CS.csz {B : Nat} (cs : CS h B) {i : Nat} (hi : i < 89) (hn : mvL i) : CszI h i := by
  unfold mvL at hn
  obtain ⟨h89, V, hl, sp, L, M, T, S, hp, P, hk, K, ca, md, rv, cw, ha⟩ := cs
  obtain ⟨c_sw, c_o, c_hi, ⟨_, c_spa⟩, c_tx, ⟨_, c_sc⟩, c_mo, ⟨_, c_tri⟩, ⟨_, c_sh⟩, ⟨_, c_ke⟩, c_se, ⟨_, c_ou, c_ob⟩, ⟨_, c_ch⟩⟩ := ca
  by_cases q : i < 1
  · obtain rfl : i = 0 := by omega
    exact csz_e c_o (Nat.le_of_ble_eq_true rfl)
  by_cases q : i < 3
  · omega
  by_cases q : i < 11
  · rcases c_sw with ⟨rfl, rfl⟩ | ⟨rfl, rfl⟩
    · exact ofst (hi_sz c_hi) (by omega) q
    · exact ofst (hi_sz c_spa) (by omega) q
  by_cases q : i < 13
  · omega
  by_cases q : i < 21
  · rcases c_sw with ⟨rfl, rfl⟩ | ⟨rfl, rfl⟩
    · exact ofst (hi_sz c_spa) (by omega) q
    · exact ofst (hi_sz c_hi) (by omega) q
  by_cases q : i < 23
  · exact ofst (tx_sz c_tx) (by omega) q
  by_cases q : i < 25
  · exact ofst (sc_sz c_sc) (by omega) q
  by_cases q : i < 28
  · exact ofst (mo_sz c_mo) (by omega) q
  by_cases q : i < 31
  · exact ofst (mo_sz c_tri) (by omega) q
  by_cases q : i < 57
  · exact ofst (sh_sz c_sh (Or.inl rfl)) (by omega) q
  by_cases q : i < 65
  · exact ofst (sh_sz c_ke (Or.inr rfl)) (by omega) q
  by_cases q : i < 68
  · exact ofst (se_sz c_se) (by omega) q
  by_cases q : i < 71
  · exact ofst (ou_sz c_ou) (by omega) q
  by_cases q : i < 72
  · obtain rfl : i = 71 := by omega
    exact csz_e c_ch (Nat.le_of_ble_eq_true rfl)
  exact ofst (md_sz md) (by omega) hi
theorem m_le_csz (l : m_le h h') {i : Nat} (hi : i < h.length) (c : CszI h i) : CszI h' i := by
  intro e he
  have hl := l.1
  have hi' : i < h'.length := by omega
  obtain ⟨tl, ht⟩ := l.2.2
  have e1 : (h'.map m_csz)[i]? = some (m_csz e) := by rw [List.getElem?_map, he]; rfl
  rw [← ht, List.getElem?_append_left (by simpa using hi), List.getElem?_map] at e1
  cases hx : h[i]? with
  | none => rw [hx] at e1; cases e1
  | some x =>
    rw [hx] at e1
    have e2 : m_csz x = m_csz e := Option.some.inj e1
    rw [← e2]
    exact c x hx
theorem m_ev_le {y k : Nat} {ls : ML} {st : List Value} {v : Option Value} (hr : m_ev y k ls st h = some (v, h')) : m_le h h' := by
  obtain ⟨n, hn⟩ := m_ev_run hr
  exact m_grow _ _ _ _ _ _ _ _ hn
end
theorem mvE_csz (e : va_E) : m_csz (mvE e) = m_csz e := by
  match e with
  | .inl (t, z) => show (mvA z).1 = z.1; rw [mvA_1]
  | .inr (c, fs) => rfl
theorem CT.sz {h' : MH} {B : Nat} (c : CT h' B) : m_sz h' ≤ 85000 := by
  have hl := c.len
  obtain ⟨h, cs, R⟩ := c
  have key := sz_all h' (fun i hi => ?_)
  · rw [hl] at key; exact key
  rw [hl] at hi
  intro e he
  have hq : mvQ i < 89 := by unfold mvQ; (repeat' split) <;> omega
  have e1 := R.2.2.1 (mvQ i) (mvQ_l i)
  rw [mvQ_c, he] at e1
  obtain ⟨x, hx, rfl⟩ := Option.map_eq_some_iff.mp e1.symm
  rw [mvE_csz]
  exact cs.csz hq (mvQ_l i) x hx
/-- both, at first, with the room that they take -/
theorem both_new2 : ∃ h1 h2, m_ev 58 0 (m_ent (m_maxL 58) [.ref 0]) [] [.inr (7, m_def 7)] = some (none, h1) ∧ h1.length = 68 ∧ m_ev 96 0 (m_ent (m_maxL 96) [.ref 68]) [] (h1 ++ [.inr (8, m_def 8)]) = some (none, h2) ∧ CT h2 0 ∧ m_sz h2 ≤ 85000 := by
  obtain ⟨h1, h2, h, q1, l1, q2, cs, R⟩ := both_new
  have ct : CT h2 0 := ⟨h, cs, R⟩
  exact ⟨h1, h2, q1, l1, q2, ct, ct.sz⟩
