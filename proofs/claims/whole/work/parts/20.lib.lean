/-! cells, and what reads and writes of them say -/
abbrev kI (n : Nat) (f : Nat → Int32) : va_E := .inl (0, n, .inl f)
abbrev kC (n : Nat) (f : Nat → Int32) : va_E := .inl (1, n, .inl f)
abbrev kQ (n : Nat) (f : Nat → Option Nat) : va_E := .inl (2, n, .inr (.inr (.inr (.inr f))))
abbrev kH (g : Nat) (v : Nat → Int32) : va_E := .inr (0, [.ref (g + 1), .ref (g + 2), .ref (g + 3), .ref (g + 4), .ref (g + 5), .ref (g + 6), .ref (g + 7), .int (v 7), .int (v 8), .int (v 9), .int (v 10), .int (v 11), .int (v 12), .int (v 13)])
abbrev kMo (m : Nat) (v : Nat → Int32) : va_E := .inr (1, [.ref (m + 1), .ref (m + 2), .int (v 2), .int (v 3), .int (v 4), .int (v 5)])
abbrev kOl (a : Nat) : va_E := .inr (2, [.ref (a + 1), .ref (a + 2)])
abbrev kSc (a t : Nat) (v : Nat → Int32) : va_E := .inr (3, [.ref (a + 1), .ref t, .int (v 2)])
abbrev kSh (a : Nat) (v : Nat → Int32) : va_E := .inr (4, [.ref (a + 1), .int (v 1), .int (v 2)])
abbrev kSe (a : Nat) (v : Nat → Int32) : va_E := .inr (5, [.ref (a + 1), .ref (a + 2), .int (v 2)])
abbrev kTx (a : Nat) (v : Nat → Int32) : va_E := .inr (6, [.ref (a + 1), .int (v 1)])
abbrev kO (hl sp : Nat) : va_E := .inr (7, [.ref 21, .ref 23, .ref 25, .ref 28, .ref 31, .ref 57, .ref 65, .ref 68, .ref 71, .ref hl, .ref sp])
abbrev kM (v : Nat → Int32) : va_E := .inr (8, [.int (v 0), .ref 73, .int (v 2), .int (v 3), .int (v 4), .int (v 5), .int (v 6), .ref 74, .int (v 8), .ref 75, .ref 76, .int (v 11), .ref 77, .int (v 13), .ref 78, .int (v 15), .ref 79, .ref 80, .int (v 18), .int (v 19), .ref 81, .int (v 21), .int (v 22), .ref 82, .int (v 24), .int (v 25), .int (v 26), .int (v 27), .int (v 28), .ref 83, .int (v 30), .ref 84, .ref 85, .ref 86, .ref 87, .ref 88])
theorem fi_e {h : MH} {a c k : Nat} {fs : List Value} {x : Int32} (e : h[a]? = some (.inr (c, fs))) (hx : fs[k]? = some (.int x)) : m_fi h a c k = some x := by
  unfold m_fi; rw [e]; dsimp only; rw [if_pos rfl, hx]
theorem fr_e {h : MH} {a c k : Nat} {fs : List Value} {x : Nat} (e : h[a]? = some (.inr (c, fs))) (hx : fs[k]? = some (.ref x)) : m_fr h a c k = some x := by
  unfold m_fr; rw [e]; dsimp only; rw [if_pos rfl, hx]
theorem pf_e {h : MH} {a c k : Nat} {fs : List Value} {v : Value} (e : h[a]? = some (.inr (c, fs))) (hk : k < fs.length) : m_pf h a c k v = some (h.set a (.inr (c, fs.set k v))) := by
  unfold m_pf; rw [e]; dsimp only; rw [if_pos rfl, if_pos hk]
theorem cls_e {h : MH} {a c : Nat} {fs : List Value} (e : h[a]? = some (.inr (c, fs))) : m_cls h a = some c := by
  unfold m_cls; rw [e]
theorem ai_e {h : MH} {a t n k : Nat} {f : Nat → Int32} (e : h[a]? = some (.inl (t, n, .inl f))) (hk : k < n) (hn : n < 2 ^ 31) : m_ai h a t (nI k) = some (f k) := by
  unfold m_ai; rw [e]; dsimp only; rw [if_pos rfl, if_neg (nI_in hk hn), nI_clamp (by omega)]
theorem pi_e {h : MH} {a t n k : Nat} {f : Nat → Int32} {x : Int32} (e : h[a]? = some (.inl (t, n, .inl f))) (hk : k < n) (hn : n < 2 ^ 31) : m_pi h a t (nI k) x = some (h.set a (.inl (t, n, .inl (upd f k x)))) := by
  unfold m_pi; rw [e]; dsimp only; rw [if_pos rfl, if_neg (nI_in hk hn), nI_clamp (by omega)]
theorem ar_e {h : MH} {a n k x : Nat} {f : Nat → Option Nat} (e : h[a]? = some (kQ n f)) (hk : k < n) (hn : n < 2 ^ 31) (hx : f k = some x) : m_ar h a (nI k) = some x := by
  unfold m_ar; rw [e]; dsimp only; rw [if_pos rfl, if_neg (nI_in hk hn), nI_clamp (by omega), hx]
theorem al_e {h : MH} {a t : Nat} {z : vp_A} (e : h[a]? = some (.inl (t, z))) (ht : t < 3) : m_al h a = some (nI z.1) := by
  unfold m_al; rw [e]; dsimp only; rw [if_pos ht]; rfl
-- the objects' int fields as a function of the field's place
theorem kMo_upd {m k : Nat} {v : Nat → Int32} {x : Int32} (hk : 2 ≤ k ∧ k < 6) : (Sum.inr (1, ([.ref (m + 1), .ref (m + 2), .int (v 2), .int (v 3), .int (v 4), .int (v 5)] : List Value).set k (.int x)) : va_E) = kMo m (upd v k x) := by
  obtain ⟨h1, h2⟩ := hk
  match k, h1, h2 with
  | 2, _, _ => rfl
  | 3, _, _ => rfl
  | 4, _, _ => rfl
  | 5, _, _ => rfl
theorem kMo_pf {h : MH} {m k : Nat} {v : Nat → Int32} {x : Int32} (e : h[m]? = some (kMo m v)) (hk : 2 ≤ k ∧ k < 6) : m_pf h m 1 k (.int x) = some (h.set m (kMo m (upd v k x))) := by
  rw [pf_e e (by show k < 6; omega), kMo_upd hk]
theorem kH_pf {h : MH} {g k : Nat} {v : Nat → Int32} {x : Int32} (e : h[g]? = some (kH g v)) (hk : 7 ≤ k ∧ k < 14) : m_pf h g 0 k (.int x) = some (h.set g (kH g (upd v k x))) := by
  rw [pf_e e (by show k < 14; omega)]
  obtain ⟨h1, h2⟩ := hk
  match k, h1, h2 with
  | 7, _, _ => rfl
  | 8, _, _ => rfl
  | 9, _, _ => rfl
  | 10, _, _ => rfl
  | 11, _, _ => rfl
  | 12, _, _ => rfl
  | 13, _, _ => rfl
theorem kM_pf {h : MH} {v : Nat → Int32} {x : Int32} (e : h[72]? = some (kM v)) (k : Nat) (hk : k ∈ [0, 2, 3, 4, 5, 6, 8, 11, 13, 15, 18, 19, 21, 22, 24, 25, 26, 27, 28, 30]) : m_pf h 72 8 k (.int x) = some (h.set 72 (kM (upd v k x))) := by
  rw [pf_e e (by show k < 36; simp at hk; omega)]
  simp only [List.mem_cons, List.not_mem_nil, or_false] at hk
  rcases hk with rfl | rfl | rfl | rfl | rfl | rfl | rfl | rfl | rfl | rfl | rfl | rfl | rfl | rfl | rfl | rfl | rfl | rfl | rfl | rfl <;> rfl
theorem st_ne {h : MH} {a b : Nat} {x y : va_E} (hne : a ≠ b) (e : h[b]? = some y) : (h.set a x)[b]? = some y := by
  rw [List.getElem?_set_ne hne]; exact e
theorem st_eq {h : MH} {a : Nat} {x y : va_E} (e : h[a]? = some y) : (h.set a x)[a]? = some x := by
  rw [List.getElem?_set_self (List.getElem?_eq_some_iff.mp e).1]
theorem upd_e (f : Nat → Int32) (k : Nat) (x : Int32) : upd f k x k = x := pk_us
theorem upd_n (f : Nat → Int32) {k j : Nat} (x : Int32) (h : j ≠ k) : upd f k x j = f j := pk_un h
-- calls
theorem cl_v {z y k : Nat} {as : List Value} {ls : ML} {r : List Value} {h h' : MH} {v : Value} (e : m_ev z 0 (m_ent (m_maxL z) as) [] h = some (some v, h')) : m_call m_ev z y k as ls r h = m_ev y k ls (v :: r) h' := by
  unfold m_call; rw [e]; rfl
theorem cl_0 {z y k : Nat} {as : List Value} {ls : ML} {r : List Value} {h h' : MH} (e : m_ev z 0 (m_ent (m_maxL z) as) [] h = some (none, h')) : m_call m_ev z y k as ls r h = m_ev y k ls r h' := by
  unfold m_call; rw [e]; rfl
