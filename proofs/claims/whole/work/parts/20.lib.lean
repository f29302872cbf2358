/-! cells, and what reads and writes of them say -/
abbrev kI (n : Nat) (f : Nat → Int32) : va_E := .inl (0, n, .inl f)
abbrev kC (n : Nat) (f : Nat → Int32) : va_E := .inl (1, n, .inl f)
abbrev kQ (n : Nat) (f : Nat → Option Nat) : va_E := .inl (2, n, .inr (.inr (.inr (.inr f))))
abbrev kH (g : Nat) (v : Nat → Int32) : va_E := .inr (0, [.ref (g + 1), .ref (g + 2), .ref (g + 3), .ref (g + 4), .ref (g + 5), .ref (g + 6), .ref (g + 7), .int (v 7), .int (v 8), .int (v 9), .int (v 10), .int (v 11), .int (v 12), .int (v 13)])
abbrev kMo (m : Nat) (v : Nat → Int32) : va_E := .inr (1, [.ref (m + 1), .ref (m + 2), .int (v 2), .int (v 3), .int (v 4), .int (v 5)])
abbrev kOl (a : Nat) : va_E := .inr (2, [.ref (a + 1), .ref (a + 2)])
abbrev kSc (a t : Nat) (v : Nat → Int32) : va_E := .inr (3, [.ref (a + 1), .ref t, .int (v 2)])
abbrev kSh (a : Nat) (v : Nat → Int32) : va_E := .inr (4, [.ref (a + 1), .int (v 1), .int (v 2)])
abbrev kSe (a : Nat) (v : Nat → Int32) : va_E := .inr (5, [.ref (a + 1), .ref (a + 2), .int (v 2)])
abbrev kTx (a : Nat) (v : Nat → Int32) : va_E := .inr (6, [.ref (a + 1), .int (v 1)])
abbrev kO (hl sp : Nat) : va_E := .inr (7, [.ref 21, .ref 23, .ref 25, .ref 28, .ref 31, .ref 57, .ref 65, .ref 68, .ref 71, .ref hl, .ref sp])
abbrev kM (v : Nat → Int32) : va_E := .inr (8, [.int (v 0), .ref 73, .int (v 2), .int (v 3), .int (v 4), .int (v 5), .int (v 6), .ref 74, .int (v 8), .ref 75, .ref 76, .int (v 11), .ref 77, .int (v 13), .ref 78, .int (v 15), .ref 79, .ref 80, .int (v 18), .int (v 19), .ref 81, .int (v 21), .int (v 22), .ref 82, .int (v 24), .int (v 25), .int (v 26), .int (v 27), .int (v 28), .ref 83, .int (v 30), .ref 84, .ref 85, .ref 86, .ref 87, .ref 88])
theorem fi_e {h : MH} {a c k : Nat} {fs : List Value} {x : Int32} (e : h[a]? = some (.inr (c, fs))) (hx : fs[k]? = some (.int x)) : m_fi h a c k = some x := by
  unfold m_fi; rw [e]; dsimp only; rw [if_pos rfl, hx]
theorem fr_e {h : MH} {a c k : Nat} {fs : List Value} {x : Nat} (e : h[a]? = some (.inr (c, fs))) (hx : fs[k]? = some (.ref x)) : m_fr h a c k = some x := by
  unfold m_fr; rw [e]; dsimp only; rw [if_pos rfl, hx]
theorem pf_e {h : MH} {a c k : Nat} {fs : List Value} {v : Value} (e : h[a]? = some (.inr (c, fs))) (hk : k < fs.length) : m_pf h a c k v = some (h.set a (.inr (c, fs.set k v))) := by
  unfold m_pf; rw [e]; dsimp only; rw [if_pos rfl, if_pos hk]
theorem cls_e {h : MH} {a c : Nat} {fs : List Value} (e : h[a]? = some (.inr (c, fs))) : m_cls h a = some c := by
  unfold m_cls; rw [e]
theorem ai_e {h : MH} {a t n k : Nat} {f : Nat → Int32} (e : h[a]? = some (.inl (t, n, .inl f))) (hk : k < n) (hn : n < 2 ^ 31) : m_ai h a t (nI k) = some (f k) := by
  unfold m_ai; rw [e]; dsimp only; rw [if_pos rfl, if_neg (nI_in hk hn), nI_clamp (by omega)]
theorem pi_e {h : MH} {a t n k : Nat} {f : Nat → Int32} {x : Int32} (e : h[a]? = some (.inl (t, n, .inl f))) (hk : k < n) (hn : n < 2 ^ 31) : m_pi h a t (nI k) x = some (h.set a (.inl (t, n, .inl (upd f k x)))) := by
  unfold m_pi; rw [e]; dsimp only; rw [if_pos rfl, if_neg (nI_in hk hn), nI_clamp (by omega)]
theorem ar_e {h : MH} {a n k x : Nat} {f : Nat → Option Nat} (e : h[a]? = some (kQ n f)) (hk : k < n) (hn : n < 2 ^ 31) (hx : f k = some x) : m_ar h a (nI k) = some x := by
  unfold m_ar; rw [e]; dsimp only; rw [if_pos rfl, if_neg (nI_in hk hn), nI_clamp (by omega), hx]
theorem al_e {h : MH} {a t : Nat} {z : vp_A} (e : h[a]? = some (.inl (t, z))) (ht : t < 3) : m_al h a = some (nI z.1) := by
  unfold m_al; rw [e]; dsimp only; rw [if_pos ht]; rfl
-- the objects' int fields as a function of the field's place
theorem kMo_upd {m k : Nat} {v : Nat → Int32} {x : Int32} (hk : 2 ≤ k ∧ k < 6) : (Sum.inr (1, ([.ref (m + 1), .ref (m + 2), .int (v 2), .int (v 3), .int (v 4), .int (v 5)] : List Value).set k (.int x)) : va_E) = kMo m (upd v k x) := by
  obtain ⟨h1, h2⟩ := hk
  match k, h1, h2 with
  | 2, _, _ => rfl
  | 3, _, _ => rfl
  | 4, _, _ => rfl
  | 5, _, _ => rfl
theorem kMo_pf {h : MH} {m k : Nat} {v : Nat → Int32} {x : Int32} (e : h[m]? = some (kMo m v)) (hk : 2 ≤ k ∧ k < 6) : m_pf h m 1 k (.int x) = some (h.set m (kMo m (upd v k x))) := by
  rw [pf_e e (by show k < 6; omega), kMo_upd hk]
theorem kH_pf {h : MH} {g k : Nat} {v : Nat → Int32} {x : Int32} (e : h[g]? = some (kH g v)) (hk : 7 ≤ k ∧ k < 14) : m_pf h g 0 k (.int x) = some (h.set g (kH g (upd v k x))) := by
  rw [pf_e e (by show k < 14; omega)]
  obtain ⟨h1, h2⟩ := hk
  match k, h1, h2 with
  | 7, _, _ => rfl
  | 8, _, _ => rfl
  | 9, _, _ => rfl
  | 10, _, _ => rfl
  | 11, _, _ => rfl
  | 12, _, _ => rfl
  | 13, _, _ => rfl
theorem kM_pf {h : MH} {v : Nat → Int32} {x : Int32} (e : h[72]? = some (kM v)) (k : Nat) (hk : k ∈ [0, 2, 3, 4, 5, 6, 8, 11, 13, 15, 18, 19, 21, 22, 24, 25, 26, 27, 28, 30]) : m_pf h 72 8 k (.int x) = some (h.set 72 (kM (upd v k x))) := by
  rw [pf_e e (by show k < 36; simp at hk; omega)]
  simp only [List.mem_cons, List.not_mem_nil, or_false] at hk
  rcases hk with rfl | rfl | rfl | rfl | rfl | rfl | rfl | rfl | rfl | rfl | rfl | rfl | rfl | rfl | rfl | rfl | rfl | rfl | rfl | rfl <;> rfl
theorem st_ne {h : MH} {a b : Nat} {x y : va_E} (hne : a ≠ b) (e : h[b]? = some y) : (h.set a x)[b]? = some y := by
  rw [List.getElem?_set_ne hne]; exact e
theorem st_eq {h : MH} {a : Nat} {x y : va_E} (e : h[a]? = some y) : (h.set a x)[a]? = some x := by
  rw [List.getElem?_set_self (List.getElem?_eq_some_iff.mp e).1]
theorem upd_e (f : Nat → Int32) (k : Nat) (x : Int32) : upd f k x k = x := pk_us
theorem upd_n (f : Nat → Int32) {k j : Nat} (x : Int32) (h : j ≠ k) : upd f k x j = f j := pk_un h
-- calls
theorem cl_v {z y k : Nat} {as : List Value} {ls : ML} {r : List Value} {h h' : MH} {v : Value} (e : m_ev z 0 (m_ent (m_maxL z) as) [] h = some (some v, h')) : m_call m_ev z y k as ls r h = m_ev y k ls (v :: r) h' := by
  unfold m_call; rw [e]; rfl
theorem cl_0 {z y k : Nat} {as : List Value} {ls : ML} {r : List Value} {h h' : MH} (e : m_ev z 0 (m_ent (m_maxL z) as) [] h = some (none, h')) : m_call m_ev z y k as ls r h = m_ev y k ls r h' := by
  unfold m_call; rw [e]; rfl
-- numbers
theorem nx_xorN (a b : Nat) : nI a ^^^ nI b = nI (a ^^^ b) := by
  apply Int32.toBitVec_inj.1
  show BitVec.ofNat 32 a ^^^ BitVec.ofNat 32 b = BitVec.ofNat 32 (a ^^^ b)
  apply BitVec.eq_of_getLsbD_eq
  intro i hi
  simp [hi]
theorem nx_orN (a b : Nat) : nI a ||| nI b = nI (a ||| b) := by
  apply Int32.toBitVec_inj.1
  show BitVec.ofNat 32 a ||| BitVec.ofNat 32 b = BitVec.ofNat 32 (a ||| b)
  apply BitVec.eq_of_getLsbD_eq
  intro i hi
  simp [hi]
theorem nI_remN {a d : Nat} (ha : a < 2 ^ 31) (h0 : 0 < d) (hd : d < 2 ^ 31) : nI a - nI a / nI d * nI d = nI (a % d) := pk_rem ha h0 hd
theorem nI_divN {a d : Nat} (ha : a < 2 ^ 31) (h0 : 0 < d) (hd : d < 2 ^ 31) : nI a / nI d = nI (a / d) := pk_div ha h0 hd
theorem nI_subN {a b : Nat} (h : b ≤ a) : nI a - nI b = nI (a - b) := pk_sub h
theorem nI_mulN (a b : Nat) : nI a * nI b = nI (a * b) := pk_mul a b
theorem upd_nI (f : Nat → Nat) (k x : Nat) : upd (fun i => nI (f i)) k (nI x) = fun i => nI (if i = k then x else f i) := by
  funext j
  unfold upd
  by_cases hj : j = k <;> simp [hj]
/-- an arbitrary number, by its place against n -/
theorem ix3 (x : Int32) {n : Nat} (hn : n < 2 ^ 31) : x < nI 0 ∨ nI n ≤ x ∨ ∃ j : Nat, j < n ∧ x = nI j := by
  rcases pk_ix x hn with h | h | h
  · exact Or.inl h
  · exact Or.inr (Or.inl h)
  · exact Or.inr (Or.inr h)
theorem nI_neg4 {n : Nat} (h : n < 2 ^ 31) : ¬ nI n = -4 := by
  intro e
  have h1 := congrArg Int32.toInt e
  rw [nI_toInt h] at h1
  have h2 : (-4 : Int32).toInt = -4 := by decide
  omega
theorem nI_neg4' {n : Nat} (h : n < 2 ^ 31) : ¬ (-4 : Int32) = nI n := fun e => nI_neg4 h e.symm
theorem neg4_lt {n : Nat} (h : n < 2 ^ 31) : (-4 : Int32) < nI n := by
  rw [Int32.lt_iff_toInt_lt, nI_toInt h]
  have h2 : (-4 : Int32).toInt = -4 := by decide
  omega
-- the hill and the moment, in Nat
abbrev LT : Type := Nat → Nat → Nat
def HiA (h : MH) (g : Nat) (L : LT) : Prop := h[g]? = some (kH g (fun k => nI (L 7 (k - 7)))) ∧ h[g + 1]? = some (kI 12 (fun i => nI (L 0 i))) ∧ h[g + 2]? = some (kI 10 (fun i => nI (L 1 i))) ∧ h[g + 3]? = some (kI 10 (fun i => nI (L 2 i))) ∧ h[g + 4]? = some (kI 10 (fun i => nI (L 3 i))) ∧ h[g + 5]? = some (kI 10 (fun i => nI (L 4 i))) ∧ h[g + 6]? = some (kI 4 (fun i => nI (L 5 i))) ∧ h[g + 7]? = some (kI 4 (fun i => nI (L 6 i)))
/-- L 7: words, step, every, more, places, ways, askers -/
def WfH (L : LT) : Prop := 2 ≤ L 7 0 ∧ L 7 0 ≤ 12 ∧ (∀ i, i < L 7 0 → L 0 i < 4) ∧ L 7 1 ≤ 11 ∧ 1 ≤ L 7 2 ∧ L 7 2 ≤ 24 ∧ L 7 3 ≤ 11 ∧ 1 ≤ L 7 4 ∧ L 7 4 ≤ 8 ∧ L 7 5 ≤ 10 ∧ (∀ w, w < L 7 5 → L 1 w < 4 ∧ L 2 w < L 7 4 ∧ L 3 w < L 7 4 ∧ L 2 w ≠ L 3 w ∧ 1 ≤ L 4 w ∧ L 4 w ≤ 12) ∧ L 7 6 ≤ 4 ∧ (∀ a, a < L 7 6 → L 5 a < L 7 4 ∧ L 6 a < 4)
/-- M 0 places, M 1 hours left, M 2: hour, spot, foot, used -/
def MoA (h : MH) (m : Nat) (M : LT) : Prop := h[m]? = some (kMo m (fun k => nI (M 2 (k - 2)))) ∧ h[m + 1]? = some (kI 4 (fun i => nI (M 0 i))) ∧ h[m + 2]? = some (kI 4 (fun i => nI (M 1 i)))
def WfM (L M : LT) (B : Nat) : Prop := M 2 0 ≤ B ∧ M 2 1 < L 7 0 ∧ M 2 2 ≤ 12 ∧ M 2 3 ≤ 1 ∧ ∀ a, a < L 7 6 → M 0 a < L 7 4 ∧ M 1 a ≤ 24
def spotL (L M : LT) (s e t : Nat) : Nat := (M 2 1 + s * (t - min (M 2 2) t) + L 7 3 * ((M 2 0 + t) / e - (M 2 0 + min (M 2 2) t) / e)) % L 7 0
def upL (L M : LT) (t : Nat) : Nat := L 0 (spotL L M (L 7 1) (L 7 2) t)
/-- hours by way w, begun at this hour with this word uppermost -/
def hoL (L : LT) (w hour wd : Nat) : Option Nat := if L 1 w = 1 then some (if hour % 2 = 0 then L 4 w else 2 * L 4 w) else if L 1 w = 2 then (if hour % 3 = 0 then none else some (L 4 w)) else if L 1 w = 3 then (if wd = 0 then some (L 4 w) else none) else some (L 4 w)
def nO (x : Option Nat) : Int32 := match x with
  | some k => nI k
  | none => -4
def otL (L : LT) (w p : Nat) : Option Nat := if L 2 w = p then some (L 3 w) else if L 3 w = p then some (L 2 w) else none
theorem hiF {h : MH} {g : Nat} {L : LT} (e : HiA h g L) : m_cls h g = some 0 ∧ m_fi h g 0 7 = some (nI (L 7 0)) ∧ m_fi h g 0 8 = some (nI (L 7 1)) ∧ m_fi h g 0 9 = some (nI (L 7 2)) ∧ m_fi h g 0 10 = some (nI (L 7 3)) ∧ m_fi h g 0 11 = some (nI (L 7 4)) ∧ m_fi h g 0 12 = some (nI (L 7 5)) ∧ m_fi h g 0 13 = some (nI (L 7 6)) ∧ m_fr h g 0 0 = some (g + 1) ∧ m_fr h g 0 1 = some (g + 2) ∧ m_fr h g 0 2 = some (g + 3) ∧ m_fr h g 0 3 = some (g + 4) ∧ m_fr h g 0 4 = some (g + 5) ∧ m_fr h g 0 5 = some (g + 6) ∧ m_fr h g 0 6 = some (g + 7) ∧ m_al h (g + 1) = some (nI 12) ∧ (∀ k, k < 12 → m_ai h (g + 1) 0 (nI k) = some (nI (L 0 k))) ∧ (∀ k, k < 10 → m_ai h (g + 2) 0 (nI k) = some (nI (L 1 k))) ∧ (∀ k, k < 10 → m_ai h (g + 3) 0 (nI k) = some (nI (L 2 k))) ∧ (∀ k, k < 10 → m_ai h (g + 4) 0 (nI k) = some (nI (L 3 k))) ∧ (∀ k, k < 10 → m_ai h (g + 5) 0 (nI k) = some (nI (L 4 k))) ∧ (∀ k, k < 4 → m_ai h (g + 6) 0 (nI k) = some (nI (L 5 k))) ∧ (∀ k, k < 4 → m_ai h (g + 7) 0 (nI k) = some (nI (L 6 k))) := by
  obtain ⟨e0, e1, e2, e3, e4, e5, e6, e7⟩ := e
  exact ⟨cls_e e0, fi_e e0 rfl, fi_e e0 rfl, fi_e e0 rfl, fi_e e0 rfl, fi_e e0 rfl, fi_e e0 rfl, fi_e e0 rfl, fr_e e0 rfl, fr_e e0 rfl, fr_e e0 rfl, fr_e e0 rfl, fr_e e0 rfl, fr_e e0 rfl, fr_e e0 rfl, al_e e1 (by decide), fun k hk => ai_e e1 hk (by decide), fun k hk => ai_e e2 hk (by decide), fun k hk => ai_e e3 hk (by decide), fun k hk => ai_e e4 hk (by decide), fun k hk => ai_e e5 hk (by decide), fun k hk => ai_e e6 hk (by decide), fun k hk => ai_e e7 hk (by decide)⟩
theorem moF {h : MH} {m : Nat} {M : LT} (e : MoA h m M) : m_cls h m = some 1 ∧ m_fi h m 1 2 = some (nI (M 2 0)) ∧ m_fi h m 1 3 = some (nI (M 2 1)) ∧ m_fi h m 1 4 = some (nI (M 2 2)) ∧ m_fi h m 1 5 = some (nI (M 2 3)) ∧ m_fr h m 1 0 = some (m + 1) ∧ m_fr h m 1 1 = some (m + 2) ∧ (∀ k, k < 4 → m_ai h (m + 1) 0 (nI k) = some (nI (M 0 k))) ∧ (∀ k, k < 4 → m_ai h (m + 2) 0 (nI k) = some (nI (M 1 k))) := by
  obtain ⟨e0, e1, e2⟩ := e
  exact ⟨cls_e e0, fi_e e0 rfl, fi_e e0 rfl, fi_e e0 rfl, fi_e e0 rfl, fr_e e0 rfl, fr_e e0 rfl, fun k hk => ai_e e1 hk (by decide), fun k hk => ai_e e2 hk (by decide)⟩
-- frames: outside lo..hi nothing changes
def Fr (lo hi : Nat) (h h' : MH) : Prop := h'.length = h.length ∧ ∀ b, (b < lo ∨ hi ≤ b) → h'[b]? = h[b]?
theorem Fr.rf (lo hi : Nat) (h : MH) : Fr lo hi h h := ⟨rfl, fun _ _ => rfl⟩
theorem Fr.tr {lo hi : Nat} {h h1 h2 : MH} (a : Fr lo hi h h1) (b : Fr lo hi h1 h2) : Fr lo hi h h2 := ⟨b.1.trans a.1, fun q hq => (b.2 q hq).trans (a.2 q hq)⟩
theorem Fr.wd {lo hi lo' hi' : Nat} {h h1 : MH} (a : Fr lo hi h h1) (p1 : lo' ≤ lo) (p2 : hi ≤ hi') : Fr lo' hi' h h1 := ⟨a.1, fun q hq => a.2 q (by omega)⟩
theorem Fr.st {lo hi a : Nat} {h : MH} {x : va_E} (h1 : lo ≤ a) (h2 : a < hi) : Fr lo hi h (h.set a x) := ⟨by simp, fun q hq => List.getElem?_set_ne (by omega)⟩
theorem Fr.at {lo hi b : Nat} {h h' : MH} {x : va_E} (f : Fr lo hi h h') (hb : b < lo ∨ hi ≤ b) (e : h[b]? = some x) : h'[b]? = some x := by rw [f.2 b hb]; exact e
theorem Fr.hi {lo hi g : Nat} {h h' : MH} {L : LT} (f : Fr lo hi h h') (hb : g + 8 ≤ lo ∨ hi ≤ g) (e : HiA h g L) : HiA h' g L := by
  obtain ⟨e0, e1, e2, e3, e4, e5, e6, e7⟩ := e
  exact ⟨f.at (by omega) e0, f.at (by omega) e1, f.at (by omega) e2, f.at (by omega) e3, f.at (by omega) e4, f.at (by omega) e5, f.at (by omega) e6, f.at (by omega) e7⟩
theorem Fr.mo {lo hi m : Nat} {h h' : MH} {M : LT} (f : Fr lo hi h h') (hb : m + 3 ≤ lo ∨ hi ≤ m) (e : MoA h m M) : MoA h' m M := by
  obtain ⟨e0, e1, e2⟩ := e
  exact ⟨f.at (by omega) e0, f.at (by omega) e1, f.at (by omega) e2⟩
def uL (M : LT) (r k x : Nat) : LT := fun r' i => if r' = r then (if i = k then x else M r i) else M r' i
theorem uL_s (M : LT) (r k x : Nat) : uL M r k x r k = x := by simp [uL]
theorem uL_r (M : LT) {r r' : Nat} (k x i : Nat) (h : r' ≠ r) : uL M r k x r' i = M r' i := by simp [uL, h]
theorem uL_k (M : LT) (r : Nat) {k i : Nat} (x : Nat) (h : i ≠ k) : uL M r k x r i = M r i := by simp [uL, h]
theorem moW2 {h : MH} {m : Nat} {M : LT} (e : MoA h m M) (kk k x : Nat) (hk : kk = k + 2) (h4 : k < 4) : ∃ h', m_pf h m 1 kk (.int (nI x)) = some h' ∧ MoA h' m (uL M 2 k x) ∧ Fr m (m + 3) h h' := by
  obtain ⟨e0, e1, e2⟩ := e
  subst hk
  refine ⟨_, kMo_pf e0 (by omega), ⟨?_, st_ne (by omega) e1, st_ne (by omega) e2⟩, Fr.st (by omega) (by omega)⟩
  rw [st_eq e0]
  have : ∀ j, 2 ≤ j → upd (fun k => nI (M 2 (k - 2))) (k + 2) (nI x) j = nI (uL M 2 k x 2 (j - 2)) := by
    intro j hj
    unfold upd uL
    by_cases hjk : j = k + 2
    · subst hjk; simp
    · have : ¬ j - 2 = k := by omega
      simp [hjk, this]
  simp [kMo, this]
theorem moW0 {h : MH} {m : Nat} {M : LT} (e : MoA h m M) {k : Nat} (x : Nat) (hk : k < 4) : ∃ h', m_pi h (m + 1) 0 (nI k) (nI x) = some h' ∧ MoA h' m (uL M 0 k x) ∧ Fr m (m + 3) h h' := by
  obtain ⟨e0, e1, e2⟩ := e
  refine ⟨_, pi_e e1 hk (by decide), ⟨st_ne (by omega) e0, ?_, st_ne (by omega) e2⟩, Fr.st (by omega) (by omega)⟩
  rw [st_eq e1, upd_nI]
  simp [uL]
theorem moW1 {h : MH} {m : Nat} {M : LT} (e : MoA h m M) {k : Nat} (x : Nat) (hk : k < 4) : ∃ h', m_pi h (m + 2) 0 (nI k) (nI x) = some h' ∧ MoA h' m (uL M 1 k x) ∧ Fr m (m + 3) h h' := by
  obtain ⟨e0, e1, e2⟩ := e
  refine ⟨_, pi_e e2 hk (by decide), ⟨st_ne (by omega) e0, st_ne (by omega) e1, ?_⟩, Fr.st (by omega) (by omega)⟩
  rw [st_eq e2, upd_nI]
  simp [uL]
