/-! the constructor of the class -/
def Ex (h h' : MH) : Prop := h.length ≤ h'.length ∧ ∀ b, 1 ≤ b → b < h.length → h'[b]? = h[b]?
theorem Ex.tr {h h1 h2 : MH} (a : Ex h h1) (b : Ex h1 h2) : Ex h h2 := ⟨Nat.le_trans a.1 b.1, fun q h1' h2' => (b.2 q h1' (Nat.lt_of_lt_of_le h2' a.1)).trans (a.2 q h1' h2')⟩
theorem Ex.at {h h' : MH} {b : Nat} {x : va_E} (f : Ex h h') (hb : 1 ≤ b) (e : h[b]? = some x) : h'[b]? = some x := by rw [f.2 b hb (List.getElem?_eq_some_iff.mp e).1]; exact e
theorem Ex.ap (h tl : MH) : Ex h (h ++ tl) := ⟨by simp, fun b _ hb => List.getElem?_append_left hb⟩
def Sn (h : MH) (fs : List Value) (N : Nat) : Prop := h[0]? = some (.inr (7, fs)) ∧ fs.length = 11 ∧ h.length = N
theorem Sn.pf {h : MH} {fs : List Value} {N : Nat} (e : Sn h fs N) {k : Nat} (v : Value) (hk : k < 11) : ∃ h', m_pf h 0 7 k v = some h' ∧ Sn h' (fs.set k v) N ∧ Ex h h' := by
  obtain ⟨e0, e1, e2⟩ := e
  exact ⟨_, pf_e e0 (by omega), ⟨st_eq e0, by simp [e1], by simp [e2]⟩, by simp, fun b hb _ => List.getElem?_set_ne (by omega)⟩
theorem Sn.ap {h : MH} {fs : List Value} {N : Nat} (e : Sn h fs N) (tl : MH) {n : Nat} (hn : tl.length = n) : Sn (h ++ tl) fs (N + n) := ⟨ap_at e.1, e.2.1, by rw [List.length_append, e.2.2, hn]⟩
section
variable {h h' : MH}
theorem Ex.hi {g : Nat} {L : LT} (f : Ex h h') (hg : 1 ≤ g) (e : HiA h g L) : HiA h' g L := by
  obtain ⟨e0, e1, e2, e3, e4, e5, e6, e7⟩ := e
  exact ⟨f.at (by omega) e0, f.at (by omega) e1, f.at (by omega) e2, f.at (by omega) e3, f.at (by omega) e4, f.at (by omega) e5, f.at (by omega) e6, f.at (by omega) e7⟩
theorem Ex.tx {a : Nat} {T : LT} (f : Ex h h') (hg : 1 ≤ a) (e : TxA h a T) : TxA h' a T := ⟨f.at (by omega) e.1, f.at (by omega) e.2⟩
theorem Ex.sc {a t : Nat} {T : LT} (f : Ex h h') (hg : 1 ≤ a) (e : ScA h a t T) : ScA h' a t T := ⟨f.at (by omega) e.1, f.at (by omega) e.2⟩
theorem Ex.mo {a : Nat} {T : LT} (f : Ex h h') (hg : 1 ≤ a) (e : MoA h a T) : MoA h' a T := ⟨f.at (by omega) e.1, f.at (by omega) e.2.1, f.at (by omega) e.2.2⟩
theorem Ex.se {a : Nat} {T : LT} (f : Ex h h') (hg : 1 ≤ a) (e : SeA h a T) : SeA h' a T := ⟨f.at (by omega) e.1, f.at (by omega) e.2.1, f.at (by omega) e.2.2⟩
theorem Ex.ou {a : Nat} {T : LT} (f : Ex h h') (hg : 1 ≤ a) (e : OuA h a T) : OuA h' a T := ⟨f.at (by omega) e.1, f.at (by omega) e.2.1, f.at (by omega) e.2.2⟩
theorem Ex.sh {a n nx hd : Nat} {P : Nat → LT} (f : Ex h h') (hg : 1 ≤ a) (e : ShA h a n nx hd P) : ShA h' a n nx hd P := by
  obtain ⟨h1, h2, e0, e1, e2⟩ := e
  refine ⟨h1, h2, f.at (by omega) e0, f.at (by omega) e1, fun j hj => ?_⟩
  obtain ⟨M, q1, q2, q3⟩ := e2 j hj
  exact ⟨M, f.mo (by omega) q1, q2, q3⟩
theorem mosC_at (a : Nat) : ∀ n i, i < n → ∀ q, q < 3 → (mosC a n)[3 * i + q]? = (momC (a + 2 + 3 * i))[q]? := by
  intro n
  induction n with
  | zero => intro i hi; omega
  | succ n ih =>
    intro i hi q hq
    unfold mosC
    by_cases hin : i = n
    · subst hin
      rw [List.getElem?_append_right (by rw [mosC_l]; omega), mosC_l, Nat.add_sub_cancel_left]
    · rw [List.getElem?_append_left (by rw [mosC_l]; omega)]
      exact ih i (by omega) q hq
theorem n_sh {n : Nat} (hn : 1 ≤ n) : ShA (h ++ sheC h.length n n) h.length n 0 0 (fun _ => zL) := by
  have hmo : ∀ i, i < n → MoA (h ++ sheC h.length n n) (h.length + 2 + 3 * i) zL := by
    intro i hi
    have hc : ∀ q, q < 3 → (h ++ sheC h.length n n)[h.length + 2 + 3 * i + q]? = (momC (h.length + 2 + 3 * i))[q]? := by
      intro q hq
      rw [List.getElem?_append_right (by omega), show h.length + 2 + 3 * i + q - h.length = (3 * i + q) + 1 + 1 by omega]
      unfold sheC
      rw [List.getElem?_cons_succ, List.getElem?_cons_succ]
      exact mosC_at h.length n i hi q hq
    exact ⟨hc 0 (by omega), hc 1 (by omega), hc 2 (by omega)⟩
  refine ⟨by omega, by omega, ?_, ?_, fun j hj => ?_⟩
  · rw [List.getElem?_append_right (by omega), Nat.sub_self]; rfl
  · rw [List.getElem?_append_right (by omega), Nat.add_sub_cancel_left]; rfl
  · exact ⟨zL, hmo _ (Nat.mod_lt _ (by omega)), AgM.rf _, by show 0 ≤ 1; omega⟩

theorem a_new : ∃ h' M, m_ev 58 0 (m_ent (m_maxL 58) [.ref 0]) [] [.inr (7, m_def 7)] = some (none, h') ∧ h'.length = 72 ∧ AgM M (st0 (cop0 firT zL zL).2.1) ∧ CA h' 3 13 (cop0 firT zL zL).2.1 M zL zL 0 (fun _ => zL) 0 (fun _ => zL) := by
  obtain ⟨h1, q1, l1, f1, u1⟩ := c_firstHill (y := 58) (k := 3) (ls := [some (.ref 0), none, none]) (r := []) (h := [.inr (7, m_def 7)])
  have s1 : Sn h1 (m_def 7) 13 := ⟨by rw [f1 0 (by simp)]; rfl, rfl, l1⟩
  obtain ⟨g1, p1, t1, x1⟩ := s1.pf (k := 9) (.ref 3) (by omega)
  have lg1 : g1.length = 13 := t1.2.2
  have c1 := n_hill (y := 58) (k := 11) (ls := [some (.ref 0), some (.ref 3), none]) (r := [.ref 13, .ref 0]) (h := g1)
  have k1 : Sn (g1 ++ hilC g1.length) _ (13 + 8) := t1.ap _ (by first | rfl | exact sheC_l _ _ _)
  have y1 := Ex.ap g1 (hilC g1.length)
  obtain ⟨g2, p2, t2, x2⟩ := k1.pf (k := 10) (.ref 13) (by omega)
  have lg2 : g2.length = 21 := t2.2.2
  have c2 := n_text (y := 58) (k := 15) (ls := [some (.ref 0), some (.ref 3), none]) (r := [.ref 21]) (h := g2)
  have k2 : Sn (g2 ++ texC g2.length) _ (21 + 2) := t2.ap _ (by first | rfl | exact sheC_l _ _ _)
  have y2 := Ex.ap g2 (texC g2.length)
  obtain ⟨g3, p3, t3, x3⟩ := k2.pf (k := 0) (.ref 21) (by omega)
  have lg3 : g3.length = 23 := t3.2.2
  have c3 := n_scribe (y := 58) (k := 24) (ls := [some (.ref 0), some (.ref 3), some (.ref 21)]) (r := [.ref 23, .ref 0]) (h := g3) (t := 21)
  have k3 : Sn (g3 ++ scrC g3.length 21) _ (23 + 2) := t3.ap _ (by first | rfl | exact sheC_l _ _ _)
  have y3 := Ex.ap g3 (scrC g3.length 21)
  obtain ⟨g4, p4, t4, x4⟩ := k3.pf (k := 1) (.ref 23) (by omega)
  have lg4 : g4.length = 25 := t4.2.2
  have c4 := n_moment (y := 58) (k := 29) (ls := [some (.ref 0), some (.ref 3), some (.ref 21)]) (r := [.ref 25, .ref 0]) (h := g4)
  have k4 : Sn (g4 ++ momC g4.length) _ (25 + 3) := t4.ap _ (by first | rfl | exact sheC_l _ _ _)
  have y4 := Ex.ap g4 (momC g4.length)
  obtain ⟨g5, p5, t5, x5⟩ := k4.pf (k := 2) (.ref 25) (by omega)
  have lg5 : g5.length = 28 := t5.2.2
  have c5 := n_moment (y := 58) (k := 34) (ls := [some (.ref 0), some (.ref 3), some (.ref 21)]) (r := [.ref 28, .ref 0]) (h := g5)
  have k5 : Sn (g5 ++ momC g5.length) _ (28 + 3) := t5.ap _ (by first | rfl | exact sheC_l _ _ _)
  have y5 := Ex.ap g5 (momC g5.length)
  obtain ⟨g6, p6, t6, x6⟩ := k5.pf (k := 3) (.ref 28) (by omega)
  have lg6 : g6.length = 31 := t6.2.2
  have c6 := n_shelf (y := 58) (k := 40) (ls := [some (.ref 0), some (.ref 3), some (.ref 21)]) (r := [.ref 31, .ref 0]) (h := g6) (n := 8) (by omega) (by omega)
  have k6 : Sn (g6 ++ sheC g6.length 8 8) _ (31 + 26) := t6.ap _ (by first | rfl | exact sheC_l _ _ _)
  have y6 := Ex.ap g6 (sheC g6.length 8 8)
  obtain ⟨g7, p7, t7, x7⟩ := k6.pf (k := 4) (.ref 31) (by omega)
  have lg7 : g7.length = 57 := t7.2.2
  have c7 := n_shelf (y := 58) (k := 46) (ls := [some (.ref 0), some (.ref 3), some (.ref 21)]) (r := [.ref 57, .ref 0]) (h := g7) (n := 2) (by omega) (by omega)
  have k7 : Sn (g7 ++ sheC g7.length 2 2) _ (57 + 8) := t7.ap _ (by first | rfl | exact sheC_l _ _ _)
  have y7 := Ex.ap g7 (sheC g7.length 2 2)
  obtain ⟨g8, p8, t8, x8⟩ := k7.pf (k := 5) (.ref 57) (by omega)
  have lg8 : g8.length = 65 := t8.2.2
  have c8 := n_seen (y := 58) (k := 51) (ls := [some (.ref 0), some (.ref 3), some (.ref 21)]) (r := [.ref 65, .ref 0]) (h := g8)
  have k8 : Sn (g8 ++ seeC g8.length) _ (65 + 3) := t8.ap _ (by first | rfl | exact sheC_l _ _ _)
  have y8 := Ex.ap g8 (seeC g8.length)
  obtain ⟨g9, p9, t9, x9⟩ := k8.pf (k := 6) (.ref 65) (by omega)
  have lg9 : g9.length = 68 := t9.2.2
  have c9 := n_outlook (y := 58) (k := 56) (ls := [some (.ref 0), some (.ref 3), some (.ref 21)]) (r := [.ref 68, .ref 0]) (h := g9)
  have k9 : Sn (g9 ++ outC g9.length) _ (68 + 3) := t9.ap _ (by first | rfl | exact sheC_l _ _ _)
  have y9 := Ex.ap g9 (outC g9.length)
  obtain ⟨g10, p10, t10, x10⟩ := k9.pf (k := 7) (.ref 68) (by omega)
  have lg10 : g10.length = 71 := t10.2.2
  have k10 : Sn (g10 ++ [kI 9 (fun _ => 0)]) _ (71 + 1) := t10.ap _ rfl
  obtain ⟨g11, p11, t11, x11⟩ := k10.pf (k := 8) (.ref 71) (by omega)
  have y10 := Ex.ap g10 [kI 9 (fun _ => 0)]
  have z11 := x11
  have z10 : Ex g10 g11 := y10.tr z11
  have w9 := x10.tr z10
  have w8 := x9.tr (y9.tr w9)
  have w7 := x8.tr (y8.tr w8)
  have w6 := x7.tr (y7.tr w7)
  have w5 := x6.tr (y6.tr w6)
  have w4 := x5.tr (y5.tr w5)
  have w3 := x4.tr (y4.tr w4)
  have w2 := x3.tr (y3.tr w3)
  have w1 := x2.tr (y2.tr w2)
  have w0 := x1.tr (y1.tr w1)
  have o11 : g11[0]? = some (kO 3 13) := t11.1
  have hu1 : HiA g11 3 (cop0 firT zL zL).2.1 := w0.hi (by omega) u1
  have hi2 : HiA g11 13 zL := by
    have q := n_hi (h := g1) (tl := [])
    rw [List.append_nil, lg1] at q
    have q2 := w1
    rw [lg1] at q2
    exact q2.hi (by omega) q
  have tx1 : TxA g11 21 zL := by
    have q := n_tx (h := g2) (tl := [])
    rw [List.append_nil, lg2] at q
    have q2 := w2
    rw [lg2] at q2
    exact q2.tx (by omega) q
  have sc1 : ScA g11 23 21 zL := by
    have q := n_sc (t := 21) (h := g3) (tl := [])
    rw [List.append_nil, lg3] at q
    have q2 := w3
    rw [lg3] at q2
    exact q2.sc (by omega) q
  have mo1 : MoA g11 25 zL := by
    have q := n_mo (h := g4) (tl := [])
    rw [List.append_nil, lg4] at q
    have q2 := w4
    rw [lg4] at q2
    exact q2.mo (by omega) q
  have mo2 : MoA g11 28 zL := by
    have q := n_mo (h := g5) (tl := [])
    rw [List.append_nil, lg5] at q
    have q2 := w5
    rw [lg5] at q2
    exact q2.mo (by omega) q
  have sh1 : ShA g11 31 8 0 0 (fun _ => zL) := by
    have q := n_sh (h := g6) (n := 8) (by omega)
    rw [lg6] at q
    have q2 := w6
    rw [lg6] at q2
    exact q2.sh (by omega) q
  have sh2 : ShA g11 57 2 0 0 (fun _ => zL) := by
    have q := n_sh (h := g7) (n := 2) (by omega)
    rw [lg7] at q
    have q2 := w7
    rw [lg7] at q2
    exact q2.sh (by omega) q
  have se1 : SeA g11 65 zL := by
    have q := n_se (h := g8) (tl := [])
    rw [List.append_nil, lg8] at q
    have q2 := w8
    rw [lg8] at q2
    exact q2.se (by omega) q
  have ou1 : OuA g11 68 zL := by
    have q := n_ou (h := g9) (tl := [])
    rw [List.append_nil, lg9] at q
    have q2 := w9
    rw [lg9] at q2
    exact q2.ou (by omega) q
  have ch1 : g11[71]? = some (kI 9 (fun i => nI (zL 0 i))) := by
    refine z11.at (by omega) ?_
    rw [List.getElem?_append_right (by omega), lg10]; rfl
  have ca : CA g11 3 13 (cop0 firT zL zL).2.1 zL zL zL 0 (fun _ => zL) 0 (fun _ => zL) := ⟨Or.inl ⟨rfl, rfl⟩, o11, hu1, ⟨_, hi2⟩, tx1, ⟨_, sc1⟩, mo1, ⟨_, mo2⟩, ⟨_, sh1⟩, ⟨_, sh2⟩, se1, ⟨_, ou1, fun _ => by show 0 < 2048; omega, fun _ => by show 0 < 4; omega⟩, ⟨_, ch1⟩⟩
  obtain ⟨hf, Mf, qf, gf, af, ff⟩ := c_start (y := 58) (k := 65) (ls := [some (.ref 0), some (.ref 3), some (.ref 21)]) (r := []) hu1 mo1 (by omega)
  refine ⟨hf, Mf, ?_, ?_, af, ca.moX gf ff⟩
  · show m_ev 58 0 [some (.ref 0), none, none] [] [.inr (7, m_def 7)] = _
    have e3 : [(Sum.inr (7, m_def 7) : va_E)].length + 2 = 3 := rfl
    rw [e3] at q1
    rw [b58_0, q1, b58_3, p1]
    simp only [Option.bind_some]
    rw [lg1] at c1 k1 p2
    rw [lg1, c1, b58_11, p2]
    simp only [Option.bind_some]
    rw [lg2] at c2 k2 p3
    rw [lg2, c2, b58_15, p3]
    simp only [Option.bind_some]
    rw [lg3] at c3 k3 p4
    rw [lg3, c3, b58_24, p4]
    simp only [Option.bind_some]
    rw [lg4] at c4 k4 p5
    rw [lg4, c4, b58_29, p5]
    simp only [Option.bind_some]
    rw [lg5] at c5 k5 p6
    rw [lg5, c5, b58_34, p6]
    simp only [Option.bind_some]
    rw [lg6] at c6 k6 p7
    rw [lg6, c6, b58_40, p7]
    simp only [Option.bind_some]
    rw [lg7] at c7 k7 p8
    rw [lg7, c7, b58_46, p8]
    simp only [Option.bind_some]
    rw [lg8] at c8 k8 p9
    rw [lg8, c8, b58_51, p9]
    simp only [Option.bind_some]
    rw [lg9] at c9 k9 p10
    rw [lg9, c9, b58_56, p10]
    simp only [Option.bind_some, lg10, p11, oF o11, moF mo1, if_true]
    rw [qf, b58_65]
  · rw [ff.1]; exact t11.2.2
end
