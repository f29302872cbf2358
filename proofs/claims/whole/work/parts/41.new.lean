/-! the constructor of the class -/
def Ex (h h' : MH) : Prop := h.length ≤ h'.length ∧ ∀ b, 1 ≤ b → b < h.length → h'[b]? = h[b]?
theorem Ex.tr {h h1 h2 : MH} (a : Ex h h1) (b : Ex h1 h2) : Ex h h2 := ⟨Nat.le_trans a.1 b.1, fun q h1' h2' => (b.2 q h1' (Nat.lt_of_lt_of_le h2' a.1)).trans (a.2 q h1' h2')⟩
theorem Ex.at {h h' : MH} {b : Nat} {x : va_E} (f : Ex h h') (hb : 1 ≤ b) (e : h[b]? = some x) : h'[b]? = some x := by rw [f.2 b hb (List.getElem?_eq_some_iff.mp e).1]; exact e
theorem Ex.ap (h tl : MH) : Ex h (h ++ tl) := ⟨by simp, fun b _ hb => List.getElem?_append_left hb⟩
def Sn (h : MH) (fs : List Value) (N : Nat) : Prop := h[0]? = some (.inr (7, fs)) ∧ fs.length = 11 ∧ h.length = N
theorem Sn.pf {h : MH} {fs : List Value} {N : Nat} (e : Sn h fs N) {k : Nat} (v : Value) (hk : k < 11) : ∃ h', m_pf h 0 7 k v = some h' ∧ Sn h' (fs.set k v) N ∧ Ex h h' := by
  obtain ⟨e0, e1, e2⟩ := e
  exact ⟨_, pf_e e0 (by omega), ⟨st_eq e0, by simp [e1], by simp [e2]⟩, by simp, fun b hb _ => List.getElem?_set_ne (by omega)⟩
theorem Sn.ap {h : MH} {fs : List Value} {N : Nat} (e : Sn h fs N) (tl : MH) {n : Nat} (hn : tl.length = n) : Sn (h ++ tl) fs (N + n) := ⟨ap_at e.1, e.2.1, by rw [List.length_append, e.2.2, hn]⟩
section
variable {h h' : MH}
theorem Ex.hi {g : Nat} {L : LT} (f : Ex h h') (hg : 1 ≤ g) (e : HiA h g L) : HiA h' g L := by
  obtain ⟨e0, e1, e2, e3, e4, e5, e6, e7⟩ := e
  exact ⟨f.at (by omega) e0, f.at (by omega) e1, f.at (by omega) e2, f.at (by omega) e3, f.at (by omega) e4, f.at (by omega) e5, f.at (by omega) e6, f.at (by omega) e7⟩
theorem Ex.tx {a : Nat} {T : LT} (f : Ex h h') (hg : 1 ≤ a) (e : TxA h a T) : TxA h' a T := ⟨f.at (by omega) e.1, f.at (by omega) e.2⟩
theorem Ex.sc {a t : Nat} {T : LT} (f : Ex h h') (hg : 1 ≤ a) (e : ScA h a t T) : ScA h' a t T := ⟨f.at (by omega) e.1, f.at (by omega) e.2⟩
theorem Ex.mo {a : Nat} {T : LT} (f : Ex h h') (hg : 1 ≤ a) (e : MoA h a T) : MoA h' a T := ⟨f.at (by omega) e.1, f.at (by omega) e.2.1, f.at (by omega) e.2.2⟩
theorem Ex.se {a : Nat} {T : LT} (f : Ex h h') (hg : 1 ≤ a) (e : SeA h a T) : SeA h' a T := ⟨f.at (by omega) e.1, f.at (by omega) e.2.1, f.at (by omega) e.2.2⟩
theorem Ex.ou {a : Nat} {T : LT} (f : Ex h h') (hg : 1 ≤ a) (e : OuA h a T) : OuA h' a T := ⟨f.at (by omega) e.1, f.at (by omega) e.2.1, f.at (by omega) e.2.2⟩
theorem Ex.sh {a n nx hd : Nat} {P : Nat → LT} (f : Ex h h') (hg : 1 ≤ a) (e : ShA h a n nx hd P) : ShA h' a n nx hd P := by
  obtain ⟨h1, h2, e0, e1, e2⟩ := e
  refine ⟨h1, h2, f.at (by omega) e0, f.at (by omega) e1, fun j hj => ?_⟩
  obtain ⟨M, q1, q2, q3⟩ := e2 j hj
  exact ⟨M, f.mo (by omega) q1, q2, q3⟩
theorem mosC_at (a : Nat) : ∀ n i, i < n → ∀ q, q < 3 → (mosC a n)[3 * i + q]? = (momC (a + 2 + 3 * i))[q]? := by
  intro n
  induction n with
  | zero => intro i hi; omega
  | succ n ih =>
    intro i hi q hq
    unfold mosC
    by_cases hin : i = n
    · subst hin
      rw [List.getElem?_append_right (by rw [mosC_l]; omega), mosC_l, Nat.add_sub_cancel_left]
    · rw [List.getElem?_append_left (by rw [mosC_l]; omega)]
      exact ih i (by omega) q hq
theorem n_sh {n : Nat} (hn : 1 ≤ n) : ShA (h ++ sheC h.length n n) h.length n 0 0 (fun _ => zL) := by
  have hmo : ∀ i, i < n → MoA (h ++ sheC h.length n n) (h.length + 2 + 3 * i) zL := by
    intro i hi
    have hc : ∀ q, q < 3 → (h ++ sheC h.length n n)[h.length + 2 + 3 * i + q]? = (momC (h.length + 2 + 3 * i))[q]? := by
      intro q hq
      rw [List.getElem?_append_right (by omega), show h.length + 2 + 3 * i + q - h.length = (3 * i + q) + 1 + 1 by omega]
      unfold sheC
      rw [List.getElem?_cons_succ, List.getElem?_cons_succ]
      exact mosC_at h.length n i hi q hq
    exact ⟨hc 0 (by omega), hc 1 (by omega), hc 2 (by omega)⟩
  refine ⟨by omega, by omega, ?_, ?_, fun j hj => ?_⟩
  · rw [List.getElem?_append_right (by omega), Nat.sub_self]; rfl
  · rw [List.getElem?_append_right (by omega), Nat.add_sub_cancel_left]; rfl
  · exact ⟨zL, hmo _ (Nat.mod_lt _ (by omega)), AgM.rf _, by show 0 ≤ 1; omega⟩

/-- where the class puts its objects: the text 1, the scribe 3, the hill 5, the spare one 13, now 21, trial 24, past 27, kept 53, seen 61, outlook 64, chances 67 -/
abbrev kO2 : va_E := .inr (7, [.ref 1, .ref 3, .ref 21, .ref 24, .ref 27, .ref 53, .ref 61, .ref 64, .ref 67, .ref 5, .ref 13])
def NA (g : MH) (L M T C : LT) : Prop := g.length = 68 ∧ g[0]? = some kO2 ∧ HiA g 5 L ∧ HiA g 13 zL ∧ TxA g 1 T ∧ ScA g 3 1 C ∧ MoA g 21 M ∧ MoA g 24 zL ∧ ShA g 27 8 0 0 (fun _ => zL) ∧ ShA g 53 2 0 0 (fun _ => zL) ∧ SeA g 61 zL ∧ OuA g 64 zL ∧ g[67]? = some (kI 9 (fun i => nI (zL 0 i)))
theorem n_fst {a0 : Nat} : ∃ g C x, m_ev 58 0 [some (.ref a0), none, none, none, none] [] h = m_ev 58 32 [some (.ref a0), some (.ref h.length), some (.ref (h.length + 2)), some (.ref (h.length + 4)), some (.int (nI (m_chs 0).length))] [.int x] g ∧ g.length = h.length + 12 ∧ (∀ b, b < h.length → g[b]? = h[b]?) ∧ TxA g h.length firT ∧ ScA g (h.length + 2) h.length C ∧ HiA g (h.length + 4) (cop0 firT zL zL).2.1 := by
  have t0 : TxA (h ++ texC h.length) h.length zL := by
    have := n_tx (h := h) (tl := [])
    rwa [List.append_nil] at this
  have q0 := n_text (y := 58) (k := 5) (ls := [some (.ref a0), none, none, none, none]) (r := [.ref h.length]) (h := h)
  have k0 : ∀ b, b < h.length → (h ++ texC h.length)[b]? = h[b]? := fun b hb => List.getElem?_append_left hb
  have lA : (h ++ texC h.length).length = h.length + 2 := by rw [List.length_append]; rfl
  have b0 := b58_0 a0 h
  generalize h ++ texC h.length = A at *
  rw [q0] at b0
  have s1 : ScA (A ++ scrC A.length h.length) A.length h.length zL := by
    have := n_sc (h := A) (tl := []) (t := h.length)
    rwa [List.append_nil] at this
  have t1 := ap_tx (tl := scrC A.length h.length) t0
  have q1 := n_scribe (y := 58) (k := 10) (ls := [some (.ref a0), some (.ref h.length), none, none, none]) (r := [.ref A.length]) (h := A) (t := h.length)
  have k1 : ∀ b, b < A.length → (A ++ scrC A.length h.length)[b]? = A[b]? := fun b hb => List.getElem?_append_left hb
  have lB : (A ++ scrC A.length h.length).length = h.length + 4 := by rw [List.length_append, lA]; rfl
  have b1 := b58_5 a0 h.length A
  generalize A ++ scrC A.length h.length = B at *
  rw [q1] at b1
  have u2 : HiA (B ++ hilC B.length) B.length zL := by
    have := n_hi (h := B) (tl := [])
    rwa [List.append_nil] at this
  have t2 := ap_tx (tl := hilC B.length) t1
  have s2 : ScA (B ++ hilC B.length) A.length h.length zL := ⟨ap_at s1.1, ap_at s1.2⟩
  have q2 := n_hill (y := 58) (k := 14) (ls := [some (.ref a0), some (.ref h.length), some (.ref A.length), none, none]) (r := [.ref B.length]) (h := B)
  have k2 : ∀ b, b < B.length → (B ++ hilC B.length)[b]? = B[b]? := fun b hb => List.getElem?_append_left hb
  have lC : (B ++ hilC B.length).length = h.length + 12 := by rw [List.length_append, lB]; rfl
  have b2 := b58_10 a0 h.length A.length B
  generalize B ++ hilC B.length = D at *
  rw [q2, b58_14] at b2
  obtain ⟨h3, q3, e3, f3⟩ := fir_loop (a0 := a0) (a2 := A.length) (a3 := B.length) (m_chs 0).length 0 (by omega) D t2
  have s3 := f3.sc (by omega) s2
  have u3 := f3.hi (by omega) u2
  obtain ⟨h4, q4, e4, u4, f4⟩ := c_copyOut (y := 58) (k := 32) (ls := [some (.ref a0), some (.ref h.length), some (.ref A.length), some (.ref B.length), some (.int (nI (m_chs 0).length))]) (r := []) s3 e3 u3 firT_wf (by omega) (by omega) (by omega)
  refine ⟨h4, (cop0 firT zL zL).2.2, nO (cop0 firT zL zL).1, ?_, by rw [f4.1, f3.1, lC], fun b hb => ?_, ⟨f4.at (by omega) (by omega) e3.1, f4.at (by omega) (by omega) e3.2⟩, by rw [← lA]; exact e4, by rw [← lB]; exact u4⟩
  · rw [b0, b1, b2, q3, b58_29, if_pos (scF s3).1, q4, lA, lB]
  · rw [f4.2 b (by omega) (by omega), f3.2 b (by omega), k2 b (by omega), k1 b (by omega), k0 b hb]
theorem a_new0 : ∃ g M C, m_ev 58 0 (m_ent (m_maxL 58) [.ref 0]) [] [.inr (7, m_def 7)] = some (none, g) ∧ AgM M (st0 (cop0 firT zL zL).2.1) ∧ NA g (cop0 firT zL zL).2.1 M (uL firT 1 0 0) C := by
  obtain ⟨ha, C, x0, qa, la, ka, ta, sa, ua⟩ := n_fst (h := [.inr (7, m_def 7)]) (a0 := 0)
  have la : ha.length = 13 := la
  obtain ⟨h1, q1, t1', f1⟩ := txW1 ta 0
  have z0 : h1[0]? = some (.inr (7, m_def 7)) := f1.at (Or.inl (by show 0 < 1; omega)) (by rw [ka 0 (by show 0 < 1; omega)]; rfl)
  have sb : ScA h1 3 1 C := f1.sc (Or.inr (by show 1 + 2 ≤ 3; omega)) sa
  have ub : HiA h1 5 (cop0 firT zL zL).2.1 := f1.hi (Or.inr (by show 1 + 2 ≤ 5; omega)) ua
  have tb : TxA h1 1 (uL firT 1 0 0) := t1'
  have l1 : h1.length = 13 := by rw [f1.1, la]
  have s1 : Sn h1 (m_def 7) 13 := ⟨z0, rfl, l1⟩
  obtain ⟨ga, pa, sa1, xa⟩ := s1.pf (k := 0) (.ref 1) (by omega)
  obtain ⟨gb, pb, sb1, xb⟩ := sa1.pf (k := 1) (.ref 3) (by omega)
  obtain ⟨g1, pc, t1, xc⟩ := sb1.pf (k := 9) (.ref 5) (by omega)
  have x1 := xa.tr (xb.tr xc)
  have lg1 : g1.length = 13 := t1.2.2
  have c1 := n_hill (y := 58) (k := 49) (ls := [some (.ref 0), some (.ref 1), some (.ref 3), some (.ref 5), some (.int (nI (m_chs 0).length))]) (r := [.ref 13, .ref 0]) (h := g1)
  have k1 : Sn (g1 ++ hilC g1.length) _ (13 + 8) := t1.ap _ (by first | rfl | exact sheC_l _ _ _)
  have y1 := Ex.ap g1 (hilC g1.length)
  obtain ⟨g2, p2, t2, x2⟩ := k1.pf (k := 10) (.ref 13) (by omega)
  have lg2 : g2.length = 21 := t2.2.2
  have c2 := n_moment (y := 58) (k := 54) (ls := [some (.ref 0), some (.ref 1), some (.ref 3), some (.ref 5), some (.int (nI (m_chs 0).length))]) (r := [.ref 21, .ref 0]) (h := g2)
  have k2 : Sn (g2 ++ momC g2.length) _ (21 + 3) := t2.ap _ (by first | rfl | exact sheC_l _ _ _)
  have y2 := Ex.ap g2 (momC g2.length)
  obtain ⟨g3, p3, t3, x3⟩ := k2.pf (k := 2) (.ref 21) (by omega)
  have lg3 : g3.length = 24 := t3.2.2
  have c3 := n_moment (y := 58) (k := 59) (ls := [some (.ref 0), some (.ref 1), some (.ref 3), some (.ref 5), some (.int (nI (m_chs 0).length))]) (r := [.ref 24, .ref 0]) (h := g3)
  have k3 : Sn (g3 ++ momC g3.length) _ (24 + 3) := t3.ap _ (by first | rfl | exact sheC_l _ _ _)
  have y3 := Ex.ap g3 (momC g3.length)
  obtain ⟨g4, p4, t4, x4⟩ := k3.pf (k := 3) (.ref 24) (by omega)
  have lg4 : g4.length = 27 := t4.2.2
  have c4 := n_shelf (y := 58) (k := 65) (ls := [some (.ref 0), some (.ref 1), some (.ref 3), some (.ref 5), some (.int (nI (m_chs 0).length))]) (r := [.ref 27, .ref 0]) (h := g4) (n := 8) (by omega) (by omega)
  have k4 : Sn (g4 ++ sheC g4.length 8 8) _ (27 + 26) := t4.ap _ (by first | rfl | exact sheC_l _ _ _)
  have y4 := Ex.ap g4 (sheC g4.length 8 8)
  obtain ⟨g5, p5, t5, x5⟩ := k4.pf (k := 4) (.ref 27) (by omega)
  have lg5 : g5.length = 53 := t5.2.2
  have c5 := n_shelf (y := 58) (k := 71) (ls := [some (.ref 0), some (.ref 1), some (.ref 3), some (.ref 5), some (.int (nI (m_chs 0).length))]) (r := [.ref 53, .ref 0]) (h := g5) (n := 2) (by omega) (by omega)
  have k5 : Sn (g5 ++ sheC g5.length 2 2) _ (53 + 8) := t5.ap _ (by first | rfl | exact sheC_l _ _ _)
  have y5 := Ex.ap g5 (sheC g5.length 2 2)
  obtain ⟨g6, p6, t6, x6⟩ := k5.pf (k := 5) (.ref 53) (by omega)
  have lg6 : g6.length = 61 := t6.2.2
  have c6 := n_seen (y := 58) (k := 76) (ls := [some (.ref 0), some (.ref 1), some (.ref 3), some (.ref 5), some (.int (nI (m_chs 0).length))]) (r := [.ref 61, .ref 0]) (h := g6)
  have k6 : Sn (g6 ++ seeC g6.length) _ (61 + 3) := t6.ap _ (by first | rfl | exact sheC_l _ _ _)
  have y6 := Ex.ap g6 (seeC g6.length)
  obtain ⟨g7, p7, t7, x7⟩ := k6.pf (k := 6) (.ref 61) (by omega)
  have lg7 : g7.length = 64 := t7.2.2
  have c7 := n_outlook (y := 58) (k := 81) (ls := [some (.ref 0), some (.ref 1), some (.ref 3), some (.ref 5), some (.int (nI (m_chs 0).length))]) (r := [.ref 64, .ref 0]) (h := g7)
  have k7 : Sn (g7 ++ outC g7.length) _ (64 + 3) := t7.ap _ (by first | rfl | exact sheC_l _ _ _)
  have y7 := Ex.ap g7 (outC g7.length)
  obtain ⟨g8, p8, t8, x8⟩ := k7.pf (k := 7) (.ref 64) (by omega)
  have lg8 : g8.length = 67 := t8.2.2
  have k8 : Sn (g8 ++ [kI 9 (fun _ => 0)]) _ (67 + 1) := t8.ap _ rfl
  obtain ⟨g9, p9, t9, x9⟩ := k8.pf (k := 8) (.ref 67) (by omega)
  have y8 := Ex.ap g8 [kI 9 (fun _ => 0)]
  have w8 : Ex g8 g9 := y8.tr x9
  have w7 := y7.tr (x8.tr w8)
  have w6 := y6.tr (x7.tr w7)
  have w5 := y5.tr (x6.tr w6)
  have w4 := y4.tr (x5.tr w5)
  have w3 := y3.tr (x4.tr w4)
  have w2 := y2.tr (x3.tr w3)
  have w1 := y1.tr (x2.tr w2)
  have w0 := x1.tr w1
  have o9 : g9[0]? = some kO2 := t9.1
  have hu1 : HiA g9 5 (cop0 firT zL zL).2.1 := w0.hi (by omega) ub
  have tx1 : TxA g9 1 (uL firT 1 0 0) := w0.tx (by omega) tb
  have sc1 : ScA g9 3 1 C := w0.sc (by omega) sb
  have hi2 : HiA g9 13 zL := by
    have q := n_hi (h := g1) (tl := [])
    rw [List.append_nil, lg1] at q
    have q2 := x2.tr w2
    rw [lg1] at q2
    exact q2.hi (by omega) q
  have mo1 : MoA g9 21 zL := by
    have q := n_mo (h := g2) (tl := [])
    rw [List.append_nil, lg2] at q
    have q2 := x3.tr w3
    rw [lg2] at q2
    exact q2.mo (by omega) q
  have mo2 : MoA g9 24 zL := by
    have q := n_mo (h := g3) (tl := [])
    rw [List.append_nil, lg3] at q
    have q2 := x4.tr w4
    rw [lg3] at q2
    exact q2.mo (by omega) q
  have sh1 : ShA g9 27 8 0 0 (fun _ => zL) := by
    have q := n_sh (h := g4) (n := 8) (by omega)
    rw [lg4] at q
    have q2 := x5.tr w5
    rw [lg4] at q2
    exact q2.sh (by omega) q
  have sh2 : ShA g9 53 2 0 0 (fun _ => zL) := by
    have q := n_sh (h := g5) (n := 2) (by omega)
    rw [lg5] at q
    have q2 := x6.tr w6
    rw [lg5] at q2
    exact q2.sh (by omega) q
  have se1 : SeA g9 61 zL := by
    have q := n_se (h := g6) (tl := [])
    rw [List.append_nil, lg6] at q
    have q2 := x7.tr w7
    rw [lg6] at q2
    exact q2.se (by omega) q
  have ou1 : OuA g9 64 zL := by
    have q := n_ou (h := g7) (tl := [])
    rw [List.append_nil, lg7] at q
    have q2 := x8.tr w8
    rw [lg7] at q2
    exact q2.ou (by omega) q
  have ch1 : g9[67]? = some (kI 9 (fun i => nI (zL 0 i))) := by
    refine x9.at (by omega) ?_
    rw [List.getElem?_append_right (by omega), lg8]; rfl
  obtain ⟨hf, Mf, qf, gf, af, ff⟩ := c_start (y := 58) (k := 90) (ls := [some (.ref 0), some (.ref 1), some (.ref 3), some (.ref 5), some (.int (nI (m_chs 0).length))]) (r := []) hu1 mo1 (by omega)
  refine ⟨hf, Mf, C, ?_, af, by rw [ff.1]; exact t9.2.2, ff.at (by omega) o9, ff.hi (by omega) hu1, ff.hi (by omega) hi2, ff.tx (by omega) tx1, ff.sc (by omega) sc1, gf, ff.mo (by omega) mo2, ff.sh (by omega) sh1, ff.sh (by omega) sh2, ff.se (by omega) se1, ff.ou (by omega) ou1, ff.at (by omega) ch1⟩
  show m_ev 58 0 [some (.ref 0), none, none, none, none] [] [.inr (7, m_def 7)] = _
  rw [qa]
  have e1 : [(Sum.inr (7, m_def 7) : va_E)].length = 1 := rfl
  rw [e1] at q1 ⊢
  have q1 : m_pf ha 1 6 1 (.int (nI 0)) = some h1 := q1
  show m_ev 58 32 [some (.ref 0), some (.ref 1), some (.ref 3), some (.ref 5), some (.int (nI (m_chs 0).length))] [.int x0] ha = _
  rw [b58_32, q1]
  simp only [Option.bind_some]
  rw [pa]
  simp only [Option.bind_some]
  rw [pb]
  simp only [Option.bind_some]
  rw [pc]
  simp only [Option.bind_some]
  rw [lg1] at c1 k1 p2
  rw [lg1, c1, b58_49, p2]
  simp only [Option.bind_some]
  rw [lg2] at c2 k2 p3
  rw [lg2, c2, b58_54, p3]
  simp only [Option.bind_some]
  rw [lg3] at c3 k3 p4
  rw [lg3, c3, b58_59, p4]
  simp only [Option.bind_some]
  rw [lg4] at c4 k4 p5
  rw [lg4, c4, b58_65, p5]
  simp only [Option.bind_some]
  rw [lg5] at c5 k5 p6
  rw [lg5, c5, b58_71, p6]
  simp only [Option.bind_some]
  rw [lg6] at c6 k6 p7
  rw [lg6, c6, b58_76, p7]
  simp only [Option.bind_some]
  rw [lg7] at c7 k7 p8
  rw [lg7, c7, b58_81, p8]
  have on : m_fr g9 0 7 2 = some 21 := fr_e o9 rfl
  simp only [Option.bind_some, lg8, p9, on, moF mo1, if_true]
  rw [qf, b58_90]
end
