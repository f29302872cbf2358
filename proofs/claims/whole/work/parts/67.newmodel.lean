/-! a new model; both objects at first -/
def modC : MH := [kM (fun _ => 0), kI 12 (fun _ => 0), kI 40 (fun _ => 0), kI 4 (fun _ => 0), kI 12 (fun _ => 0), kI 96 (fun _ => 0), kI 24 (fun _ => 0), kI 12 (fun _ => 0), kI 200 (fun _ => 0), kI 4 (fun _ => 0), kI 12 (fun _ => 0), kI 40 (fun _ => 0), kI 4 (fun _ => 0), kI 4 (fun _ => 0), kI 577 (fun _ => 0), kI 100 (fun _ => 0), kI 12 (fun _ => 0)]
theorem pf_md {h tl : MH} {n c k : Nat} {fs : List Value} {v : Value} (hl : h.length = n) (hk : k < fs.length) : m_pf (h ++ (Sum.inr (c, fs) :: tl)) n c k v = some (h ++ (Sum.inr (c, fs.set k v) :: tl)) := by
  subst hl; exact pf_mid hk
section
variable {y k : Nat} {ls : ML} {r : List Value} {h : MH} {V L M T S C : LT} {hl sp hp hk : Nat} {P K : Nat → LT}
theorem n_mod1 (hl : h.length = 72) : m_ev 96 0 [some (.ref 72)] [] (h ++ [.inr (8, m_def 8)]) = m_call m_ev 111 96 68 [.ref 72] [some (.ref 72)] [] (h ++ modC) := by
  rw [b96_0]
  simp only [List.append_assoc, List.cons_append, List.nil_append, List.length_append, List.length_cons, List.length_nil, hl]
  rw [pf_md hl (by first | decide | (simp only [List.length_set]; decide))]
  simp only [Option.bind_some, List.append_assoc, List.cons_append, List.nil_append, List.length_append, List.length_cons, List.length_nil, hl]
  rw [pf_md hl (by first | decide | (simp only [List.length_set]; decide))]
  simp only [Option.bind_some, List.append_assoc, List.cons_append, List.nil_append, List.length_append, List.length_cons, List.length_nil, hl]
  rw [pf_md hl (by first | decide | (simp only [List.length_set]; decide))]
  simp only [Option.bind_some, List.append_assoc, List.cons_append, List.nil_append, List.length_append, List.length_cons, List.length_nil, hl]
  rw [pf_md hl (by first | decide | (simp only [List.length_set]; decide))]
  simp only [Option.bind_some, List.append_assoc, List.cons_append, List.nil_append, List.length_append, List.length_cons, List.length_nil, hl]
  rw [pf_md hl (by first | decide | (simp only [List.length_set]; decide))]
  simp only [Option.bind_some, List.append_assoc, List.cons_append, List.nil_append, List.length_append, List.length_cons, List.length_nil, hl]
  rw [pf_md hl (by first | decide | (simp only [List.length_set]; decide))]
  simp only [Option.bind_some, List.append_assoc, List.cons_append, List.nil_append, List.length_append, List.length_cons, List.length_nil, hl]
  rw [pf_md hl (by first | decide | (simp only [List.length_set]; decide))]
  simp only [Option.bind_some, List.append_assoc, List.cons_append, List.nil_append, List.length_append, List.length_cons, List.length_nil, hl]
  rw [pf_md hl (by first | decide | (simp only [List.length_set]; decide))]
  simp only [Option.bind_some, List.append_assoc, List.cons_append, List.nil_append, List.length_append, List.length_cons, List.length_nil, hl]
  rw [pf_md hl (by first | decide | (simp only [List.length_set]; decide))]
  simp only [Option.bind_some, List.append_assoc, List.cons_append, List.nil_append, List.length_append, List.length_cons, List.length_nil, hl]
  rw [pf_md hl (by first | decide | (simp only [List.length_set]; decide))]
  simp only [Option.bind_some, List.append_assoc, List.cons_append, List.nil_append, List.length_append, List.length_cons, List.length_nil, hl]
  rw [pf_md hl (by first | decide | (simp only [List.length_set]; decide))]
  simp only [Option.bind_some, List.append_assoc, List.cons_append, List.nil_append, List.length_append, List.length_cons, List.length_nil, hl]
  rw [pf_md hl (by first | decide | (simp only [List.length_set]; decide))]
  simp only [Option.bind_some, List.append_assoc, List.cons_append, List.nil_append, List.length_append, List.length_cons, List.length_nil, hl]
  rw [pf_md hl (by first | decide | (simp only [List.length_set]; decide))]
  simp only [Option.bind_some, List.append_assoc, List.cons_append, List.nil_append, List.length_append, List.length_cons, List.length_nil, hl]
  rw [pf_md hl (by first | decide | (simp only [List.length_set]; decide))]
  simp only [Option.bind_some, List.append_assoc, List.cons_append, List.nil_append, List.length_append, List.length_cons, List.length_nil, hl]
  rw [b96_61]
  rw [pf_md hl (by first | decide | (simp only [List.length_set]; decide))]
  simp only [Option.bind_some, List.append_assoc, List.cons_append, List.nil_append, List.length_append, List.length_cons, List.length_nil, hl]
  rw [pf_md hl (by first | decide | (simp only [List.length_set]; decide))]
  simp only [Option.bind_some]
  rw [if_pos]
  · rfl
  · apply cls_e
    rw [List.getElem?_append_right (by omega), hl]
    rfl
theorem n_mod2 (hl : h.length = 72) : MdA (h ++ modC) zL := by
  have at_ : ∀ i, (h ++ modC)[72 + i]? = modC[i]? := fun i => by
    rw [List.getElem?_append_right (by omega), hl, show 72 + i - 72 = i by omega]
  exact ⟨at_ 0, at_ 1, at_ 2, at_ 3, at_ 4, at_ 5, at_ 6, at_ 7, at_ 8, at_ 9, at_ 10, at_ 11, at_ 12, at_ 13, at_ 14, at_ 15, at_ 16⟩
theorem RQ.way (e : MdA h V) (rq : RQ V L) (h10 : L 7 5 < 10) (x0 x1 x2 x3 : Nat) : ∃ h' V', m_call m_ev 98 y k [.ref 72, .int (nI x0), .int (nI x1), .int (nI x2), .int (nI x3)] ls r h = m_ev y k ls r h' ∧ MdA h' V' ∧ RQ V' (adY L x0 x1 x2 x3) ∧ Sp V V' ∧ Fr 72 89 h h' := by
  obtain ⟨p1, p2, p3, p4, p5, p6, p7, p9, p10, p11⟩ := rq
  obtain ⟨h4, V4, q4, e4, k4, m4, o4, x4, f4⟩ := d_tellsWay (y := y) (k := k) (ls := ls) (r := r) (x0 := x0) (x1 := x1) (x2 := x2) (x3 := x3) e p6 h10
  have a75 : (adY L x0 x1 x2 x3) 7 5 = L 7 5 + 1 := by simp [adY, uL]
  have a7 : ∀ j, j ≠ 5 → (adY L x0 x1 x2 x3) 7 j = L 7 j := fun j hj => by simp [adY, uL, hj]
  refine ⟨h4, V4, q4, e4, ⟨?_, ?_, ?_, ?_, ?_, ?_, ?_, ?_, ?_, ?_⟩, ⟨fun j hj => k4 j (by omega), fun q h1 h2 => o4 q (by omega) (by omega)⟩, f4⟩
  · rw [k4 22 (by omega), a7 0 (by omega)]; exact p1
  · rw [k4 24 (by omega), a7 1 (by omega)]; exact p2
  · rw [k4 25 (by omega), a7 2 (by omega)]; exact p3
  · rw [k4 26 (by omega), a7 3 (by omega)]; exact p4
  · rw [k4 27 (by omega), a7 4 (by omega)]; exact p5
  · rw [m4, a75]
  · rw [k4 30 (by omega), a7 6 (by omega)]; exact p7
  · rw [a7 0 (by omega), o4 82 (by omega) (by omega)]
    intro i hi
    rw [p9 i hi]; simp [adY, uL]
  · rw [a75]
    intro w hw
    rw [x4, x4, x4, x4]
    by_cases hwl : w = L 7 5
    · subst hwl
      rw [if_neg (by omega), if_neg (by omega), if_neg (by omega), if_pos rfl, if_neg (by omega), if_neg (by omega), if_pos rfl, if_neg (by omega), if_pos rfl, if_pos rfl]
      simp [adY, uL]
    · rw [if_neg (by omega), if_neg (by omega), if_neg (by omega), if_neg (by omega), if_neg (by omega), if_neg (by omega), if_neg (by omega), if_neg (by omega), if_neg (by omega), if_neg (by omega), if_neg (by omega), if_neg (by omega), if_neg (by omega), if_neg (by omega), if_neg (by omega), if_neg (by omega)]
      have := p10 w (by omega)
      simpa [adY, uL, hwl] using this
  · rw [a7 6 (by omega), o4 84 (by omega) (by omega), o4 85 (by omega) (by omega)]
    intro a ha
    have := p11 a ha
    simpa [adY, uL] using this
theorem RQ.ask (e : MdA h V) (rq : RQ V L) (h4' : L 7 6 < 4) (x0 x1 : Nat) : ∃ h' V', m_call m_ev 99 y k [.ref 72, .int (nI x0), .int (nI x1)] ls r h = m_ev y k ls r h' ∧ MdA h' V' ∧ RQ V' (adK L x0 x1) ∧ Sp V V' ∧ Fr 72 89 h h' := by
  obtain ⟨p1, p2, p3, p4, p5, p6, p7, p9, p10, p11⟩ := rq
  obtain ⟨h4, V4, q4, e4, k4, m4, o4, x4, y4, f4⟩ := d_tellsAsker (y := y) (k := k) (ls := ls) (r := r) (x0 := x0) (x1 := x1) e p7 h4'
  have a76 : (adK L x0 x1) 7 6 = L 7 6 + 1 := by simp [adK, uL]
  have a7 : ∀ j, j ≠ 6 → (adK L x0 x1) 7 j = L 7 j := fun j hj => by simp [adK, uL, hj]
  refine ⟨h4, V4, q4, e4, ⟨?_, ?_, ?_, ?_, ?_, ?_, ?_, ?_, ?_, ?_⟩, ⟨fun j hj => k4 j (by omega), fun q h1 h2 => o4 q (by omega) (by omega) (by omega)⟩, f4⟩
  · rw [k4 22 (by omega), a7 0 (by omega)]; exact p1
  · rw [k4 24 (by omega), a7 1 (by omega)]; exact p2
  · rw [k4 25 (by omega), a7 2 (by omega)]; exact p3
  · rw [k4 26 (by omega), a7 3 (by omega)]; exact p4
  · rw [k4 27 (by omega), a7 4 (by omega)]; exact p5
  · rw [k4 28 (by omega), a7 5 (by omega)]; exact p6
  · rw [m4, a76]
  · rw [a7 0 (by omega), o4 82 (by omega) (by omega) (by omega)]
    intro i hi
    rw [p9 i hi]; simp [adK, uL]
  · rw [a7 5 (by omega), o4 83 (by omega) (by omega) (by omega)]
    intro w hw
    have := p10 w hw
    simpa [adK, uL] using this
  · rw [a76]
    intro a ha
    rw [x4, y4]
    by_cases hal : a = L 7 6
    · subst hal
      rw [if_pos rfl, if_pos rfl]
      simp [adK, uL]
    · rw [if_neg hal, if_neg hal]
      have := p11 a (by omega)
      simpa [adK, uL, hal] using this
def L00 : LT := fun r i => if r = 7 then [6, 2, 5, 1, 6, 0, 0].getD i 0 else if r = 0 then frW0 i else 0
theorem L00_fs : FS L00 0 0 := ⟨rfl, fun i _ => rfl, rfl, rfl, rfl, rfl, rfl, rfl, fun j hj => by omega, fun j hj => by omega⟩
theorem RQ.fs {L2 : LT} (rq : RQ V L) (f1 : FS L 7 3) (f2 : FS L2 7 3) : RQ V L2 := by
  obtain ⟨p1, p2, p3, p4, p5, p6, p7, p9, p10, p11⟩ := rq
  obtain ⟨a1, a2, a3, a4, a5, a6, a7, a8, a9, a10⟩ := f1
  obtain ⟨b1, b2, b3, b4, b5, b6, b7, b8, b9, b10⟩ := f2
  refine ⟨by rw [p1, a1, b1], by rw [p2, a3, b3], by rw [p3, a4, b4], by rw [p4, a5, b5], by rw [p5, a6, b6], by rw [p6, a7, b7], by rw [p7, a8, b8], ?_, ?_, ?_⟩
  · intro i hi
    rw [b1] at hi
    rw [p9 i (by omega), a2 i hi, b2 i hi]
  · intro w hw
    rw [b7] at hw
    obtain ⟨c1, c2, c3, c4⟩ := p10 w (by omega)
    obtain ⟨d1, d2, d3, d4⟩ := a9 w hw
    obtain ⟨g1, g2, g3, g4⟩ := b9 w hw
    exact ⟨by rw [c1, d1, g1], by rw [c2, d2, g2], by rw [c3, d3, g3], by rw [c4, d4, g4]⟩
  · intro a ha
    rw [b8] at ha
    obtain ⟨c1, c2⟩ := p11 a (by omega)
    obtain ⟨d1, d2⟩ := a10 a ha
    obtain ⟨g1, g2⟩ := b10 a ha
    exact ⟨by rw [c1, d1, g1], by rw [c2, d2, g2]⟩
theorem n_model (hl : h.length = 72) {L : LT} (fs : FS L 7 3) (wf : WfH L) : ∃ h' V', m_ev 96 0 [some (.ref 72)] [] (h ++ [.inr (8, m_def 8)]) = some (none, h') ∧ h'.length = 89 ∧ (∀ b, b < 72 → h'[b]? = h[b]?) ∧ MdA h' V' ∧ RV V' L (st0 L) zL zL 0 P 0 K := by
  have e0 := n_mod2 hl
  obtain ⟨h1, V1, q1, e1, s1, rp1, _, f1⟩ := d_clearTold (y := 96) (k := 68) (ls := [some (.ref 72)]) (r := []) e0 zL
  -- the ring
  obtain ⟨h2, q2, e2, f2⟩ := mdW0 e1 22 6 (by simp)
  obtain ⟨h3, q3, e3, f3⟩ := mdW82 e2 0 (k := 0) (by omega)
  obtain ⟨h4, q4, e4, f4⟩ := mdW82 e3 1 (k := 1) (by omega)
  obtain ⟨h5, q5, e5, f5⟩ := mdW82 e4 2 (k := 2) (by omega)
  obtain ⟨h6, q6, e6, f6⟩ := mdW82 e5 0 (k := 3) (by omega)
  obtain ⟨h7, q7, e7, f7⟩ := mdW82 e6 3 (k := 4) (by omega)
  obtain ⟨h8, q8, e8, f8⟩ := mdW82 e7 1 (k := 5) (by omega)
  have qr : m_call m_ev 97 96 70 [.ref 72] [some (.ref 72)] [] h1 = m_ev 96 70 [some (.ref 72)] [] h8 := by
    refine cl_0 ?_
    show m_ev 97 0 [some (.ref 72)] [] h1 = _
    simp only [b97_0, q2, Option.bind_some, mdF e2, q3, mdF e3, q4, mdF e4, q5, mdF e5, q6, mdF e6, q7, mdF e7, q8]
  obtain ⟨h9, q9, e9, f9⟩ := mdW0 e8 24 2 (by simp)
  obtain ⟨h10, q10, e10, f10⟩ := mdW0 e9 25 5 (by simp)
  obtain ⟨h11, q11, e11, f11⟩ := mdW0 e10 26 1 (by simp)
  obtain ⟨h12, q12, e12, f12⟩ := mdW0 e11 27 6 (by simp)
  have s12 : Sp V1 (uL (uL (uL (uL (uL (uL (uL (uL (uL (uL (uL V1 0 22 6) 82 0 0) 82 1 1) 82 2 2) 82 3 0) 82 4 3) 82 5 1) 0 24 2) 0 25 5) 0 26 1) 0 27 6) :=
    ((((((((((Sp.u (k := 22) (x := 6) (by omega)).tr (Sp.v (q := 82) (k := 0) (x := 0) (by omega))).tr (Sp.v (q := 82) (k := 1) (x := 1) (by omega))).tr (Sp.v (q := 82) (k := 2) (x := 2) (by omega))).tr (Sp.v (q := 82) (k := 3) (x := 0) (by omega))).tr (Sp.v (q := 82) (k := 4) (x := 3) (by omega))).tr (Sp.v (q := 82) (k := 5) (x := 1) (by omega))).tr (Sp.u (k := 24) (x := 2) (by omega))).tr (Sp.u (k := 25) (x := 5) (by omega))).tr (Sp.u (k := 26) (x := 1) (by omega))).tr (Sp.u (k := 27) (x := 6) (by omega))
  have rq12 : RQ (uL (uL (uL (uL (uL (uL (uL (uL (uL (uL (uL V1 0 22 6) 82 0 0) 82 1 1) 82 2 2) 82 3 0) 82 4 3) 82 5 1) 0 24 2) 0 25 5) 0 26 1) 0 27 6) L00 := by
    have p28 : V1 0 28 = 0 := by have := rp1.2.2.2.2.2.1; simpa [clL, adW, uL] using this
    have p30 : V1 0 30 = 0 := by have := rp1.2.2.2.2.2.2.1; simpa [clL, adW, uL] using this
    refine ⟨by simp [uL]; rfl, by simp [uL]; rfl, by simp [uL]; rfl, by simp [uL]; rfl, by simp [uL]; rfl, by simp [uL]; rw [p28]; rfl, by simp [uL]; rw [p30]; rfl, ?_, ?_, ?_⟩
    · intro i hi
      have hi6 : i < 6 := hi
      rcases (show i = 0 ∨ i = 1 ∨ i = 2 ∨ i = 3 ∨ i = 4 ∨ i = 5 by omega) with rfl | rfl | rfl | rfl | rfl | rfl <;> (simp [uL]; rfl)
    · intro w hw
      have : w < 0 := hw
      omega
    · intro a ha
      have : a < 0 := ha
      omega
  obtain ⟨w1, W1, z1, g1, r1, t1, u1⟩ := RQ.way (y := 96) (k := 88) (ls := [some (.ref 72)]) (r := []) e12 rq12 (by decide) 0 0 1 3
  have a1 : FS (adY L00 0 0 1 3) 1 0 := L00_fs.way
  obtain ⟨w2, W2, z2, g2, r2, t2, u2⟩ := RQ.way (y := 96) (k := 94) (ls := [some (.ref 72)]) (r := []) g1 r1 (by rw [a1.2.2.2.2.2.2.1]; omega) 1 1 2 4
  have a2 : FS _ 2 0 := a1.way
  obtain ⟨w3, W3, z3, g3, r3, t3, u3⟩ := RQ.way (y := 96) (k := 100) (ls := [some (.ref 72)]) (r := []) g2 r2 (by have := a2.2.2.2.2.2.2.1; exact Nat.lt_of_le_of_lt (Nat.le_of_eq this) (by omega)) 2 2 3 2
  have a3 : FS _ 3 0 := a2.way
  obtain ⟨w4, W4, z4, g4, r4, t4, u4⟩ := RQ.way (y := 96) (k := 106) (ls := [some (.ref 72)]) (r := []) g3 r3 (by have := a3.2.2.2.2.2.2.1; exact Nat.lt_of_le_of_lt (Nat.le_of_eq this) (by omega)) 3 0 3 6
  have a4 : FS _ 4 0 := a3.way
  obtain ⟨w5, W5, z5, g5, r5, t5, u5⟩ := RQ.way (y := 96) (k := 112) (ls := [some (.ref 72)]) (r := []) g4 r4 (by have := a4.2.2.2.2.2.2.1; exact Nat.lt_of_le_of_lt (Nat.le_of_eq this) (by omega)) 0 3 4 5
  have a5 : FS _ 5 0 := a4.way
  obtain ⟨w6, W6, z6, g6, r6, t6, u6⟩ := RQ.way (y := 96) (k := 118) (ls := [some (.ref 72)]) (r := []) g5 r5 (by have := a5.2.2.2.2.2.2.1; exact Nat.lt_of_le_of_lt (Nat.le_of_eq this) (by omega)) 1 4 5 2
  have a6 : FS _ 6 0 := a5.way
  obtain ⟨w7, W7, z7, g7, r7, t7, u7⟩ := RQ.way (y := 96) (k := 124) (ls := [some (.ref 72)]) (r := []) g6 r6 (by have := a6.2.2.2.2.2.2.1; exact Nat.lt_of_le_of_lt (Nat.le_of_eq this) (by omega)) 3 5 0 9
  have a7 : FS _ 7 0 := a6.way
  obtain ⟨w8, W8, z8, g8, r8, t8, u8⟩ := RQ.ask (y := 96) (k := 128) (ls := [some (.ref 72)]) (r := []) g7 r7 (by have := a7.2.2.2.2.2.2.2.1; exact Nat.lt_of_le_of_lt (Nat.le_of_eq this) (by omega)) 4 0
  have a8 : FS _ 7 1 := a7.ask
  obtain ⟨w9, W9, z9, g9, r9, t9, u9⟩ := RQ.ask (y := 96) (k := 132) (ls := [some (.ref 72)]) (r := []) g8 r8 (by have := a8.2.2.2.2.2.2.2.1; exact Nat.lt_of_le_of_lt (Nat.le_of_eq this) (by omega)) 3 1
  have a9 : FS _ 7 2 := a8.ask
  obtain ⟨w10, W10, z10, g10, r10, t10, u10⟩ := RQ.ask (y := 96) (k := 136) (ls := [some (.ref 72)]) (r := []) g9 r9 (by have := a9.2.2.2.2.2.2.2.1; exact Nat.lt_of_le_of_lt (Nat.le_of_eq this) (by omega)) 5 2
  have a10 : FS _ 7 3 := a9.ask
  have rqL : RQ W10 L := RQ.fs r10 a10 fs
  obtain ⟨w11, W11, z11, g11, rh11, st11, k11, k13, k15, k18, k80, u11⟩ := d_settles (y := 96) (k := 138) (ls := [some (.ref 72)]) (r := []) g10 rqL wf
  have sp : Sp zL W10 := (((((((((((s1.tr s12).tr t1).tr t2).tr t3).tr t4).tr t5).tr t6).tr t7).tr t8).tr t9).tr t10)
  have fr : Fr 72 89 (h ++ modC) w11 := ((((((((((((((((((((((f1.tr f2).tr f3).tr f4).tr f5).tr f6).tr f7).tr f8).tr f9).tr f10).tr f11).tr f12).tr u1).tr u2).tr u3).tr u4).tr u5).tr u6).tr u7).tr u8).tr u9).tr u10).tr u11)
  refine ⟨w11, W11, ?_, ?_, ?_, g11, rh11, st11, ⟨?_, fun i hi => ?_⟩, ⟨k11, by omega, fun j hj => by omega⟩, ⟨k13, by omega, fun j hj => by omega⟩, ⟨k15, by show 0 ≤ 6; omega, fun i hi => ?_⟩⟩
  · rw [n_mod1 hl, q1]
    simp only [b96_68, mdF e1, if_true, qr, b96_70, q9, Option.bind_some, q10, q11, q12, mdF e12, z1, b96_88, mdF g1, z2, b96_94, mdF g2, z3, b96_100, mdF g3, z4, b96_106, mdF g4, z5, b96_112, mdF g5, z6, b96_118, mdF g6, z7, b96_124, mdF g7, z8, b96_128, mdF g8, z9, b96_132, mdF g9, z10, b96_136, mdF g10, z11, b96_138]
  · rw [fr.1, List.length_append, hl]; rfl
  · intro b hb
    rw [fr.2 b (by omega), List.getElem?_append_left (by omega)]
  · rw [k18, sp.1 18 (by omega)]; rfl
  · have : i < 0 := hi
    omega
  · have : i < 0 := hi
    omega
end
