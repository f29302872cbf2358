/-! class and model side by side: one state, and one call of each -/
/-- the heap of both, in one state -/
def CS (h : MH) (B : Nat) : Prop := h.length = 89 ∧ ∃ (V : LT) (hl sp : Nat) (L M T S : LT) (hp : Nat) (P : Nat → LT) (hk : Nat) (K : Nat → LT), CA h hl sp L M T S hp P hk K ∧ MdA h V ∧ RV V L M T S hp P hk K ∧ CW L M T S hp P hk K B ∧ 1 ≤ L 7 6
/-- one call of both: the same answer, and again one state -/
def OneC (zc zm : Nat) (xs : List Value) (h : MH) (B : Nat) : Prop := ∃ (v : Int32) (h1 h2 : MH), m_ev zc 0 (m_ent (m_maxL zc) (.ref 0 :: xs)) [] h = some (some (.int v), h1) ∧ Fr 0 72 h h1 ∧ m_ev zm 0 (m_ent (m_maxL zm) (.ref 72 :: xs)) [] h1 = some (some (.int v), h2) ∧ CS h2 (B + 48)
/-- an arbitrary number, in a stretch or out of it -/
theorem ixr (x : Int32) {a b : Nat} (hab : a ≤ b) (hb : b < 2 ^ 31) : (x < nI a ∨ nI b ≤ x) ∨ ∃ j : Nat, a ≤ j ∧ j < b ∧ x = nI j := by
  rcases ix3 x hb with q | q | ⟨j, hj, rfl⟩
  · exact Or.inl (Or.inl (Int32.lt_of_lt_of_le q (by rw [nI_leI (by omega) (by omega)]; omega)))
  · exact Or.inl (Or.inr q)
  · by_cases ha : a ≤ j
    · exact Or.inr ⟨j, ha, hj, rfl⟩
    · exact Or.inl (Or.inl (by rw [nI_ltI (by omega) (by omega)]; omega))
section
variable {h h1 h2 : MH} {V V' L M T S : LT} {hl sp hp hk B B' : Nat} {P K : Nat → LT} {zc zm : Nat} {xs : List Value} {v : Int32}
theorem WfN.up (hb : B ≤ B') (w : WfN L M B) : WfN L M B' := ⟨w.1.up hb, w.2⟩
theorem CW.up (hb : B ≤ B') (w : CW L M T S hp P hk K B) : CW L M T S hp P hk K B' := by
  obtain ⟨w1, w2, w3, w4, w5, w6, w7⟩ := w
  exact ⟨w1, w2, w3.up hb, fun j hj => (w4 j hj).up hb, fun j hj => (w5 j hj).up hb, w6, w7⟩
theorem WfN.m3 (w : WfN L M B) (hb : B ≤ 30000) : WfM L M 30000 := w.1.up hb
/-- both called: what the class left, what the model left -/
theorem fin (hl89 : h.length = 89) (an : AN zc (.ref 0 :: xs) h v h1) (ca : CA h1 hl sp L M T S hp P hk K) (am : AM zm (.ref 72 :: xs) h1 v h2) (md : MdA h2 V) (rv : RV V L M T S hp P hk K) (cw : CW L M T S hp P hk K (B + 48)) (ha : 1 ≤ L 7 6) : OneC zc zm xs h B :=
  ⟨v, h1, h2, an.1, an.2, am.1, by rw [am.2.1, an.2.1]; exact hl89, V, hl, sp, L, M, T, S, hp, P, hk, K, ca.rest am.2, md, rv, cw, ha⟩
/-- nothing moved -/
theorem fin0 (cs : CS h B) (an : AN zc (.ref 0 :: xs) h v h) (am : AM zm (.ref 72 :: xs) h v h) : OneC zc zm xs h B := by
  obtain ⟨h89, V, hl, sp, L, M, T, S, hp, P, hk, K, ca, md, rv, cw, ha⟩ := cs
  exact fin h89 an ca am md rv (cw.up (by omega)) ha
-- the text
theorem s_write (cs : CS h B) (x : Int32) : OneC 59 105 [.int x] h B := by
  have cs0 := cs
  obtain ⟨h89, V, hl, sp, L, M, T, S, hp, P, hk, K, ca, md, rv, cw, ha⟩ := cs
  rcases ixr x (a := 32) (b := 127) (by omega) (by omega) with q | ⟨c, c1, c2, rfl⟩
  · exact fin0 cs0 (a_write_bad q) (e_write_bad q)
  · have wt := cw.2.1
    by_cases hT : T 1 0 = 200
    · exact fin0 cs0 (a_write_full ca (by omega) hT) (e_write_full md rv (by omega) hT)
    · have hT' : T 1 0 < 200 := by have := wt.1; omega
      obtain ⟨h1, an, ca1⟩ := a_write ca (c := c) (by omega) hT'
      obtain ⟨h2, V2, am, md2, rv2⟩ := e_write (an.2.md (by omega) md) rv (c := c) (by omega) hT'
      refine fin h89 an ca1 am md2 rv2 ?_ ha
      obtain ⟨w1, w2, w3, w4, w5, w6, w7⟩ := cw.up (B' := B + 48) (by omega)
      refine ⟨w1, ⟨by simp [apL, uL]; omega, fun i hi => ?_⟩, w3, w4, w5, w6, w7⟩
      have hi' : i < T 1 0 + 1 := by simpa [apL, uL] using hi
      by_cases e : i = T 1 0
      · simp [apL, uL, e]; omega
      · have := w2.2 i (by omega)
        simpa [apL, uL, e] using this
theorem s_wipe (cs : CS h B) : OneC 60 106 [] h B := by
  obtain ⟨h89, V, hl, sp, L, M, T, S, hp, P, hk, K, ca, md, rv, cw, ha⟩ := cs
  obtain ⟨h1, an, ca1⟩ := a_wipe ca
  obtain ⟨h2, V2, am, md2, rv2⟩ := e_wipe (an.2.md (by omega) md) rv
  refine fin h89 an ca1 am md2 rv2 ?_ ha
  obtain ⟨w1, w2, w3, w4, w5, w6, w7⟩ := cw.up (B' := B + 48) (by omega)
  refine ⟨w1, ⟨by simp [uL], fun i hi => ?_⟩, w3, w4, w5, w6, w7⟩
  have : i < 0 := by simpa [uL] using hi
  omega
theorem s_fault (cs : CS h B) : OneC 61 119 [] h B := by
  obtain ⟨h89, V, hl, sp, L, M, T, S, hp, P, hk, K, ca, md, rv, cw, ha⟩ := cs
  obtain ⟨h1, L', C', an, ca1⟩ := a_fault ca cw.2.1
  obtain ⟨h2, V2, am, md2, rv2⟩ := e_fault (an.2.md (by omega) md) rv cw.2.1 L' C'
  exact fin h89 an ca1 am md2 rv2 (cw.up (by omega)) ha
theorem s_lay (cs : CS h B) : OneC 62 120 [] h B := by
  obtain ⟨h89, V, hl, sp, L, M, T, S, hp, P, hk, K, ca, md, rv, cw, ha⟩ := cs
  obtain ⟨L', C', n1, n2⟩ := a_lay ca cw.2.1
  by_cases hc : (cop0 T L' C').1 ≠ none ∨ (cop0 T L' C').2.1 7 6 = 0
  · obtain ⟨h1, an, ca1⟩ := n1 hc
    obtain ⟨h2, V2, am, md2, rv2⟩ := e_lay_no (an.2.md (by omega) md) rv cw.2.1 L' C' hc
    exact fin h89 an ca1 am md2 rv2 (cw.up (by omega)) ha
  · have hn : (cop0 T L' C').1 = none := Decidable.byContradiction fun q => hc (Or.inl q)
    have h0 : (cop0 T L' C').2.1 7 6 ≠ 0 := fun q => hc (Or.inr q)
    have wf : WfH (cop0 T L' C').2.1 := copP_wf T 200 _ _ (clL_wf L') hn
    obtain ⟨h1, M', an, ag, ca1⟩ := n2 hn h0
    obtain ⟨h2, V2, am, md2, rv2⟩ := e_lay (an.2.md (by omega) md) rv cw.2.1 L' C' hn h0
    refine fin h89 an ca1 am md2 (rv2.ag wf ag) ?_ (by omega)
    obtain ⟨w1, w2, w3, w4, w5, w6, w7⟩ := cw.up (B' := B + 48) (by omega)
    obtain ⟨v1, v2, v3, v4, v5, v6, v7, v8, v9, v10, v11, v12, v13⟩ := wf
    refine ⟨⟨v1, v2, v3, v4, v5, v6, v7, v8, v9, v10, v11, v12, v13⟩, w2, WfN.cg ⟨v1, v2, v3, v4, v5, v6, v7, v8, v9, v10, v11, v12, v13⟩ ag ⟨⟨Nat.zero_le _, by show 0 < _; omega, Nat.zero_le _, Nat.zero_le _, fun a ha => ⟨(v13 a ha).1, Nat.zero_le _⟩⟩, fun a _ => Nat.zero_le _⟩, fun j hj => absurd hj (Nat.not_lt_zero _), fun j hj => absurd hj (Nat.not_lt_zero _), by simp [uL], fun i hi => ?_⟩
    have : i < 0 := by simpa [uL] using hi
    omega
theorem s_word (cs : CS h B) (x : Int32) : OneC 63 127 [.int x] h B := by
  have cs0 := cs
  obtain ⟨h89, V, hl, sp, L, M, T, S, hp, P, hk, K, ca, md, rv, cw, ha⟩ := cs
  have wf := cw.1
  have l0 := wf.2.1
  rcases ix3 x (n := L 7 0) (by omega) with q | q | ⟨j, hj, rfl⟩
  · exact fin0 cs0 (a_word_bad q) (e_word_bad q)
  · exact fin0 cs0 (a_word_none ca wf q) (e_word_none md rv.1 wf q)
  · exact fin0 cs0 (a_word ca wf hj) (e_word md rv.1 wf hj)
theorem s_way (cs : CS h B) (hB : B ≤ 29000) (x x' : Int32) : OneC 64 128 [.int x, .int x'] h B := by
  have cs0 := cs
  obtain ⟨h89, V, hl, sp, L, M, T, S, hp, P, hk, K, ca, md, rv, cw, ha⟩ := cs
  have wf := cw.1
  have wm := cw.2.2.1.m3 (by omega)
  have l5 := wf.2.2.2.2.2.2.2.2.2.1
  rcases ixr x (a := 0) (b := L 7 5) (by omega) (by omega) with q | ⟨j, _, hj, rfl⟩
  · exact fin0 cs0 (a_way_bad ca wf q) (e_way_bad md rv.1 wf q)
  rcases ixr x' (a := 0) (b := 4) (by omega) (by omega) with q | ⟨k, _, hk, rfl⟩
  · exact fin0 cs0 (a_way_bad2 ca wf hj q) (e_way_bad2 md rv.1 wf hj q)
  have an := a_way ca wf wm hj hk
  obtain ⟨h2, V2, am, md2, sk⟩ := e_way md rv.1 rv.2.1 wf wm hj hk
  exact fin h89 an ca am md2 (rv.sk sk) (cw.up (by omega)) ha
theorem s_asker (cs : CS h B) (hB : B ≤ 29000) (x x' : Int32) : OneC 65 130 [.int x, .int x'] h B := by
  have cs0 := cs
  obtain ⟨h89, V, hl, sp, L, M, T, S, hp, P, hk, K, ca, md, rv, cw, ha⟩ := cs
  have wf := cw.1
  have wm := cw.2.2.1.m3 (by omega)
  have l6 := wf.2.2.2.2.2.2.2.2.2.2.2.1
  rcases ixr x (a := 0) (b := L 7 6) (by omega) (by omega) with q | ⟨j, _, hj, rfl⟩
  · exact fin0 cs0 (a_asker_bad ca wf q) (e_asker_bad md rv.1 wf q)
  rcases ixr x' (a := 0) (b := 4) (by omega) (by omega) with q | ⟨k, _, hk, rfl⟩
  · exact fin0 cs0 (a_asker_bad2 ca wf hj q) (e_asker_bad2 md rv.1 wf hj q)
  exact fin0 cs0 (a_asker ca wf wm hj hk) (e_asker md rv.1 rv.2.1 wf wm hj hk)
end
