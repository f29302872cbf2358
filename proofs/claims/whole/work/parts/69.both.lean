/-! class and model side by side: hours, looks, sightings, year -/
section
variable {h h1 h2 : MH} {V V' L M M' T S : LT} {hl sp hp hk B B' : Nat} {P K : Nat → LT}
theorem puS_wf {n : Nat} (w : WfN L M B) (ws : ∀ j, j < n → WfN L (P j) B) {m : Nat} (hm : m ≤ n + 1) : ∀ j, j < m → WfN L (puS P M j) B := by
  intro j hj
  unfold puS
  split
  · exact w
  · exact ws _ (by omega)
theorem poS_wf {n m : Nat} (ws : ∀ j, j < m + 1 → WfN L (P j) B) : ∀ j, j < m → WfN L (poS n P j) B := by
  intro j hj
  unfold poS
  split
  · exact ws _ (by omega)
  · exact ws _ (by omega)
theorem CW.mv (cw : CW L M T S hp P hk K B) (w : WfN L M' (B + 48)) : CW L M' T S (min (hp + 1) 8) (puS P M) hk K (B + 48) := by
  obtain ⟨w1, w2, w3, w4, w5, w6, w7⟩ := cw.up (B' := B + 48) (by omega)
  exact ⟨w1, w2, w, puS_wf w3 w4 (by omega), w5, w6, w7⟩
theorem s_pass (cs : CS h B) (hB : B ≤ 29000) (x : Int32) : OneC 66 133 [.int x] h B := by
  have cs0 := cs
  obtain ⟨h89, V, hl, sp, L, M, T, S, hp, P, hk, K, ca, md, rv, cw, ha⟩ := cs
  have wf := cw.1
  rcases ixr x (a := 1) (b := 49) (by omega) (by omega) with q | ⟨n, n1, n2, rfl⟩
  · exact fin0 cs0 (a_pass_bad q) (e_pass_bad q)
  obtain ⟨h1, an, ca1⟩ := a_pass ca wf cw.2.2.1 hB (n := n) (by omega)
  obtain ⟨h2, V2, am, md2, rv2⟩ := e_pass (an.2.md (by omega) md) rv wf cw.2.2.1 hB (n := n) (by omega)
  exact fin h89 an ca1 am md2 rv2 (cw.mv ((goL_wf wf cw.2.2.1).up (by omega))) ha
theorem s_setOut (cs : CS h B) (hB : B ≤ 29000) (x x' : Int32) : OneC 67 137 [.int x, .int x'] h B := by
  have cs0 := cs
  obtain ⟨h89, V, hl, sp, L, M, T, S, hp, P, hk, K, ca, md, rv, cw, ha⟩ := cs
  have wf := cw.1
  have wm := cw.2.2.1.m3 (by omega)
  have l5 := wf.2.2.2.2.2.2.2.2.2.1
  have l6 := wf.2.2.2.2.2.2.2.2.2.2.2.1
  rcases ixr x (a := 0) (b := L 7 6) (by omega) (by omega) with q | ⟨a, _, hj, rfl⟩
  · exact fin0 cs0 (a_setOut_bad ca wf q) (e_setOut_bad md rv.1 wf q)
  rcases ixr x' (a := 0) (b := L 7 5) (by omega) (by omega) with q | ⟨w, _, hw, rfl⟩
  · exact fin0 cs0 (a_setOut_bad2 ca wf hj q) (e_setOut_bad2 md rv.1 wf hj q)
  cases hs : setL L M a w with
  | none =>
    have an := a_setOut_no ca wf cw.2.2.1 hB hj hw hs
    obtain ⟨h2, V2, am, md2, rv2⟩ := e_setOut md rv wf wm hj hw
    rw [hs] at am rv2
    exact fin h89 an ca am md2 rv2 (cw.up (by omega)) ha
  | some d =>
    obtain ⟨h1, an, ca1⟩ := a_setOut ca wf cw.2.2.1 hB hj hw hs
    obtain ⟨h2, V2, am, md2, rv2⟩ := e_setOut (an.2.md (by omega) md) rv wf wm hj hw
    rw [hs] at am rv2
    exact fin h89 an ca1 am md2 rv2 (cw.mv ((leaL_wf wf cw.2.2.1 hj hw).up (by omega))) ha
theorem s_foot (cs : CS h B) (hB : B ≤ 29000) (x : Int32) : OneC 68 138 [.int x] h B := by
  have cs0 := cs
  obtain ⟨h89, V, hl, sp, L, M, T, S, hp, P, hk, K, ca, md, rv, cw, ha⟩ := cs
  have wf := cw.1
  have wm := cw.2.2.1.m3 (by omega)
  rcases ixr x (a := 1) (b := 13) (by omega) (by omega) with q | ⟨n, n1, n2, rfl⟩
  · exact fin0 cs0 (a_foot_bad q) (e_foot_bad q)
  by_cases hu : M 2 3 = 0
  · obtain ⟨h1, an, ca1⟩ := a_foot ca wf cw.2.2.1 hB (n := n) (by omega) hu
    obtain ⟨h2, V2, am, md2, rv2⟩ := e_foot (an.2.md (by omega) md) rv wf wm (n := n) (by omega) hu
    exact fin h89 an ca1 am md2 rv2 (cw.mv ((fooL_wf (by omega) cw.2.2.1).up (by omega))) ha
  · exact fin0 cs0 (a_foot_no ca cw.2.2.1 (by omega) hu) (e_foot_no md rv.2.1 wm (by omega) hu)
theorem s_graze (cs : CS h B) (hB : B ≤ 29000) : OneC 69 139 [] h B := by
  obtain ⟨h89, V, hl, sp, L, M, T, S, hp, P, hk, K, ca, md, rv, cw, ha⟩ := cs
  have wf := cw.1
  have wm := cw.2.2.1.m3 (by omega)
  obtain ⟨h1, an, ca1⟩ := a_graze ca wf cw.2.2.1 hB
  obtain ⟨h2, V2, am, md2, rv2⟩ := e_graze (an.2.md (by omega) md) rv wf wm
  exact fin h89 an ca1 am md2 rv2 (cw.mv ((graL_wf wf cw.2.2.1).up (by omega))) ha
theorem s_undo (cs : CS h B) : OneC 70 140 [] h B := by
  have cs0 := cs
  obtain ⟨h89, V, hl, sp, L, M, T, S, hp, P, hk, K, ca, md, rv, cw, ha⟩ := cs
  have wf := cw.1
  cases hp with
  | zero => exact fin0 cs0 (a_undo_no ca) (e_undo_no md rv)
  | succ hp =>
    obtain ⟨h1, M', an, ag, ca1⟩ := a_undo ca
    obtain ⟨h2, V2, am, md2, rv2⟩ := e_undo (an.2.md (by omega) md) wf rv
    refine fin h89 an ca1 am md2 (rv2.ag wf ag) ?_ ha
    obtain ⟨w1, w2, w3, w4, w5, w6, w7⟩ := cw.up (B' := B + 48) (by omega)
    exact ⟨w1, w2, WfN.cg wf ag (w4 0 (by omega)), poS_wf w4, w5, w6, w7⟩
theorem s_keep (cs : CS h B) : OneC 84 158 [] h B := by
  have cs0 := cs
  obtain ⟨h89, V, hl, sp, L, M, T, S, hp, P, hk, K, ca, md, rv, cw, ha⟩ := cs
  have wf := cw.1
  have hk2 := rv.2.2.2.2.1.2.1
  by_cases h2 : hk = 2
  · subst h2
    exact fin0 cs0 (a_keep_full ca) (e_keep_full md rv)
  · obtain ⟨h1, an, ca1⟩ := a_keep ca cw.2.2.1 (by omega)
    obtain ⟨h2, V2, am, md2, rv2⟩ := e_keep (an.2.md (by omega) md) wf rv (by omega)
    refine fin h89 an ca1 am md2 rv2 ?_ ha
    obtain ⟨w1, w2, w3, w4, w5, w6, w7⟩ := cw.up (B' := B + 48) (by omega)
    exact ⟨w1, w2, w3, w4, puS_wf w3 w5 (Nat.le_refl _), w6, w7⟩
theorem s_back (cs : CS h B) : OneC 85 159 [] h B := by
  have cs0 := cs
  obtain ⟨h89, V, hl, sp, L, M, T, S, hp, P, hk, K, ca, md, rv, cw, ha⟩ := cs
  have wf := cw.1
  cases hk with
  | zero => exact fin0 cs0 (a_back_no ca) (e_back_no md rv)
  | succ hk =>
    obtain ⟨h1, M', an, ag, ca1⟩ := a_back ca
    obtain ⟨h2, V2, am, md2, rv2⟩ := e_back (an.2.md (by omega) md) wf rv
    refine fin h89 an ca1 am md2 (rv2.ag wf ag) ?_ ha
    obtain ⟨w1, w2, w3, w4, w5, w6, w7⟩ := cw.up (B' := B + 48) (by omega)
    exact ⟨w1, w2, WfN.cg wf ag (w5 0 (by omega)), fun j hj => absurd hj (Nat.not_lt_zero _), poS_wf w5, w6, w7⟩
-- looks
theorem s_upper (cs : CS h B) (hB : B ≤ 29000) (x : Int32) : OneC 71 141 [.int x] h B := by
  have cs0 := cs
  obtain ⟨h89, V, hl, sp, L, M, T, S, hp, P, hk, K, ca, md, rv, cw, ha⟩ := cs
  have wf := cw.1
  have wm := cw.2.2.1.m3 (by omega)
  rcases ixr x (a := 0) (b := 201) (by omega) (by omega) with q | ⟨n, _, n2, rfl⟩
  · exact fin0 cs0 (a_upper_bad q) (e_upper_bad q)
  have an := a_upper ca wf wm (n := n) (by omega)
  obtain ⟨h2, V2, am, md2, sk⟩ := e_upper md rv.1 rv.2.1 wf wm (n := n) (by omega)
  exact fin h89 an ca am md2 (rv.sk sk) (cw.up (by omega)) ha
theorem s_round (cs : CS h B) (hB : B ≤ 29000) : OneC 72 142 [] h B := by
  have cs0 := cs
  obtain ⟨h89, V, hl, sp, L, M, T, S, hp, P, hk, K, ca, md, rv, cw, ha⟩ := cs
  have wf := cw.1
  have wm := cw.2.2.1.m3 (by omega)
  by_cases hf : M 2 2 = 0
  · obtain ⟨h1, an, ca1⟩ := a_round ca wf wm hf
    obtain ⟨h2, V2, am, md2, sk⟩ := e_round (an.2.md (by omega) md) rv.1 rv.2.1 wf wm hf
    exact fin h89 an ca1 am md2 (rv.sk sk) (cw.up (by omega)) ha
  · exact fin0 cs0 (a_round_no ca wm hf) (e_round_no md rv.2.1 wm hf)
theorem s_top (cs : CS h B) (hB : B ≤ 29000) (x : Int32) : OneC 73 146 [.int x] h B := by
  have cs0 := cs
  obtain ⟨h89, V, hl, sp, L, M, T, S, hp, P, hk, K, ca, md, rv, cw, ha⟩ := cs
  have wf := cw.1
  have wm := cw.2.2.1.m3 (by omega)
  have l6 := wf.2.2.2.2.2.2.2.2.2.2.2.1
  rcases ixr x (a := 0) (b := L 7 6) (by omega) (by omega) with q | ⟨a, _, hj, rfl⟩
  · exact fin0 cs0 (a_top_bad ca wf q) (e_top_bad md rv.1 wf q)
  obtain ⟨h1, an, ca1⟩ := a_top ca wf wm hj
  obtain ⟨h2, V2, am, md2, sk⟩ := e_top (an.2.md (by omega) md) rv.1 rv.2.1 wf wm hj
  exact fin h89 an ca1 am md2 (rv.sk sk) (cw.up (by omega)) ha
theorem s_read (cs : CS h B) (hB : B ≤ 29000) (x x' : Int32) : OneC 74 147 [.int x, .int x'] h B := by
  have cs0 := cs
  obtain ⟨h89, V, hl, sp, L, M, T, S, hp, P, hk, K, ca, md, rv, cw, ha⟩ := cs
  have wf := cw.1
  have wm := cw.2.2.1.m3 (by omega)
  have l6 := wf.2.2.2.2.2.2.2.2.2.2.2.1
  rcases ixr x (a := 0) (b := L 7 6) (by omega) (by omega) with q | ⟨a, _, hj, rfl⟩
  · exact fin0 cs0 (a_read_bad ca wf q) (e_read_bad md rv.1 wf q)
  rcases ixr x' (a := 0) (b := 4) (by omega) (by omega) with q | ⟨w, _, hw, rfl⟩
  · exact fin0 cs0 (a_read_bad2 ca wf hj q) (e_read_bad2 md rv.1 wf hj q)
  obtain ⟨h1, an, ca1⟩ := a_read ca wf wm hj (w := w) (by omega)
  obtain ⟨h2, V2, am, md2, sk⟩ := e_read (an.2.md (by omega) md) rv.1 rv.2.1 wf wm hj (w := w) (by omega)
  exact fin h89 an ca1 am md2 (rv.sk sk) (cw.up (by omega)) ha
theorem s_both (cs : CS h B) (hB : B ≤ 29000) (x x' x'' : Int32) : OneC 75 148 [.int x, .int x', .int x''] h B := by
  have cs0 := cs
  obtain ⟨h89, V, hl, sp, L, M, T, S, hp, P, hk, K, ca, md, rv, cw, ha⟩ := cs
  have wf := cw.1
  have wm := cw.2.2.1.m3 (by omega)
  have l6 := wf.2.2.2.2.2.2.2.2.2.2.2.1
  rcases ixr x (a := 0) (b := L 7 6) (by omega) (by omega) with q | ⟨a, _, hj, rfl⟩
  · exact fin0 cs0 (a_both_bad ca wf q) (e_both_bad md rv.1 wf q)
  rcases ixr x' (a := 0) (b := L 7 6) (by omega) (by omega) with q | ⟨b, _, hb, rfl⟩
  · exact fin0 cs0 (a_both_bad2 ca wf hj q) (e_both_bad2 md rv.1 wf hj q)
  by_cases hab : a = b
  · subst hab
    exact fin0 cs0 (a_both_bad3 ca wf hj) (e_both_bad3 md rv.1 wf hj)
  rcases ixr x'' (a := 0) (b := 4) (by omega) (by omega) with q | ⟨w, _, hw, rfl⟩
  · exact fin0 cs0 (a_both_bad4 ca wf hj hb hab q) (e_both_bad4 md rv.1 wf hj hb hab q)
  obtain ⟨h1, an, ca1⟩ := a_both ca wf wm hj hb hab (w := w) (by omega)
  obtain ⟨h2, V2, am, md2, sk⟩ := e_both (an.2.md (by omega) md) rv.1 rv.2.1 wf wm hj hb hab (w := w) (by omega)
  exact fin h89 an ca1 am md2 (rv.sk sk) (cw.up (by omega)) ha
theorem s_hold (cs : CS h B) (hB : B ≤ 29000) (x : Int32) : OneC 76 149 [.int x] h B := by
  have cs0 := cs
  obtain ⟨h89, V, hl, sp, L, M, T, S, hp, P, hk, K, ca, md, rv, cw, ha⟩ := cs
  have wf := cw.1
  have wm := cw.2.2.1.m3 (by omega)
  have l6 := wf.2.2.2.2.2.2.2.2.2.2.2.1
  rcases ixr x (a := 0) (b := L 7 6) (by omega) (by omega) with q | ⟨a, _, hj, rfl⟩
  · exact fin0 cs0 (a_hold_bad ca wf q) (e_hold_bad md rv.1 wf q)
  obtain ⟨h1, an, ca1⟩ := a_hold ca wf wm hj
  obtain ⟨h2, V2, am, md2, sk⟩ := e_hold (an.2.md (by omega) md) rv.1 rv.2.1 wf wm hj
  exact fin h89 an ca1 am md2 (rv.sk sk) (cw.up (by omega)) ha
theorem s_first (cs : CS h B) (hB : B ≤ 29000) (x : Int32) : OneC 77 150 [.int x] h B := by
  have cs0 := cs
  obtain ⟨h89, V, hl, sp, L, M, T, S, hp, P, hk, K, ca, md, rv, cw, ha⟩ := cs
  have wf := cw.1
  have wm := cw.2.2.1.m3 (by omega)
  have l6 := wf.2.2.2.2.2.2.2.2.2.2.2.1
  rcases ixr x (a := 0) (b := L 7 6) (by omega) (by omega) with q | ⟨a, _, hj, rfl⟩
  · exact fin0 cs0 (a_first_bad ca wf q) (e_first_bad md rv.1 wf q)
  obtain ⟨h1, an, ca1⟩ := a_first ca wf wm hj
  obtain ⟨h2, V2, am, md2, sk⟩ := e_first (an.2.md (by omega) md) rv.1 rv.2.1 wf wm hj
  exact fin h89 an ca1 am md2 (rv.sk sk) (cw.up (by omega)) ha
-- sightings
theorem s_see (cs : CS h B) (x x' : Int32) : OneC 78 151 [.int x, .int x'] h B := by
  have cs0 := cs
  obtain ⟨h89, V, hl, sp, L, M, T, S, hp, P, hk, K, ca, md, rv, cw, ha⟩ := cs
  rcases ixr x (a := 0) (b := 4) (by omega) (by omega) with q | ⟨w, _, hw, rfl⟩
  · exact fin0 cs0 (a_see_bad q) (e_see_bad q)
  rcases ixr x' (a := 0) (b := 100) (by omega) (by omega) with q | ⟨t, _, ht, rfl⟩
  · exact fin0 cs0 (a_see_bad2 (w := w) (by omega) q) (e_see_bad2 (w := w) (by omega) q)
  have s6 := cw.2.2.2.2.2.1
  by_cases h6 : S 2 0 = 6
  · exact fin0 cs0 (a_see_full ca (by omega) (by omega) h6) (e_see_full md rv (by omega) (by omega) h6)
  · obtain ⟨h1, an, ca1⟩ := a_see ca (w := w) (t := t) (by omega) (by omega) (by omega)
    obtain ⟨h2, V2, am, md2, rv2⟩ := e_see (an.2.md (by omega) md) rv (w := w) (t := t) (by omega) (by omega) (by omega)
    refine fin h89 an ca1 am md2 rv2 ?_ ha
    obtain ⟨w1, w2, w3, w4, w5, w6, w7⟩ := cw.up (B' := B + 48) (by omega)
    refine ⟨w1, w2, w3, w4, w5, by simp [adL, uL]; omega, fun i hi => ?_⟩
    have hi' : i < S 2 0 + 1 := by simpa [adL, uL] using hi
    by_cases e : i = S 2 0
    · simp [adL, uL, e]; omega
    · have := w7 i (by omega)
      simpa [adL, uL, e] using this
theorem s_forget (cs : CS h B) : OneC 79 152 [] h B := by
  obtain ⟨h89, V, hl, sp, L, M, T, S, hp, P, hk, K, ca, md, rv, cw, ha⟩ := cs
  obtain ⟨h1, an, ca1⟩ := a_forget ca
  obtain ⟨h2, V2, am, md2, rv2⟩ := e_forget (an.2.md (by omega) md) rv
  refine fin h89 an ca1 am md2 rv2 ?_ ha
  obtain ⟨w1, w2, w3, w4, w5, w6, w7⟩ := cw.up (B' := B + 48) (by omega)
  refine ⟨w1, w2, w3, w4, w5, by simp [uL], fun i hi => ?_⟩
  have : i < 0 := by simpa [uL] using hi
  omega
theorem s_laws (cs : CS h B) (hB : B ≤ 29000) (x : Int32) : OneC 80 153 [.int x] h B := by
  have cs0 := cs
  obtain ⟨h89, V, hl, sp, L, M, T, S, hp, P, hk, K, ca, md, rv, cw, ha⟩ := cs
  have wf := cw.1
  have wm := cw.2.2.1.m3 (by omega)
  rcases ixr x (a := 0) (b := 2) (by omega) (by omega) with q | ⟨k, _, hq, rfl⟩
  · exact fin0 cs0 (a_laws_bad q) (e_laws_bad q)
  have an := a_laws ca wf wm cw.2.2.2.2.2.1 cw.2.2.2.2.2.2 (q := k) (by omega)
  obtain ⟨h2, V2, am, md2, sk⟩ := e_laws md rv wf wm cw.2.2.2.2.2.1 cw.2.2.2.2.2.2 (q := k) (by omega)
  exact fin h89 an ca am md2 (rv.sk sk) (cw.up (by omega)) ha
theorem s_from (cs : CS h B) (hB : B ≤ 29000) (x x' : Int32) : OneC 81 154 [.int x, .int x'] h B := by
  have cs0 := cs
  obtain ⟨h89, V, hl, sp, L, M, T, S, hp, P, hk, K, ca, md, rv, cw, ha⟩ := cs
  have wf := cw.1
  have wm := cw.2.2.1.m3 (by omega)
  rcases ixr x (a := 0) (b := 4) (by omega) (by omega) with q | ⟨w, _, hw, rfl⟩
  · exact fin0 cs0 (a_from_bad q) (e_from_bad q)
  rcases ixr x' (a := 0) (b := 100) (by omega) (by omega) with q | ⟨t, _, ht, rfl⟩
  · exact fin0 cs0 (a_from_bad2 (w := w) (by omega) q) (e_from_bad2 (w := w) (by omega) q)
  by_cases hn : upL L M t = w
  · obtain ⟨h1, an, ca1⟩ := a_from ca wf wm (w := w) (t := t) (by omega) (by omega) hn
    obtain ⟨h2, V2, am, md2, sk⟩ := e_from (an.2.md (by omega) md) rv.1 rv.2.1 wf wm (w := w) (t := t) (by omega) (by omega)
    rw [if_pos hn] at am
    exact fin h89 an ca1 am md2 (rv.sk sk) (cw.up (by omega)) ha
  · have an := a_from_0 ca wf wm (w := w) (t := t) (by omega) (by omega) hn
    obtain ⟨h2, V2, am, md2, sk⟩ := e_from md rv.1 rv.2.1 wf wm (w := w) (t := t) (by omega) (by omega)
    rw [if_neg hn] at am
    exact fin h89 an ca am md2 (rv.sk sk) (cw.up (by omega)) ha
theorem s_grazing (cs : CS h B) (hB : B ≤ 29000) (x1 x2 x3 x4 : Int32) : OneC 82 155 [.int x1, .int x2, .int x3, .int x4] h B := by
  have cs0 := cs
  obtain ⟨h89, V, hl, sp, L, M, T, S, hp, P, hk, K, ca, md, rv, cw, ha⟩ := cs
  have wf := cw.1
  have wm := cw.2.2.1.m3 (by omega)
  rcases ixr x1 (a := 0) (b := 4) (by omega) (by omega) with q | ⟨w, _, hw, rfl⟩
  · exact fin0 cs0 (a_grazing_bad q) (e_grazing_bad q)
  rcases ixr x2 (a := 0) (b := 9) (by omega) (by omega) with q | ⟨n, _, hn, rfl⟩
  · exact fin0 cs0 (a_grazing_bad2 (w := w) (by omega) (Or.inl q)) (e_grazing_bad2 (w := w) (by omega) (Or.inl q))
  rcases ixr x3 (a := 0) (b := 11) (by omega) (by omega) with q | ⟨x, _, hx, rfl⟩
  · exact fin0 cs0 (a_grazing_bad2 (w := w) (by omega) (Or.inr (Or.inl q))) (e_grazing_bad2 (w := w) (by omega) (Or.inr (Or.inl q)))
  rcases ixr x4 (a := 0) (b := 2) (by omega) (by omega) with q | ⟨p, _, hp4, rfl⟩
  · exact fin0 cs0 (a_grazing_bad2 (w := w) (by omega) (Or.inr (Or.inr q))) (e_grazing_bad2 (w := w) (by omega) (Or.inr (Or.inr q)))
  obtain ⟨h1, an, ca1⟩ := a_grazing ca wf wm (w := w) (n := n) (x := x) (part := p) (by omega) (by omega) (by omega) (by omega)
  obtain ⟨h2, V2, am, md2, sk⟩ := e_grazing (an.2.md (by omega) md) rv wf wm (w := w) (n := n) (x := x) (part := p) (by omega) (by omega) (by omega) (by omega)
  exact fin h89 an ca1 am md2 (rv.sk sk) (cw.up (by omega)) ha
theorem s_year (cs : CS h B) (hB : B ≤ 29000) (x1 x2 x3 : Int32) : OneC 83 156 [.int x1, .int x2, .int x3] h B := by
  have cs0 := cs
  obtain ⟨h89, V, hl, sp, L, M, T, S, hp, P, hk, K, ca, md, rv, cw, ha⟩ := cs
  have wf := cw.1
  rcases ixr x1 (a := 0) (b := 10000) (by omega) (by omega) with q | ⟨z, _, hz, rfl⟩
  · exact fin0 cs0 (a_year_bad (Or.inl q)) (e_year_bad (Or.inl q))
  rcases ixr x2 (a := 1) (b := 61) (by omega) (by omega) with q | ⟨n, n1, n2, rfl⟩
  · exact fin0 cs0 (a_year_bad (Or.inr (Or.inl q))) (e_year_bad (Or.inr (Or.inl q)))
  rcases ixr x3 (a := 0) (b := 2) (by omega) (by omega) with q | ⟨k, _, hq, rfl⟩
  · exact fin0 cs0 (a_year_bad (Or.inr (Or.inr q))) (e_year_bad (Or.inr (Or.inr q)))
  obtain ⟨h1, an, ca1⟩ := a_year ca wf cw.2.2.1 hB (z := z) (n := n) (q := k) (by omega) (by omega) (by omega)
  obtain ⟨h2, V2, am, md2, rv2⟩ := e_year (an.2.md (by omega) md) rv wf ha cw.2.2.1 hB (z := z) (n := n) (q := k) (by omega) (by omega) (by omega)
  exact fin h89 an ca1 am md2 rv2 (cw.up (by omega)) ha
theorem s_count (cs : CS h B) (hB : B ≤ 29000) (x : Int32) : OneC 86 160 [.int x] h B := by
  have cs0 := cs
  obtain ⟨h89, V, hl, sp, L, M, T, S, hp, P, hk, K, ca, md, rv, cw, ha⟩ := cs
  have wf := cw.1
  have wm := cw.2.2.1.m3 (by omega)
  rcases ixr x (a := 0) (b := 11) (by omega) (by omega) with q | ⟨k, _, hq, rfl⟩
  · exact fin0 cs0 (a_count_bad q) (e_count_bad q)
  exact fin0 cs0 (a_count ca wf wm hq) (e_count md rv wf wm hq)
end
