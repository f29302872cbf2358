/-! the class's order of the cells as the one that parts 30-69 speak of; both at first, and one call of both, in the class's order -/
def mvQ (b : Nat) : Nat := if b < 1 then 0 else if b < 5 then b + 20 else if b < 13 then b - 2 else if b < 21 then b else b + 4
theorem mvQ_c (b : Nat) : mvP (mvQ b) = b := by
  unfold mvQ
  (repeat' split) <;> (unfold mvP; (repeat' split) <;> omega)
theorem mvQ_l (b : Nat) : mvL (mvQ b) := by
  unfold mvQ mvL
  (repeat' split) <;> omega
theorem mvQ_h {a : Nat} (h : 21 ≤ a) : mvQ a = a + 4 := by
  unfold mvQ
  (repeat' split) <;> omega
def nvV (v : Value) : Value := match v with
  | .ref a => .ref (mvQ a)
  | v => v
def nvA (z : vp_A) : vp_A := match z.2 with
  | .inr (.inr (.inr (.inr f))) => (z.1, .inr (.inr (.inr (.inr fun j => (f j).map mvQ))))
  | _ => z
def nvE (e : va_E) : va_E := match e with
  | .inl (t, z) => .inl (t, nvA z)
  | .inr (c, fs) => .inr (c, fs.map nvV)
theorem nvV_c (v : Value) : mvV (nvV v) = v := by
  cases v <;> first
    | rfl
    | (show Value.ref (mvP (mvQ _)) = _; rw [mvQ_c])
theorem nvA_c (z : vp_A) : mvA (nvA z) = z := by
  obtain ⟨n, f⟩ := z
  match f with
  | .inl _ => rfl
  | .inr (.inl _) => rfl
  | .inr (.inr (.inl _)) => rfl
  | .inr (.inr (.inr (.inl _))) => rfl
  | .inr (.inr (.inr (.inr f))) =>
    show (n, Sum.inr (Sum.inr (Sum.inr (Sum.inr fun j => ((f j).map mvQ).map mvP)))) = _
    have : (fun j => ((f j).map mvQ).map mvP) = f := by
      funext j
      cases f j with
      | none => rfl
      | some x => show some (mvP (mvQ x)) = _; rw [mvQ_c]
    rw [this]
theorem nvE_c (e : va_E) : mvE (nvE e) = e := by
  match e with
  | .inl (t, z) => show Sum.inl (t, mvA (nvA z)) = _; rw [nvA_c]
  | .inr (c, fs) =>
    show Sum.inr (c, (fs.map nvV).map mvV) = _
    rw [List.map_map, show (mvV ∘ nvV) = id from funext nvV_c, List.map_id]
def mvB (g : MH) : MH := (List.range 72).map fun p => if p ≠ 1 ∧ p ≠ 2 ∧ p ≠ 11 ∧ p ≠ 12 then (match g[mvP p]? with
  | some e => nvE e
  | none => mvD) else mvD
section
variable {g h h' : MH} {L M T C S X : LT} {P : Nat → LT}
theorem mvB_at {b : Nat} {x : va_E} (e : g[b]? = some x) (hb : b < 68) : (mvB g)[mvQ b]? = some (nvE x) := by
  have hl : mvQ b ≠ 1 ∧ mvQ b ≠ 2 ∧ mvQ b ≠ 11 ∧ mvQ b ≠ 12 := mvQ_l b
  have hq : mvQ b < 72 := by unfold mvQ; (repeat' split) <;> omega
  unfold mvB
  rw [List.getElem?_map, List.getElem?_range hq, Option.map_some, if_pos hl, mvQ_c, e]
theorem mvB_Mv (hg : g.length = 68) : Mv (mvB g) g := by
  refine ⟨by simp [mvB], by simp [mvB, hg], fun a ha => ?_, fun a ha => ?_⟩
  · have ha' : a ≠ 1 ∧ a ≠ 2 ∧ a ≠ 11 ∧ a ≠ 12 := ha
    by_cases hlt : a < 72
    · have hp : mvP a < g.length := by
        rw [hg]
        unfold mvL at ha
        unfold mvP
        (repeat' split) <;> omega
      have e := List.getElem?_eq_getElem hp
      have e2 : (mvB g)[a]? = some (nvE g[mvP a]) := by
        unfold mvB
        rw [List.getElem?_map, List.getElem?_range hlt, Option.map_some, if_pos ha', e]
      rw [e2, e]
      show _ = some (mvE (nvE _))
      rw [nvE_c]
    · have hp : g.length ≤ mvP a := by
        rw [hg]
        unfold mvP
        (repeat' split) <;> omega
      rw [List.getElem?_eq_none hp, List.getElem?_eq_none (by simp [mvB]; omega)]
      rfl
  · have ha' : ¬ (a ≠ 1 ∧ a ≠ 2 ∧ a ≠ 11 ∧ a ≠ 12) := ha
    have hlt : a < 72 := by omega
    unfold mvB
    rw [List.getElem?_map, List.getElem?_range hlt, Option.map_some, if_neg ha']
theorem mvB_mo {a : Nat} (ha : 21 ≤ a) (hb : a + 2 < 68) (e : MoA g a M) : MoA (mvB g) (a + 4) M := by
  obtain ⟨e0, e1, e2⟩ := e
  have q0 := mvB_at e0 (by omega)
  have q1 := mvB_at e1 (by omega)
  have q2 := mvB_at e2 (by omega)
  rw [mvQ_h (by omega)] at q0 q1 q2
  refine ⟨?_, q1, q2⟩
  rw [q0]
  show some (Sum.inr (1, [Value.ref (mvQ (a + 1)), Value.ref (mvQ (a + 2)), _, _, _, _])) = _
  rw [mvQ_h (by omega), mvQ_h (by omega)]
  rfl
theorem mvB_sh {a n nx hd : Nat} (ha : 21 ≤ a) (hb : a + 2 + 3 * n ≤ 68) (e : ShA g a n nx hd P) : ShA (mvB g) (a + 4) n nx hd P := by
  obtain ⟨h1, h2, e0, e1, e2⟩ := e
  have q0 := mvB_at e0 (by omega)
  have q1 := mvB_at e1 (by omega)
  rw [mvQ_h (by omega)] at q0 q1
  refine ⟨h1, h2, ?_, ?_, fun j hj => ?_⟩
  · rw [q0]
    show some (Sum.inr (4, [Value.ref (mvQ (a + 1)), _, _])) = _
    rw [mvQ_h (by omega)]
    rfl
  · rw [show a + 4 + 1 = a + 1 + 4 by omega, q1]
    show some (Sum.inl (2, n, Sum.inr (Sum.inr (Sum.inr (Sum.inr fun i => (if i < n then some (a + 2 + 3 * i) else none).map mvQ))))) = _
    have : (fun i => (if i < n then some (a + 2 + 3 * i) else none).map mvQ) = fun i => if i < n then some (a + 4 + 2 + 3 * i) else none := by
      funext i
      split
      · show some (mvQ _) = _
        rw [mvQ_h (by omega), show a + 2 + 3 * i + 4 = a + 4 + 2 + 3 * i by omega]
      · rfl
    rw [this]
  · obtain ⟨M, m1, m2, m3⟩ := e2 j hj
    refine ⟨M, ?_, m2, m3⟩
    have hm : (nx + n - 1 - j) % n < n := Nat.mod_lt _ (by omega)
    generalize (nx + n - 1 - j) % n = x at *
    rw [show a + 4 + 2 + 3 * x = a + 2 + 3 * x + 4 by omega]
    exact mvB_mo (by omega) (by omega) m1
theorem NA.ca (na : NA g L M T C) : CA (mvB g) 3 13 L M T zL 0 (fun _ => zL) 0 (fun _ => zL) := by
  obtain ⟨lg, e0, ⟨i0, i1, i2, i3, i4, i5, i6, i7⟩, ⟨j0, j1, j2, j3, j4, j5, j6, j7⟩, ⟨t0, t1⟩, ⟨c0, c1⟩, mo, tri, sh, ke, ⟨s0, s1, s2⟩, ⟨o0, o1, o2⟩, ch⟩ := na
  refine ⟨Or.inl ⟨rfl, rfl⟩, mvB_at e0 (by omega), ⟨mvB_at i0 (by omega), mvB_at i1 (by omega), mvB_at i2 (by omega), mvB_at i3 (by omega), mvB_at i4 (by omega), mvB_at i5 (by omega), mvB_at i6 (by omega), mvB_at i7 (by omega)⟩, ⟨zL, mvB_at j0 (by omega), mvB_at j1 (by omega), mvB_at j2 (by omega), mvB_at j3 (by omega), mvB_at j4 (by omega), mvB_at j5 (by omega), mvB_at j6 (by omega), mvB_at j7 (by omega)⟩, ⟨mvB_at t0 (by omega), mvB_at t1 (by omega)⟩, ⟨C, mvB_at c0 (by omega), mvB_at c1 (by omega)⟩, mvB_mo (by omega) (by omega) mo, ⟨zL, mvB_mo (by omega) (by omega) tri⟩, ⟨0, mvB_sh (by omega) (by omega) sh⟩, ⟨0, mvB_sh (by omega) (by omega) ke⟩, ⟨mvB_at s0 (by omega), mvB_at s1 (by omega), mvB_at s2 (by omega)⟩, ⟨zL, ⟨mvB_at o0 (by omega), mvB_at o1 (by omega), mvB_at o2 (by omega)⟩, fun _ => by show 0 < 2048; omega, fun _ => by show 0 < 4; omega⟩, ⟨_, mvB_at ch (by omega)⟩⟩
end
/-- both, at first: in the class's order, and what it is in the other -/
theorem both_newG {g : MH} {L M T C : LT} (q : m_ev 58 0 (m_ent (m_maxL 58) [.ref 0]) [] [.inr (7, m_def 7)] = some (none, g)) (ag : AgM M (st0 L)) (na : NA g L M T C) (hT : T 1 0 = 0) (fs : FS L 7 3) (wf : WfH L) : ∃ h1 h2 h, m_ev 58 0 (m_ent (m_maxL 58) [.ref 0]) [] [.inr (7, m_def 7)] = some (none, h1) ∧ h1.length = 68 ∧ m_ev 96 0 (m_ent (m_maxL 96) [.ref 68]) [] (h1 ++ [.inr (8, m_def 8)]) = some (none, h2) ∧ CS h 0 ∧ Mv h h2 := by
  have R := mvB_Mv na.1
  obtain ⟨h2, q2, cs⟩ := both_gen hT (by simp [mvB]) ag na.ca fs wf
  obtain ⟨h2', p2, R2⟩ := mv_ev (R.push _) q2
  rw [mv_def, mv_ent] at p2
  exact ⟨g, h2', h2, q, na.1, p2, cs, R2⟩
theorem both_new : ∃ h1 h2 h, m_ev 58 0 (m_ent (m_maxL 58) [.ref 0]) [] [.inr (7, m_def 7)] = some (none, h1) ∧ h1.length = 68 ∧ m_ev 96 0 (m_ent (m_maxL 96) [.ref 68]) [] (h1 ++ [.inr (8, m_def 8)]) = some (none, h2) ∧ CS h 0 ∧ Mv h h2 :=
  a_new0.elim fun _ w => w.elim fun _ w => w.elim fun _ w => both_newG w.1 w.2.1 w.2.2 (uL_s _ _ _ _) fir_FS.2 fir_wf
/-- one state of both, in the class's order -/
def CT (h' : MH) (B : Nat) : Prop := ∃ h, CS h B ∧ Mv h h'
theorem CT.len {h' : MH} {B : Nat} (c : CT h' B) : h'.length = 85 := by
  obtain ⟨h, cs, R⟩ := c
  have h1 := cs.1
  have h2 := R.2.1
  omega
theorem CT.up {h' : MH} {B B' : Nat} (hb : B ≤ B') (c : CT h' B) : CT h' B' := by
  obtain ⟨h, ⟨h89, V, hl2, sp, L2, M, T, S, hp, P, hk2, K, ca, md, rv, cw, ha⟩, R⟩ := c
  exact ⟨h, ⟨h89, V, hl2, sp, L2, M, T, S, hp, P, hk2, K, ca, md, rv, cw.up hb, ha⟩, R⟩
def OneT (zc zm : Nat) (xs : List Value) (h : MH) (B : Nat) : Prop := ∃ (v : Int32) (h1 h2 : MH), m_cls h 0 = some 7 ∧ m_ev zc 0 (m_ent (m_maxL zc) (.ref 0 :: xs)) [] h = some (some (.int v), h1) ∧ m_cls h1 68 = some 8 ∧ m_ev zm 0 (m_ent (m_maxL zm) (.ref 68 :: xs)) [] h1 = some (some (.int v), h2) ∧ CT h2 (B + 48)
theorem OneC.mv {zc zm B : Nat} {xs : List Value} {h h' : MH} (hxs : xs.map mvV = xs) (cs : CS h B) (one : OneC zc zm xs h B) (R : Mv h h') : OneT zc zm xs h' B := by
  obtain ⟨v, h1, h2, q1, f1, q2, cs2⟩ := one
  obtain ⟨h1', p1, R1⟩ := mv_ev R q1
  obtain ⟨h2', p2, R2⟩ := mv_ev R1 q2
  rw [mv_ent, List.map_cons, hxs] at p1 p2
  obtain ⟨h89, V, hl', sp, L', M, T, S, hp, P, hk', K, ca, md, _⟩ := cs
  exact ⟨v, h1', h2', mv_cls (o := 0) R (oF ca.2.1).1, p1, mv_cls (o := 72) R1 (mdF (f1.md (by omega) md)).1, p2, h2, cs2, R2⟩
