/-! THE SAME RUN, THE CELLS PUT ELSEWHERE: parts 30-69 speak of 109697a's order of the cells (there the first text and the first scribe, cells 1, 2, 11, 12, were laid aside); the class now lays its objects in another order. A run over the first order, with four dead cells, is a run over the second -/
def mvP (a : Nat) : Nat := if a < 3 then 0 else if a < 11 then a + 2 else if a < 13 then 0 else if a < 21 then a else if a < 25 then a - 20 else a - 4
def mvL (a : Nat) : Prop := a ≠ 1 ∧ a ≠ 2 ∧ a ≠ 11 ∧ a ≠ 12
theorem mvP_inj {a b : Nat} (ha : mvL a) (hb : mvL b) (h : mvP a = mvP b) : a = b := by
  unfold mvL at ha hb
  unfold mvP at h
  (repeat' split at h) <;> omega
def mvV (v : Value) : Value := match v with
  | .ref a => .ref (mvP a)
  | v => v
def mvA (z : vp_A) : vp_A := match z.2 with
  | .inr (.inr (.inr (.inr f))) => (z.1, .inr (.inr (.inr (.inr fun j => (f j).map mvP))))
  | _ => z
def mvE (e : va_E) : va_E := match e with
  | .inl (t, z) => .inl (t, mvA z)
  | .inr (c, fs) => .inr (c, fs.map mvV)
/-- a cell that nothing reads -/
def mvD : va_E := .inl (3, 0, .inl fun _ => 0)
theorem mvA_1 (z : vp_A) : (mvA z).1 = z.1 := by
  unfold mvA
  split <;> rfl
def Mv (h h' : MH) : Prop := 25 ≤ h.length ∧ h'.length + 4 = h.length ∧ (∀ a, mvL a → h'[mvP a]? = (h[a]?).map mvE) ∧ ∀ a, ¬ mvL a → h[a]? = some mvD
def mvLs (ls : ML) : ML := ls.map (Option.map mvV)
section
variable {h h' h1 hF : MH} {y k : Nat} {ls l : ML} {st s r : List Value} {rv : Option Value}
theorem Mv.at (R : Mv h h') {a : Nat} {e : va_E} (he : h[a]? = some e) (hn : e ≠ mvD) : mvL a ∧ h'[mvP a]? = some (mvE e) := by
  rcases Classical.em (mvL a) with hl | hl
  · exact ⟨hl, by rw [R.2.2.1 a hl, he]; rfl⟩
  · exact absurd (Option.some.inj (he.symm.trans (R.2.2.2 a hl))) hn
theorem mvD_o {c : Nat} {fs : List Value} : (Sum.inr (c, fs) : va_E) ≠ mvD := fun q => by unfold mvD at q; cases q
theorem mvD_i {t n : Nat} {f : Nat → Int32} {i : Int32} (hin : vp_in i n) : (Sum.inl (t, n, .inl f) : va_E) ≠ mvD := fun q => by
  unfold mvD at q
  cases q
  exact hin (Or.inr (Nat.zero_le _))
theorem mvD_t {t : Nat} {z : vp_A} (ht : t < 3) : (Sum.inl (t, z) : va_E) ≠ mvD := fun q => by
  unfold mvD at q
  cases q
  omega
theorem Mv.set (R : Mv h h') {a : Nat} {e0 e : va_E} (he : h[a]? = some e0) (hl : mvL a) : Mv (h.set a e) (h'.set (mvP a) (mvE e)) := by
  have ha := (List.getElem?_eq_some_iff.mp he).1
  have he' : h'[mvP a]? = some (mvE e0) := by rw [R.2.2.1 a hl, he]; rfl
  have ha' := (List.getElem?_eq_some_iff.mp he').1
  refine ⟨by simpa using R.1, by simpa using R.2.1, fun b hb => ?_, fun b hb => ?_⟩
  · by_cases hab : a = b
    · subst hab
      rw [List.getElem?_set_self ha, List.getElem?_set_self ha']; rfl
    · rw [List.getElem?_set_ne hab, List.getElem?_set_ne (fun q => hab (mvP_inj hl hb q))]
      exact R.2.2.1 b hb
  · have hab : a ≠ b := fun q => hb (by rw [← q]; exact hl)
    rw [List.getElem?_set_ne hab]
    exact R.2.2.2 b hb
theorem Mv.len (R : Mv h h') : mvP h.length = h'.length := by
  have h1 := R.1
  have h2 := R.2.1
  unfold mvP
  (repeat' split) <;> omega
theorem Mv.push (R : Mv h h') (e : va_E) : Mv (h ++ [e]) (h' ++ [mvE e]) := by
  have h1 := R.1
  have h2 := R.2.1
  refine ⟨by simp; omega, by simp; omega, fun b hb => ?_, fun b hb => ?_⟩
  · by_cases hlt : b < h.length
    · have e1 := R.2.2.1 b hb
      have e2 : h'[mvP b]? = some (mvE h[b]) := by rw [e1, List.getElem?_eq_getElem hlt]; rfl
      rw [List.getElem?_append_left hlt, List.getElem?_append_left (List.getElem?_eq_some_iff.mp e2).1]
      exact e1
    · have hP : mvP b = h'.length + (b - h.length) := by
        unfold mvP
        (repeat' split) <;> omega
      rw [hP]
      by_cases hq : b = h.length
      · subst hq; simp
      · rw [List.getElem?_eq_none (by simp; omega), List.getElem?_eq_none (by simp; omega)]; rfl
  · have hlt : b < h.length := by unfold mvL at hb; omega
    rw [List.getElem?_append_left hlt]
    exact R.2.2.2 b hb
-- what reads and writes of the cells
theorem mv_fi (R : Mv h h') {o c f : Nat} {x : Int32} (hq : m_fi h o c f = some x) : m_fi h' (mvP o) c f = some x := by
  obtain ⟨fs, he, hv⟩ := m_fi_inv hq
  exact fi_e (fs := fs.map mvV) (R.at he mvD_o).2 (by rw [List.getElem?_map, hv]; rfl)
theorem mv_fr (R : Mv h h') {o c f x : Nat} (hq : m_fr h o c f = some x) : m_fr h' (mvP o) c f = some (mvP x) := by
  obtain ⟨fs, he, hv⟩ := m_fr_inv hq
  exact fr_e (fs := fs.map mvV) (R.at he mvD_o).2 (by rw [List.getElem?_map, hv]; rfl)
theorem mv_cls (R : Mv h h') {o c : Nat} (hq : m_cls h o = some c) : m_cls h' (mvP o) = some c := by
  obtain ⟨fs, he⟩ := m_cls_inv hq
  exact cls_e (fs := fs.map mvV) (R.at he mvD_o).2
theorem mv_pf (R : Mv h h') {o c f : Nat} {v : Value} (hq : m_pf h o c f v = some h1) : ∃ h1', m_pf h' (mvP o) c f (mvV v) = some h1' ∧ Mv h1 h1' := by
  obtain ⟨fs, he, hk, rfl⟩ := m_pf_inv hq
  obtain ⟨hl, he'⟩ := R.at he mvD_o
  refine ⟨_, pf_e (fs := fs.map mvV) he' (by simpa using hk), ?_⟩
  have e1 : mvE (.inr (c, fs.set f v)) = .inr (c, (fs.map mvV).set f (mvV v)) := by
    show Sum.inr (c, (fs.set f v).map mvV) = _
    rw [List.map_set]
  have := R.set (e := .inr (c, fs.set f v)) he hl
  rwa [e1] at this
theorem mv_ai (R : Mv h h') {o t : Nat} {i x : Int32} (hq : m_ai h o t i = some x) : m_ai h' (mvP o) t i = some x := by
  obtain ⟨n, f, he, hin, rfl⟩ := m_ai_inv hq
  have he' : h'[mvP o]? = some (.inl (t, n, .inl f)) := (R.at he (mvD_i hin)).2
  unfold m_ai
  rw [he']
  dsimp only
  rw [if_pos rfl, if_neg hin]
theorem mv_ar (R : Mv h h') {o x : Nat} {i : Int32} (hq : m_ar h o i = some x) : m_ar h' (mvP o) i = some (mvP x) := by
  obtain ⟨n, f, he, hin, hf⟩ := m_ar_inv hq
  have he' : h'[mvP o]? = some (.inl (2, n, .inr (.inr (.inr (.inr fun j => (f j).map mvP))))) := (R.at he (mvD_t (by omega))).2
  unfold m_ar
  rw [he']
  dsimp only
  rw [if_pos rfl, if_neg hin, hf]
  rfl
theorem mv_pi (R : Mv h h') {o t : Nat} {i x : Int32} (hq : m_pi h o t i x = some h1) : ∃ h1', m_pi h' (mvP o) t i x = some h1' ∧ Mv h1 h1' := by
  obtain ⟨n, f, he, hin, rfl⟩ := m_pi_inv hq
  obtain ⟨hl, he'⟩ := R.at he (mvD_i hin)
  have he' : h'[mvP o]? = some (.inl (t, n, .inl f)) := he'
  refine ⟨h'.set (mvP o) (.inl (t, n, .inl (upd f i.toNatClampNeg x))), ?_, R.set (e := .inl (t, n, .inl (upd f i.toNatClampNeg x))) he hl⟩
  unfold m_pi
  rw [he']
  dsimp only
  rw [if_pos rfl, if_neg hin]
theorem mv_pr (R : Mv h h') {o x : Nat} {i : Int32} (hq : m_pr h o i x = some h1) : ∃ h1', m_pr h' (mvP o) i (mvP x) = some h1' ∧ Mv h1 h1' := by
  obtain ⟨n, f, he, hin, hx, rfl⟩ := m_pr_inv hq
  obtain ⟨hl, he'⟩ := R.at he (mvD_t (by omega))
  have he' : h'[mvP o]? = some (.inl (2, n, .inr (.inr (.inr (.inr fun j => (f j).map mvP))))) := he'
  have e1 : (fun j => (va_up f i.toNatClampNeg (some x) j).map mvP) = va_up (fun j => (f j).map mvP) i.toNatClampNeg (some (mvP x)) := by
    funext j
    unfold va_up
    by_cases hj : j = i.toNatClampNeg
    · simp [hj]
    · simp [hj]
  refine ⟨h'.set (mvP o) (.inl (2, n, .inr (.inr (.inr (.inr (va_up (fun j => (f j).map mvP) i.toNatClampNeg (some (mvP x)))))))), ?_, ?_⟩
  · unfold m_pr
    rw [he']
    dsimp only
    rw [if_pos rfl, if_neg hin, if_pos (mv_cls R hx)]
  · have := R.set (e := .inl (2, n, .inr (.inr (.inr (.inr (va_up f i.toNatClampNeg (some x))))))) he hl
    have e2 : mvE (.inl (2, n, .inr (.inr (.inr (.inr (va_up f i.toNatClampNeg (some x))))))) = .inl (2, n, .inr (.inr (.inr (.inr (va_up (fun j => (f j).map mvP) i.toNatClampNeg (some (mvP x))))))) := by
      rw [← e1]; rfl
    rwa [e2] at this
theorem mv_al (R : Mv h h') {o : Nat} {x : Int32} (hq : m_al h o = some x) : m_al h' (mvP o) = some x := by
  obtain ⟨t, z, he, ht, rfl⟩ := m_al_inv hq
  have he' : h'[mvP o]? = some (.inl (t, mvA z)) := (R.at he (mvD_t ht)).2
  unfold m_al
  rw [he']
  dsimp only
  rw [if_pos ht, mvA_1]
-- locals
theorem mvV_cat (v : Value) : m_cat (mvV v) = m_cat v := by cases v <;> rfl
theorem mvV_ctg (v : Value) : (mvV v).category = v.category := by cases v <;> rfl
theorem mv_ld {i : Nat} {v : Value} (e : ls[i]? = some (some v)) : m_ld (mvLs ls) i = some (mvV v) := by
  unfold m_ld mvLs
  rw [List.getElem?_map, e]
  rfl
theorem mv_kill : ∀ i, m_kill (mvLs ls) i = mvLs (m_kill ls i) := by
  intro i
  cases i with
  | zero => rfl
  | succ j =>
    show (match (mvLs ls)[j]? with
      | some (some v) => bif Nat.beq v.category 2 then (mvLs ls).set j none else mvLs ls
      | _ => mvLs ls) = mvLs (match ls[j]? with
      | some (some v) => bif Nat.beq v.category 2 then ls.set j none else ls
      | _ => ls)
    have e : (mvLs ls)[j]? = (ls[j]?).map (Option.map mvV) := List.getElem?_map ..
    rw [e]
    cases ls[j]? with
    | none => rfl
    | some o =>
      cases o with
      | none => rfl
      | some v =>
        show (bif Nat.beq (mvV v).category 2 then (mvLs ls).set j none else mvLs ls) = mvLs (bif Nat.beq v.category 2 then ls.set j none else ls)
        rw [mvV_ctg]
        cases Nat.beq v.category 2
        · rfl
        · show (mvLs ls).set j none = mvLs (ls.set j none)
          unfold mvLs
          rw [List.map_set]
          rfl
theorem mv_sto {i : Nat} {v : Value} (e : m_sto ls i v = some l) : m_sto (mvLs ls) i (mvV v) = some (mvLs l) := by
  obtain ⟨hi, rfl⟩ := m_sto_inv e
  unfold m_sto
  rw [if_pos (by simpa [mvLs] using hi), mv_kill]
  unfold mvLs
  rw [List.map_set]
  rfl
theorem mv_sto2 {i : Nat} {v : Value} (e : m_sto2 ls i v = some l) : m_sto2 (mvLs ls) i (mvV v) = some (mvLs l) := by
  obtain ⟨hi, rfl⟩ := m_sto2_inv e
  unfold m_sto2
  rw [if_pos (by simpa [mvLs] using hi), mv_kill]
  unfold mvLs
  rw [List.map_set, List.map_set]
  rfl
theorem mv_ldi {i : Nat} (e : m_ldi ls i st = some (l, s)) : m_ldi (mvLs ls) i (st.map mvV) = some (mvLs l, s.map mvV) := by
  obtain ⟨x, h2, h3⟩ := m_ldi_inv e
  cases h3
  unfold m_ldi
  rw [mv_ld h2]
  rfl
theorem mv_lda {i : Nat} (e : m_lda ls i st = some (l, s)) : m_lda (mvLs ls) i (st.map mvV) = some (mvLs l, s.map mvV) := by
  obtain ⟨x, h2, h3⟩ := m_lda_inv e
  cases h3
  unfold m_lda
  rw [mv_ld h2]
  rfl
theorem mv_ldl {i : Nat} (e : m_ldl ls i st = some (l, s)) : m_ldl (mvLs ls) i (st.map mvV) = some (mvLs l, s.map mvV) := by
  obtain ⟨x, h2, h3⟩ := m_ldl_inv e
  cases h3
  unfold m_ldl
  rw [mv_ld h2]
  rfl
theorem mv_sti {i : Nat} (e : m_sti ls i st = some (l, s)) : m_sti (mvLs ls) i (st.map mvV) = some (mvLs l, s.map mvV) := by
  obtain ⟨x, r, l', rfl, h2, h3⟩ := m_sti_inv e
  cases h3
  have := mv_sto h2
  unfold m_sti
  show (match m_sto (mvLs ls) i (.int x) with | some l => some (l, s.map mvV) | none => none) = _
  rw [show m_sto (mvLs ls) i (.int x) = _ from this]
theorem mv_sta {i : Nat} (e : m_sta ls i st = some (l, s)) : m_sta (mvLs ls) i (st.map mvV) = some (mvLs l, s.map mvV) := by
  obtain ⟨x, r, l', rfl, h2, h3⟩ := m_sta_inv e
  cases h3
  have := mv_sto h2
  unfold m_sta
  show (match m_sto (mvLs ls) i (.ref (mvP x)) with | some l => some (l, s.map mvV) | none => none) = _
  rw [show m_sto (mvLs ls) i (.ref (mvP x)) = _ from this]
theorem mv_stl {i : Nat} (e : m_stl ls i st = some (l, s)) : m_stl (mvLs ls) i (st.map mvV) = some (mvLs l, s.map mvV) := by
  obtain ⟨x, r, l', rfl, h2, h3⟩ := m_stl_inv e
  cases h3
  have := mv_sto2 h2
  unfold m_stl
  show (match m_sto2 (mvLs ls) i (.long x) with | some l => some (l, s.map mvV) | none => none) = _
  rw [show m_sto2 (mvLs ls) i (.long x) = _ from this]
theorem mv_inc {i : Nat} {c : Int32} (e : m_inc ls i c st = some (l, s)) : m_inc (mvLs ls) i c (st.map mvV) = some (mvLs l, s.map mvV) := by
  obtain ⟨x, l', h2, h3, h4⟩ := m_inc_inv e
  cases h4
  have := mv_sto h3
  unfold m_inc
  rw [mv_ld h2]
  show (match m_sto (mvLs ls) i (.int (x + c)) with | some l => some (l, st.map mvV) | none => none) = _
  rw [show m_sto (mvLs ls) i (.int (x + c)) = _ from this]
theorem mv_bin {f : Int32 → Int32 → Int32} (e : m_bin f ls st = some (l, s)) : m_bin f (mvLs ls) (st.map mvV) = some (mvLs l, s.map mvV) := by
  obtain ⟨x, y, r, rfl, h2⟩ := m_bin_inv e
  cases h2
  rfl
theorem mv_binL {f : Int64 → Int64 → Int64} (e : m_binL f ls st = some (l, s)) : m_binL f (mvLs ls) (st.map mvV) = some (mvLs l, s.map mvV) := by
  obtain ⟨x, y, r, rfl, h2⟩ := m_binL_inv e
  cases h2
  rfl
theorem mv_dup (e : m_dup ls st = some (l, s)) : m_dup (mvLs ls) (st.map mvV) = some (mvLs l, s.map mvV) := by
  obtain ⟨v, r, rfl, h1, h2⟩ := m_dup_inv e
  cases h2
  show (if m_cat (mvV v) = true then some (mvLs ls, mvV v :: mvV v :: r.map mvV) else none) = _
  rw [mvV_cat, if_pos h1]
  rfl
theorem mv_dup2 (e : m_dup2 ls st = some (l, s)) : m_dup2 (mvLs ls) (st.map mvV) = some (mvLs l, s.map mvV) := by
  obtain ⟨v, w, r, rfl, h1, h3, h2⟩ := m_dup2_inv e
  cases h2
  show (if m_cat (mvV v) = true then (if m_cat (mvV w) = true then some (mvLs ls, mvV v :: mvV w :: mvV v :: mvV w :: r.map mvV) else none) else none) = _
  rw [mvV_cat, mvV_cat, if_pos h1, if_pos h3]
  rfl
theorem mv_pop (e : m_pop ls st = some (l, s)) : m_pop (mvLs ls) (st.map mvV) = some (mvLs l, s.map mvV) := by
  obtain ⟨v, r, rfl, h1, h2⟩ := m_pop_inv e
  cases h2
  show (if m_cat (mvV v) = true then some (mvLs ls, s.map mvV) else none) = _
  rw [mvV_cat, if_pos h1]
theorem mv_i2l (e : m_i2l ls st = some (l, s)) : m_i2l (mvLs ls) (st.map mvV) = some (mvLs l, s.map mvV) := by
  obtain ⟨x, r, rfl, h2⟩ := m_i2l_inv e
  cases h2
  rfl
theorem mv_l2i (e : m_l2i ls st = some (l, s)) : m_l2i (mvLs ls) (st.map mvV) = some (mvLs l, s.map mvV) := by
  obtain ⟨x, r, rfl, h2⟩ := m_l2i_inv e
  cases h2
  rfl
theorem mv_i2c (e : m_i2c ls st = some (l, s)) : m_i2c (mvLs ls) (st.map mvV) = some (mvLs l, s.map mvV) := by
  obtain ⟨x, r, rfl, h2⟩ := m_i2c_inv e
  cases h2
  rfl
theorem mv_pure {i : Instr} {a : List Nat} {c : Int32} (hp : m_pure i a c ls st = some (l, s)) : m_pure i a c (mvLs ls) (st.map mvV) = some (mvLs l, s.map mvV) := by
  unfold m_pure at hp
  split at hp
  all_goals first
    | (cases hp; rfl)
    | exact mv_ldi hp
    | exact mv_lda hp
    | exact mv_ldl hp
    | exact mv_sti hp
    | exact mv_sta hp
    | exact mv_stl hp
    | exact mv_inc hp
    | exact mv_bin hp
    | exact mv_binL hp
    | exact mv_dup hp
    | exact mv_dup2 hp
    | exact mv_pop hp
    | exact mv_i2l hp
    | exact mv_l2i hp
    | exact mv_i2c hp
    | cases hp
theorem mv_stepP {pc len : Nat} {i : Instr} {a : List Nat} {c : Int32} (hcode : m_code y k = some (pc, i, len, a, c)) (hp : m_pure i a c ls st = some (l, s)) (e : MF) (h : MH) : m_step e y k ls st h = e y (k + 1) l s h := by
  unfold m_step
  rw [hcode]
  dsimp only
  split
  all_goals first
    | exact absurd (show (none : Option (ML × List Value)) = some (l, s) from hp) (fun q => by cases q)
    | rw [hp]
-- calls
theorem mv_args : ∀ (n : Nat) (acc st as r : List Value), m_args n acc st = some (as, r) → m_args n (acc.map mvV) (st.map mvV) = some (as.map mvV, r.map mvV) := by
  intro n
  induction n with
  | zero => intro acc st as r e; cases e; rfl
  | succ n ih =>
    intro acc st as r e
    cases st with
    | nil => cases e
    | cons v st => exact ih (v :: acc) st as r e
theorem mv_okr (r : List Value) : m_okr (r.map mvV) = m_okr r := match r with
  | [] => rfl
  | [_] => rfl
  | [_, _] => rfl
  | [_, _, _] => rfl
  | [_, _, _, _] => rfl
  | _ :: _ :: _ :: _ :: _ :: _ => rfl
theorem mv_cats : ∀ as : List Value, m_cats (as.map mvV) = m_cats as := by
  intro as
  induction as with
  | nil => rfl
  | cons v r ih =>
    show (m_cat (mvV v) && m_cats (r.map mvV)) = (m_cat v && m_cats r)
    rw [ih, mvV_cat]
theorem mv_okc (as r : List Value) : m_okc (as.map mvV) (r.map mvV) = m_okc as r := by
  unfold m_okc
  rw [mv_okr, mv_cats]
theorem mv_str (q j : Nat) (as : List Value) : m_str q j (as.map mvV) = m_str q j as := by
  cases as with
  | nil => rfl
  | cons v r => cases v <;> cases r <;> rfl
theorem mv_ent (n : Nat) (as : List Value) : mvLs (m_ent n as) = m_ent n (as.map mvV) := by
  unfold m_ent mvLs
  rw [List.map_append, List.map_replicate, List.map_map, List.map_map, List.length_map]
  rfl
/-- a step's rest, moved -/
def MvF (e e' : MF) : Prop := ∀ (y k : Nat) (ls : ML) (st : List Value) (h h' : MH) (rv : Option Value) (hF : MH), Mv h h' → e y k ls st h = some (rv, hF) → ∃ hF', e' y k (mvLs ls) (st.map mvV) h' = some (rv.map mvV, hF') ∧ Mv hF hF'
variable {e e' : MF}
theorem mv_call (he : MvF e e') (R : Mv h h') {z : Nat} {as : List Value} (hst : m_call e z y k as ls r h = some (rv, hF)) : ∃ hF', m_call e' z y k (as.map mvV) (mvLs ls) (r.map mvV) h' = some (rv.map mvV, hF') ∧ Mv hF hF' := by
  unfold m_call at hst
  obtain ⟨⟨v1, h1⟩, hq, hst⟩ := Option.bind_eq_some_iff.mp hst
  obtain ⟨h1', g1, R1⟩ := he _ _ _ _ _ _ _ _ R hq
  obtain ⟨hF', g2, R2⟩ := he _ _ _ _ _ _ _ _ R1 hst
  refine ⟨hF', ?_, R2⟩
  rw [mv_ent] at g1
  have g1 : e' z 0 (m_ent (m_maxL z) (as.map mvV)) [] h' = _ := g1
  unfold m_call
  rw [g1]
  rw [List.map_append] at g2
  cases v1 with
  | none => exact g2
  | some v => exact g2
theorem mv_sw {x : Int32} {d : Nat} {f f' : Nat → MR} (hf : ∀ t rv hF, f t = some (rv, hF) → ∃ hF', f' t = some (rv.map mvV, hF') ∧ Mv hF hF') : ∀ (n : Nat) (l : List Nat), l.length ≤ n → ∀ {rv : Option Value} {hF : MH}, m_sw x d f l = some (rv, hF) → ∃ hF', m_sw x d f' l = some (rv.map mvV, hF') ∧ Mv hF hF' := by
  intro n
  induction n with
  | zero =>
    intro l hl rv hF hs
    cases l with
    | nil => exact hf d _ _ hs
    | cons a l => simp at hl
  | succ n ih =>
    intro l hl rv hF hs
    match l, hl with
    | [], _ => exact hf d _ _ hs
    | [_], _ => exact hf d _ _ hs
    | v :: t :: r, hl =>
      unfold m_sw at hs ⊢
      split at hs
      · rename_i hx
        rw [if_pos hx]
        exact hf t _ _ hs
      · rename_i hx
        rw [if_neg hx]
        exact ih r (by simp at hl; omega) hs
theorem mv_br {cd : ClassFile.Cond} {x z : Int32} {A B A' B' : MR} (hA : ∀ rv hF, A = some (rv, hF) → ∃ hF', A' = some (rv.map mvV, hF') ∧ Mv hF hF') (hB : ∀ rv hF, B = some (rv, hF) → ∃ hF', B' = some (rv.map mvV, hF') ∧ Mv hF hF') (hs : m_br cd x z A B = some (rv, hF)) : ∃ hF', m_br cd x z A' B' = some (rv.map mvV, hF') ∧ Mv hF hF' := by
  cases cd <;> (dsimp only [m_br] at hs ⊢; split at hs) <;> rename_i hx <;> first
    | (rw [if_pos hx]; exact hA _ _ hs)
    | (rw [if_pos hx]; exact hB _ _ hs)
    | (rw [if_neg hx]; exact hA _ _ hs)
    | (rw [if_neg hx]; exact hB _ _ hs)
theorem mv_def (c : Nat) : mvE (.inr (c, m_def c)) = .inr (c, m_def c) := match c with
  | 0 => rfl
  | 1 => rfl
  | 2 => rfl
  | 3 => rfl
  | 4 => rfl
  | 5 => rfl
  | 6 => rfl
  | 7 => rfl
  | 8 => rfl
  | _ + 9 => rfl
end
