/-! the small machine's run as one function m_ev, without fuel: m_ev = m_step m_ev -/
theorem m_sz_push {h : MH} {e : va_E} : m_sz (h ++ [e]) = m_sz h + m_csz e := by simp [m_sz]
theorem m_set_sum : ∀ (l : List Nat) (o x : Nat), l[o]? = some x → (l.set o x).sum = l.sum := by
  intro l
  induction l with
  | nil => intro o x h; simp at h
  | cons a l ih =>
    intro o x h
    cases o with
    | zero => simp at h; simp [h]
    | succ o => simp at h; simp [ih o x (by simpa using h)]
theorem m_sz_set {h : MH} {o : Nat} {e e' : va_E} (he : h[o]? = some e) (hs : m_csz e' = m_csz e) : m_sz (h.set o e') = m_sz h := by
  unfold m_sz
  rw [List.map_set, hs]
  exact m_set_sum _ _ _ (by simp [he])
-- what a read or a write says
theorem m_fi_inv {h : MH} {a c k : Nat} {x : Int32} (hq : m_fi h a c k = some x) : ∃ fs, h[a]? = some (.inr (c, fs)) ∧ fs[k]? = some (.int x) := by
  unfold m_fi at hq
  split at hq
  · rename_i o ho
    obtain ⟨c', fs⟩ := o
    dsimp only at hq
    split at hq
    · rename_i hc
      subst hc
      split at hq
      · rename_i z hz
        cases hq
        exact ⟨fs, ho, hz⟩
      · cases hq
    · cases hq
  · cases hq
theorem m_fr_inv {h : MH} {a c k : Nat} {x : Nat} (hq : m_fr h a c k = some x) : ∃ fs, h[a]? = some (.inr (c, fs)) ∧ fs[k]? = some (.ref x) := by
  unfold m_fr at hq
  split at hq
  · rename_i o ho
    obtain ⟨c', fs⟩ := o
    dsimp only at hq
    split at hq
    · rename_i hc
      subst hc
      split at hq
      · rename_i z hz
        cases hq
        exact ⟨fs, ho, hz⟩
      · cases hq
    · cases hq
  · cases hq
theorem m_pf_inv {h h' : MH} {a c k : Nat} {v : Value} (hq : m_pf h a c k v = some h') : ∃ fs, h[a]? = some (.inr (c, fs)) ∧ k < fs.length ∧ h' = h.set a (.inr (c, fs.set k v)) := by
  unfold m_pf at hq
  split at hq
  · rename_i o ho
    obtain ⟨c', fs⟩ := o
    dsimp only at hq
    split at hq
    · rename_i hc
      subst hc
      split at hq
      · rename_i hk
        cases hq
        exact ⟨fs, ho, hk, rfl⟩
      · cases hq
    · cases hq
  · cases hq
theorem m_cls_inv {h : MH} {a c : Nat} (hq : m_cls h a = some c) : ∃ fs, h[a]? = some (.inr (c, fs)) := by
  unfold m_cls at hq
  split at hq
  · rename_i o ho
    cases hq
    exact ⟨o.2, ho⟩
  · cases hq
theorem m_ai_inv {h : MH} {a t : Nat} {i x : Int32} (hq : m_ai h a t i = some x) : ∃ n f, h[a]? = some (.inl (t, n, .inl f)) ∧ vp_in i n ∧ x = f i.toNatClampNeg := by
  unfold m_ai at hq
  split at hq
  · rename_i t' n f ho
    split at hq
    · rename_i hc
      subst hc
      split at hq
      · cases hq
      · rename_i hi
        cases hq
        exact ⟨n, f, ho, hi, rfl⟩
    · cases hq
  · cases hq
theorem m_ar_inv {h : MH} {a : Nat} {i : Int32} {x : Nat} (hq : m_ar h a i = some x) : ∃ n f, h[a]? = some (.inl (2, n, .inr (.inr (.inr (.inr f))))) ∧ vp_in i n ∧ f i.toNatClampNeg = some x := by
  unfold m_ar at hq
  split at hq
  · rename_i t' n f ho
    split at hq
    · rename_i hc
      subst hc
      split at hq
      · cases hq
      · rename_i hi
        exact ⟨n, f, ho, hi, hq⟩
    · cases hq
  · cases hq
theorem m_pi_inv {h h' : MH} {a t : Nat} {i x : Int32} (hq : m_pi h a t i x = some h') : ∃ n f, h[a]? = some (.inl (t, n, .inl f)) ∧ vp_in i n ∧ h' = h.set a (.inl (t, n, .inl (upd f i.toNatClampNeg x))) := by
  unfold m_pi at hq
  split at hq
  · rename_i t' n f ho
    split at hq
    · rename_i hc
      subst hc
      split at hq
      · cases hq
      · rename_i hi
        cases hq
        exact ⟨n, f, ho, hi, rfl⟩
    · cases hq
  · cases hq
theorem m_pr_inv {h h' : MH} {a : Nat} {i : Int32} {x : Nat} (hq : m_pr h a i x = some h') : ∃ n f, h[a]? = some (.inl (2, n, .inr (.inr (.inr (.inr f))))) ∧ vp_in i n ∧ m_cls h x = some 1 ∧ h' = h.set a (.inl (2, n, .inr (.inr (.inr (.inr (va_up f i.toNatClampNeg (some x))))))) := by
  unfold m_pr at hq
  split at hq
  · rename_i t' n f ho
    split at hq
    · rename_i hc
      subst hc
      split at hq
      · cases hq
      · rename_i hi
        split at hq
        · rename_i hx
          cases hq
          exact ⟨n, f, ho, hi, hx, rfl⟩
        · cases hq
    · cases hq
  · cases hq
theorem m_al_inv {h : MH} {a : Nat} {x : Int32} (hq : m_al h a = some x) : ∃ t z, h[a]? = some (.inl (t, z)) ∧ t < 3 ∧ x = Int32.ofNat z.1 := by
  unfold m_al at hq
  split at hq
  · rename_i t z ho
    split at hq
    · rename_i ht
      cases hq
      exact ⟨t, z, ho, ht, rfl⟩
    · cases hq
  · cases hq
theorem m_map_set {h : MH} {o : Nat} {e e' : va_E} (he : h[o]? = some e) (hs : m_csz e' = m_csz e) : (h.set o e').map m_csz = h.map m_csz := by
  rw [List.map_set, hs]
  apply List.ext_getElem?
  intro i
  by_cases hi : o = i
  · subst hi
    have hl : o < (h.map m_csz).length := by simpa using (List.getElem?_eq_some_iff.mp he).1
    rw [List.getElem?_set_self hl]
    simp [he]
  · rw [List.getElem?_set_ne hi]
/-- the cells grow: their sizes stay, new ones come behind -/
def m_le (h h1 : MH) : Prop := h.length ≤ h1.length ∧ m_sz h ≤ m_sz h1 ∧ (h.map m_csz) <+: (h1.map m_csz)
theorem m_le_rf (h : MH) : m_le h h := ⟨Nat.le_refl _, Nat.le_refl _, List.prefix_refl _⟩
theorem m_le_tr {h h1 h2 : MH} (a : m_le h h1) (b : m_le h1 h2) : m_le h h2 := ⟨Nat.le_trans a.1 b.1, Nat.le_trans a.2.1 b.2.1, List.IsPrefix.trans a.2.2 b.2.2⟩
theorem m_le_push (h : MH) (e : va_E) : m_le h (h ++ [e]) := ⟨by simp, by rw [m_sz_push]; omega, by rw [List.map_append]; exact List.prefix_append _ _⟩
theorem m_le_same {h h1 : MH} (a : m_le h h1) (hl : h1.length = h.length) : m_sz h1 = m_sz h := by
  have h2 := List.IsPrefix.eq_of_length a.2.2 (by simp [hl])
  unfold m_sz
  rw [h2]
theorem m_le_pf {h h' : MH} {a c k : Nat} {v : Value} (hq : m_pf h a c k v = some h') : m_le h h' := by
  obtain ⟨fs, h1, h2, rfl⟩ := m_pf_inv hq
  exact ⟨by simp, by have := m_sz_set (e' := .inr (c, fs.set k v)) h1 rfl; omega, by rw [m_map_set (e' := .inr (c, fs.set k v)) h1 rfl]; exact List.prefix_refl _⟩
theorem m_le_pi {h h' : MH} {a t : Nat} {i x : Int32} (hq : m_pi h a t i x = some h') : m_le h h' := by
  obtain ⟨n, f, h1, h2, rfl⟩ := m_pi_inv hq
  exact ⟨by simp, by have := m_sz_set (e' := .inl (t, n, .inl (upd f i.toNatClampNeg x))) h1 rfl; omega, by rw [m_map_set (e' := .inl (t, n, .inl (upd f i.toNatClampNeg x))) h1 rfl]; exact List.prefix_refl _⟩
theorem m_le_pr {h h' : MH} {a : Nat} {i : Int32} {x : Nat} (hq : m_pr h a i x = some h') : m_le h h' := by
  obtain ⟨n, f, h1, h2, h3, rfl⟩ := m_pr_inv hq
  exact ⟨by simp, by have := m_sz_set (e' := .inl (2, n, .inr (.inr (.inr (.inr (va_up f i.toNatClampNeg (some x))))))) h1 rfl; omega, by rw [m_map_set (e' := .inl (2, n, .inr (.inr (.inr (.inr (va_up f i.toNatClampNeg (some x))))))) h1 rfl]; exact List.prefix_refl _⟩
def m_Sh (h0 : MH) (F : MF → MR) : Prop := (∃ r, (∀ v h1, r = some (v, h1) → m_le h0 h1) ∧ ∀ e, F e = r) ∨ (∃ y k ls st h, m_le h0 h ∧ ∀ e, F e = e y k ls st h) ∨ ∃ z y k as ls r h, m_le h0 h ∧ ∀ e, F e = m_call e z y k as ls r h
theorem m_Sh_n (h0 : MH) : m_Sh h0 (fun _ => none) := Or.inl ⟨none, fun _ _ h => (by cases h), fun _ => rfl⟩
theorem m_Sh_r (v : Option Value) (h : MH) : m_Sh h (fun _ => some (v, h)) := Or.inl ⟨some (v, h), fun _ _ q => (by cases q; exact m_le_rf _), fun _ => rfl⟩
theorem m_Sh_e (y k : Nat) (ls : ML) (st : List Value) (h : MH) : m_Sh h (fun e => e y k ls st h) := Or.inr (Or.inl ⟨y, k, ls, st, h, m_le_rf _, fun _ => rfl⟩)
theorem m_Sh_p (y k : Nat) (ls : ML) (st : List Value) (h : MH) (x : va_E) : m_Sh h (fun e => e y k ls st (h ++ [x])) := Or.inr (Or.inl ⟨y, k, ls, st, _, m_le_push _ _, fun _ => rfl⟩)
theorem m_Sh_k (z y k : Nat) (as : List Value) (ls : ML) (r : List Value) (h : MH) : m_Sh h (fun e => m_call e z y k as ls r h) := Or.inr (Or.inr ⟨z, y, k, as, ls, r, h, m_le_rf _, fun _ => rfl⟩)
theorem m_Sh_b {α : Type} {h0 : MH} (o : Option α) (F : MF → α → MR) (hF : ∀ x, m_Sh h0 (fun e => F e x)) : m_Sh h0 (fun e => o.bind (F e)) := by
  cases o with
  | none => exact m_Sh_n h0
  | some x => exact hF x
theorem m_Sh_h {h0 : MH} (o : Option MH) (ho : ∀ h', o = some h' → m_le h0 h') (y k : Nat) (ls : ML) (st : List Value) : m_Sh h0 (fun e => o.bind fun h' => e y k ls st h') := by
  cases o with
  | none => exact m_Sh_n h0
  | some x => exact Or.inr (Or.inl ⟨y, k, ls, st, x, ho x rfl, fun _ => rfl⟩)
theorem m_Sh_i {h0 : MH} {c : Prop} [Decidable c] (F G : MF → MR) (hF : m_Sh h0 F) (hG : m_Sh h0 G) : m_Sh h0 (fun e => if c then F e else G e) := by
  by_cases hc : c
  · simp only [hc, if_true]; exact hF
  · simp only [hc, if_false]; exact hG
theorem m_Sh_w {h0 : MH} (b : Bool) (F G : MF → MR) (hF : m_Sh h0 F) (hG : m_Sh h0 G) : m_Sh h0 (fun e => bif b then F e else G e) := by
  cases b
  · exact hG
  · exact hF
theorem m_Sh_br {h0 : MH} (cd : ClassFile.Cond) (x y : Int32) (F G : MF → MR) (hF : m_Sh h0 F) (hG : m_Sh h0 G) : m_Sh h0 (fun e => m_br cd x y (F e) (G e)) := by
  cases cd <;> exact m_Sh_i _ _ (by assumption) (by assumption)
theorem m_Sh_sw {h0 : MH} (x : Int32) (d : Nat) (F : MF → Nat → MR) (hF : ∀ t, m_Sh h0 (fun e => F e t)) : ∀ (n : Nat) (l : List Nat), l.length ≤ n → m_Sh h0 (fun e => m_sw x d (F e) l) := by
  intro n
  induction n with
  | zero =>
    intro l hl
    cases l with
    | nil => exact hF d
    | cons a l => simp at hl
  | succ n ih =>
    intro l hl
    match l, hl with
    | [], _ => exact hF d
    | [_], _ => exact hF d
    | v :: t :: r, hl => exact m_Sh_i _ _ (hF t) (ih r (by simp at hl; omega))
set_option maxRecDepth 100000 in
theorem m_shape (y k : Nat) (ls : ML) (st : List Value) (h : MH) : m_Sh h (fun e => m_step e y k ls st h) := by
  unfold m_step
  cases m_code y k with
  | none => exact m_Sh_n h
  | some en =>
    obtain ⟨pc, i, len, a, c⟩ := en
    dsimp only
    split <;> (try dsimp only)
    all_goals (try split) <;> (try dsimp only)
    all_goals first
      | exact m_Sh_n _
      | exact m_Sh_r _ _
      | exact m_Sh_e _ _ _ _ _
      | exact m_Sh_p _ _ _ _ _ _
      | exact m_Sh_b _ _ fun _ => m_Sh_e _ _ _ _ _
      | exact m_Sh_h _ (fun _ q => m_le_pi q) _ _ _ _
      | exact m_Sh_h _ (fun _ q => m_le_pr q) _ _ _ _
      | exact m_Sh_w _ _ _ (m_Sh_b _ _ fun _ => m_Sh_e _ _ _ _ _) (m_Sh_b _ _ fun _ => m_Sh_e _ _ _ _ _)
      | exact m_Sh_w _ _ _ (m_Sh_h _ (fun _ q => m_le_pf q) _ _ _ _) (m_Sh_w _ _ _ (m_Sh_i _ _ (m_Sh_h _ (fun _ q => m_le_pf q) _ _ _ _) (m_Sh_n _)) (m_Sh_n _))
      | exact m_Sh_w _ _ _ (m_Sh_h _ (fun _ q => m_le_pf q) _ _ _ _) (m_Sh_n _)
      | exact m_Sh_i _ _ (m_Sh_n _) (m_Sh_e _ _ _ _ _)
      | exact m_Sh_i _ _ (m_Sh_n _) (m_Sh_p _ _ _ _ _ _)
      | exact m_Sh_br _ _ _ _ _ (m_Sh_e _ _ _ _ _) (m_Sh_e _ _ _ _ _)
      | exact m_Sh_sw _ _ _ (fun _ => m_Sh_e _ _ _ _ _) _ _ (Nat.le_refl _)
      | exact m_Sh_w _ _ _ (m_Sh_r _ _) (m_Sh_w _ _ _ (m_Sh_i _ _ (m_Sh_r _ _) (m_Sh_n _)) (m_Sh_i _ _ (m_Sh_r _ _) (m_Sh_n _)))
      | (split <;> (try dsimp only) <;> first
        | exact m_Sh_n _
        | exact m_Sh_e _ _ _ _ _
        | exact m_Sh_w _ _ _ (m_Sh_e _ _ _ _ _) (m_Sh_n _)
        | exact m_Sh_w _ _ _ (m_Sh_k _ _ _ _ _ _ _) (m_Sh_n _)
        | exact m_Sh_w _ _ _ (m_Sh_w _ _ _ (m_Sh_i _ _ (m_Sh_k _ _ _ _ _ _ _) (m_Sh_n _)) (m_Sh_n _)) (m_Sh_n _)
        | exact m_Sh_w _ _ _ (m_Sh_w _ _ _ (m_Sh_b _ _ fun _ => m_Sh_e _ _ _ _ _) (m_Sh_n _)) (m_Sh_n _))
theorem m_mono (e e' : MF) (he : ∀ y k ls st h r, e y k ls st h = some r → e' y k ls st h = some r) (y k : Nat) (ls : ML) (st : List Value) (h : MH) (r : Option Value × MH) (hr : m_step e y k ls st h = some r) : m_step e' y k ls st h = some r := by
  rcases m_shape y k ls st h with ⟨r0, -, hF⟩ | ⟨y1, k1, l1, s1, h1, -, hF⟩ | ⟨z, y1, k1, as, l1, s1, h1, -, hF⟩
  · have h1 := hF e
    have h2 := hF e'
    dsimp only at h1 h2
    rw [h2, ← h1]; exact hr
  · have h1 := hF e
    have h2 := hF e'
    dsimp only at h1 h2
    rw [h2]; rw [h1] at hr
    exact he _ _ _ _ _ _ hr
  · have h1 := hF e
    have h2 := hF e'
    dsimp only at h1 h2
    rw [h2]; rw [h1] at hr
    unfold m_call at hr ⊢
    obtain ⟨q, hq, hr⟩ := Option.bind_eq_some_iff.mp hr
    rw [he _ _ _ _ _ _ hq]
    exact he _ _ _ _ _ _ hr
theorem m_run_s : ∀ (n y k : Nat) (ls : ML) (st : List Value) (h : MH) (r : Option Value × MH), m_run n y k ls st h = some r → m_run (n + 1) y k ls st h = some r := by
  intro n
  induction n with
  | zero => intro y k ls st h r hr; cases hr
  | succ n ih => intro y k ls st h r hr; exact m_mono _ _ ih y k ls st h r hr
theorem m_run_le {n m : Nat} (hnm : n ≤ m) {y k : Nat} {ls : ML} {st : List Value} {h : MH} {r : Option Value × MH} (hr : m_run n y k ls st h = some r) : m_run m y k ls st h = some r := by
  induction m with
  | zero => rw [show n = 0 by omega] at hr; exact hr
  | succ m ih =>
    by_cases hq : n ≤ m
    · exact m_run_s m _ _ _ _ _ _ (ih hq)
    · rw [show m + 1 = n by omega]; exact hr

noncomputable def m_ev : MF := fun y k ls st h => @dite _ (∃ r n, m_run n y k ls st h = some r) (Classical.propDecidable _) (fun q => some q.choose) (fun _ => none)
theorem m_ev_of {n y k : Nat} {ls : ML} {st : List Value} {h : MH} {r : Option Value × MH} (hr : m_run n y k ls st h = some r) : m_ev y k ls st h = some r := by
  have q : ∃ r n, m_run n y k ls st h = some r := ⟨r, n, hr⟩
  unfold m_ev
  rw [dif_pos q]
  obtain ⟨m, hm⟩ := q.choose_spec
  have h1 := m_run_le (Nat.le_max_left n m) hr
  have h2 := m_run_le (Nat.le_max_right n m) hm
  rw [← h2, h1]
theorem m_ev_run {y k : Nat} {ls : ML} {st : List Value} {h : MH} {r : Option Value × MH} (hr : m_ev y k ls st h = some r) : ∃ n, m_run n y k ls st h = some r := by
  unfold m_ev at hr
  by_cases q : ∃ r n, m_run n y k ls st h = some r
  · rw [dif_pos q] at hr
    obtain ⟨n, hn⟩ := q.choose_spec
    exact ⟨n, by rw [hn]; exact hr⟩
  · rw [dif_neg q] at hr
    cases hr
theorem m_ev_eq (y k : Nat) (ls : ML) (st : List Value) (h : MH) : m_ev y k ls st h = m_step m_ev y k ls st h := by
  have fwd : ∀ r, m_ev y k ls st h = some r → m_step m_ev y k ls st h = some r := by
    intro r hr
    obtain ⟨n, hn⟩ := m_ev_run hr
    cases n with
    | zero => cases hn
    | succ n => exact m_mono (m_run n) m_ev (fun _ _ _ _ _ _ q => m_ev_of q) _ _ _ _ _ _ hn
  have bwd : ∀ r, m_step m_ev y k ls st h = some r → m_ev y k ls st h = some r := by
    intro r hr
    rcases m_shape y k ls st h with ⟨r0, -, hF⟩ | ⟨y1, k1, l1, s1, h1, -, hF⟩ | ⟨z, y1, k1, as, l1, s1, h1, -, hF⟩
    · refine m_ev_of (n := 1) ?_
      show m_step (m_run 0) y k ls st h = some r
      have h1 := hF m_ev
      have h2 := hF (m_run 0)
      dsimp only at h1 h2
      rw [h2, ← h1]; exact hr
    · have h2 := hF m_ev
      dsimp only at h2
      rw [h2] at hr
      obtain ⟨n, hn⟩ := m_ev_run hr
      refine m_ev_of (n := n + 1) ?_
      have h3 := hF (m_run n)
      dsimp only at h3
      show m_step (m_run n) y k ls st h = some r
      rw [h3]; exact hn
    · have h2 := hF m_ev
      dsimp only at h2
      rw [h2] at hr
      unfold m_call at hr
      obtain ⟨q, hq, hr⟩ := Option.bind_eq_some_iff.mp hr
      obtain ⟨n1, hn1⟩ := m_ev_run hq
      obtain ⟨n2, hn2⟩ := m_ev_run hr
      refine m_ev_of (n := max n1 n2 + 1) ?_
      have h3 := hF (m_run (max n1 n2))
      dsimp only at h3
      show m_step (m_run (max n1 n2)) y k ls st h = some r
      rw [h3]
      unfold m_call
      rw [m_run_le (Nat.le_max_left n1 n2) hn1]
      exact m_run_le (Nat.le_max_right n1 n2) hn2
  cases h1 : m_ev y k ls st h with
  | some r => exact (fwd r h1).symm
  | none =>
    cases h2 : m_step m_ev y k ls st h with
    | none => rfl
    | some r => rw [bwd r h2] at h1; cases h1
def m_stK (e : MF) : Nat → MF
  | 0 => e
  | n + 1 => m_step (m_stK e n)
theorem m_evK : ∀ n, m_ev = m_stK m_ev n := by
  intro n
  induction n with
  | zero => rfl
  | succ n ih =>
    funext y k ls st h
    rw [m_ev_eq]
    show m_step m_ev y k ls st h = m_step (m_stK m_ev n) y k ls st h
    rw [← ih]
theorem m_evB (n : Nat) {y k : Nat} {ls : ML} {st : List Value} {h : MH} {r : MR} (hr : m_stK m_ev n y k ls st h = r) : m_ev y k ls st h = r := by
  rw [m_evK n]; exact hr
/-- the cells grow -/
theorem m_grow : ∀ (n y k : Nat) (ls : ML) (st : List Value) (h : MH) (v : Option Value) (h' : MH), m_run n y k ls st h = some (v, h') → m_le h h' := by
  intro n
  induction n with
  | zero => intro y k ls st h v h' hr; cases hr
  | succ n ih =>
    intro y k ls st h v h' hr
    have hr : m_step (m_run n) y k ls st h = some (v, h') := hr
    rcases m_shape y k ls st h with ⟨r0, hl, hF⟩ | ⟨y1, k1, l1, s1, h1, hl, hF⟩ | ⟨z, y1, k1, as, l1, s1, h1, hl, hF⟩
    · have h2 := hF (m_run n)
      dsimp only at h2
      rw [h2] at hr
      exact hl v h' hr
    · have h2 := hF (m_run n)
      dsimp only at h2
      rw [h2] at hr
      exact m_le_tr hl (ih _ _ _ _ _ _ _ hr)
    · have h2 := hF (m_run n)
      dsimp only at h2
      rw [h2] at hr
      unfold m_call at hr
      obtain ⟨q, hq, hr⟩ := Option.bind_eq_some_iff.mp hr
      exact m_le_tr hl (m_le_tr (ih _ _ _ _ _ _ _ hq) (ih _ _ _ _ _ _ _ hr))
