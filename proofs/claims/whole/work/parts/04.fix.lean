/-! the small machine's run as one function m_ev, without fuel: m_ev = m_step m_ev -/
def m_Sh (F : MF → MR) : Prop := (∃ r, ∀ e, F e = r) ∨ (∃ y k ls st h, ∀ e, F e = e y k ls st h) ∨ ∃ z y k as ls r h, ∀ e, F e = m_call e z y k as ls r h
theorem m_Sh_c (r : MR) : m_Sh (fun _ => r) := Or.inl ⟨r, fun _ => rfl⟩
theorem m_Sh_e (y k : Nat) (ls : ML) (st : List Value) (h : MH) : m_Sh (fun e => e y k ls st h) := Or.inr (Or.inl ⟨y, k, ls, st, h, fun _ => rfl⟩)
theorem m_Sh_k (z y k : Nat) (as : List Value) (ls : ML) (r : List Value) (h : MH) : m_Sh (fun e => m_call e z y k as ls r h) := Or.inr (Or.inr ⟨z, y, k, as, ls, r, h, fun _ => rfl⟩)
theorem m_Sh_b {α : Type} (o : Option α) (F : MF → α → MR) (hF : ∀ x, m_Sh (fun e => F e x)) : m_Sh (fun e => o.bind (F e)) := by
  cases o with
  | none => exact m_Sh_c none
  | some x => exact hF x
theorem m_Sh_i {c : Prop} [Decidable c] (F G : MF → MR) (hF : m_Sh F) (hG : m_Sh G) : m_Sh (fun e => if c then F e else G e) := by
  by_cases hc : c
  · simp only [hc, if_true]; exact hF
  · simp only [hc, if_false]; exact hG
theorem m_Sh_w (b : Bool) (F G : MF → MR) (hF : m_Sh F) (hG : m_Sh G) : m_Sh (fun e => bif b then F e else G e) := by
  cases b
  · exact hG
  · exact hF
theorem m_Sh_br (cd : ClassFile.Cond) (x y : Int32) (F G : MF → MR) (hF : m_Sh F) (hG : m_Sh G) : m_Sh (fun e => m_br cd x y (F e) (G e)) := by
  cases cd <;> exact m_Sh_i _ _ (by assumption) (by assumption)
theorem m_Sh_sw (x : Int32) (d : Nat) (F : MF → Nat → MR) (hF : ∀ t, m_Sh (fun e => F e t)) : ∀ (n : Nat) (l : List Nat), l.length ≤ n → m_Sh (fun e => m_sw x d (F e) l) := by
  intro n
  induction n with
  | zero =>
    intro l hl
    cases l with
    | nil => exact hF d
    | cons a l => simp at hl
  | succ n ih =>
    intro l hl
    match l, hl with
    | [], _ => exact hF d
    | [_], _ => exact hF d
    | v :: t :: r, hl => exact m_Sh_i _ _ (hF t) (ih r (by simp at hl; omega))
set_option maxHeartbeats 4000000 in
set_option maxRecDepth 100000 in
theorem m_shape (y k : Nat) (ls : ML) (st : List Value) (h : MH) : m_Sh (fun e => m_step e y k ls st h) := by
  unfold m_step
  cases m_code y k with
  | none => exact m_Sh_c none
  | some en =>
    obtain ⟨pc, i, len, a, c⟩ := en
    dsimp only
    split <;> (try dsimp only)
    all_goals (try split) <;> (try dsimp only)
    all_goals first
      | exact m_Sh_c _
      | exact m_Sh_e _ _ _ _ _
      | exact m_Sh_b _ _ fun _ => m_Sh_e _ _ _ _ _
      | exact m_Sh_w _ _ _ (m_Sh_b _ _ fun _ => m_Sh_e _ _ _ _ _) (m_Sh_b _ _ fun _ => m_Sh_e _ _ _ _ _)
      | exact m_Sh_w _ _ _ (m_Sh_b _ _ fun _ => m_Sh_e _ _ _ _ _) (m_Sh_w _ _ _ (m_Sh_i _ _ (m_Sh_b _ _ fun _ => m_Sh_e _ _ _ _ _) (m_Sh_c _)) (m_Sh_c _))
      | exact m_Sh_w _ _ _ (m_Sh_b _ _ fun _ => m_Sh_e _ _ _ _ _) (m_Sh_c _)
      | exact m_Sh_i _ _ (m_Sh_c _) (m_Sh_e _ _ _ _ _)
      | exact m_Sh_br _ _ _ _ _ (m_Sh_e _ _ _ _ _) (m_Sh_e _ _ _ _ _)
      | exact m_Sh_sw _ _ _ (fun _ => m_Sh_e _ _ _ _ _) _ _ (Nat.le_refl _)
      | (split <;> (try dsimp only) <;> first
        | exact m_Sh_c _
        | exact m_Sh_e _ _ _ _ _
        | exact m_Sh_k _ _ _ _ _ _ _
        | exact m_Sh_w _ _ _ (m_Sh_i _ _ (m_Sh_k _ _ _ _ _ _ _) (m_Sh_c _)) (m_Sh_c _)
        | exact m_Sh_w _ _ _ (m_Sh_b _ _ fun _ => m_Sh_e _ _ _ _ _) (m_Sh_c _))
theorem m_mono (e e' : MF) (he : ∀ y k ls st h r, e y k ls st h = some r → e' y k ls st h = some r) (y k : Nat) (ls : ML) (st : List Value) (h : MH) (r : Option Value × MH) (hr : m_step e y k ls st h = some r) : m_step e' y k ls st h = some r := by
  rcases m_shape y k ls st h with ⟨r0, hF⟩ | ⟨y1, k1, l1, s1, h1, hF⟩ | ⟨z, y1, k1, as, l1, s1, h1, hF⟩
  · have h1 := hF e
    have h2 := hF e'
    dsimp only at h1 h2
    rw [h2, ← h1]; exact hr
  · have h1 := hF e
    have h2 := hF e'
    dsimp only at h1 h2
    rw [h2]; rw [h1] at hr
    exact he _ _ _ _ _ _ hr
  · have h1 := hF e
    have h2 := hF e'
    dsimp only at h1 h2
    rw [h2]; rw [h1] at hr
    unfold m_call at hr ⊢
    obtain ⟨q, hq, hr⟩ := Option.bind_eq_some_iff.mp hr
    rw [he _ _ _ _ _ _ hq]
    exact he _ _ _ _ _ _ hr
theorem m_run_s : ∀ (n y k : Nat) (ls : ML) (st : List Value) (h : MH) (r : Option Value × MH), m_run n y k ls st h = some r → m_run (n + 1) y k ls st h = some r := by
  intro n
  induction n with
  | zero => intro y k ls st h r hr; cases hr
  | succ n ih => intro y k ls st h r hr; exact m_mono _ _ ih y k ls st h r hr
theorem m_run_le {n m : Nat} (hnm : n ≤ m) {y k : Nat} {ls : ML} {st : List Value} {h : MH} {r : Option Value × MH} (hr : m_run n y k ls st h = some r) : m_run m y k ls st h = some r := by
  induction m with
  | zero => rw [show n = 0 by omega] at hr; exact hr
  | succ m ih =>
    by_cases hq : n ≤ m
    · exact m_run_s m _ _ _ _ _ _ (ih hq)
    · rw [show m + 1 = n by omega]; exact hr

noncomputable def m_ev : MF := fun y k ls st h => @dite _ (∃ r n, m_run n y k ls st h = some r) (Classical.propDecidable _) (fun q => some q.choose) (fun _ => none)
theorem m_ev_of {n y k : Nat} {ls : ML} {st : List Value} {h : MH} {r : Option Value × MH} (hr : m_run n y k ls st h = some r) : m_ev y k ls st h = some r := by
  have q : ∃ r n, m_run n y k ls st h = some r := ⟨r, n, hr⟩
  unfold m_ev
  rw [dif_pos q]
  obtain ⟨m, hm⟩ := q.choose_spec
  have h1 := m_run_le (Nat.le_max_left n m) hr
  have h2 := m_run_le (Nat.le_max_right n m) hm
  rw [← h2, h1]
theorem m_ev_run {y k : Nat} {ls : ML} {st : List Value} {h : MH} {r : Option Value × MH} (hr : m_ev y k ls st h = some r) : ∃ n, m_run n y k ls st h = some r := by
  unfold m_ev at hr
  by_cases q : ∃ r n, m_run n y k ls st h = some r
  · rw [dif_pos q] at hr
    obtain ⟨n, hn⟩ := q.choose_spec
    exact ⟨n, by rw [hn]; exact hr⟩
  · rw [dif_neg q] at hr
    cases hr
theorem m_ev_eq (y k : Nat) (ls : ML) (st : List Value) (h : MH) : m_ev y k ls st h = m_step m_ev y k ls st h := by
  have fwd : ∀ r, m_ev y k ls st h = some r → m_step m_ev y k ls st h = some r := by
    intro r hr
    obtain ⟨n, hn⟩ := m_ev_run hr
    cases n with
    | zero => cases hn
    | succ n => exact m_mono (m_run n) m_ev (fun _ _ _ _ _ _ q => m_ev_of q) _ _ _ _ _ _ hn
  have bwd : ∀ r, m_step m_ev y k ls st h = some r → m_ev y k ls st h = some r := by
    intro r hr
    rcases m_shape y k ls st h with ⟨r0, hF⟩ | ⟨y1, k1, l1, s1, h1, hF⟩ | ⟨z, y1, k1, as, l1, s1, h1, hF⟩
    · refine m_ev_of (n := 1) ?_
      show m_step (m_run 0) y k ls st h = some r
      have h1 := hF m_ev
      have h2 := hF (m_run 0)
      dsimp only at h1 h2
      rw [h2, ← h1]; exact hr
    · have h2 := hF m_ev
      dsimp only at h2
      rw [h2] at hr
      obtain ⟨n, hn⟩ := m_ev_run hr
      refine m_ev_of (n := n + 1) ?_
      have h3 := hF (m_run n)
      dsimp only at h3
      show m_step (m_run n) y k ls st h = some r
      rw [h3]; exact hn
    · have h2 := hF m_ev
      dsimp only at h2
      rw [h2] at hr
      unfold m_call at hr
      obtain ⟨q, hq, hr⟩ := Option.bind_eq_some_iff.mp hr
      obtain ⟨n1, hn1⟩ := m_ev_run hq
      obtain ⟨n2, hn2⟩ := m_ev_run hr
      refine m_ev_of (n := max n1 n2 + 1) ?_
      have h3 := hF (m_run (max n1 n2))
      dsimp only at h3
      show m_step (m_run (max n1 n2)) y k ls st h = some r
      rw [h3]
      unfold m_call
      rw [m_run_le (Nat.le_max_left n1 n2) hn1]
      exact m_run_le (Nat.le_max_right n1 n2) hn2
  cases h1 : m_ev y k ls st h with
  | some r => exact (fwd r h1).symm
  | none =>
    cases h2 : m_step m_ev y k ls st h with
    | none => rfl
    | some r => rw [bwd r h2] at h1; cases h1
def m_stK (e : MF) : Nat → MF
  | 0 => e
  | n + 1 => m_step (m_stK e n)
theorem m_evK : ∀ n, m_ev = m_stK m_ev n := by
  intro n
  induction n with
  | zero => rfl
  | succ n ih =>
    funext y k ls st h
    rw [m_ev_eq]
    show m_step m_ev y k ls st h = m_step (m_stK m_ev n) y k ls st h
    rw [← ih]
theorem m_evB (n : Nat) {y k : Nat} {ls : ML} {st : List Value} {h : MH} {r : MR} (hr : m_stK m_ev n y k ls st h = r) : m_ev y k ls st h = r := by
  rw [m_evK n]; exact hr
/-- a try: Hill.hasPlace's first block -/
theorem t_try (a : Nat) (x : Int32) (h : MH) : m_ev 5 0 [some (.ref a), some (.int x)] [] h = if x < nI 0 then m_ev 5 8 [some (.ref a), some (.int x)] [] h else m_ev 5 2 [some (.ref a), some (.int x)] [] h := m_evB 2 rfl
