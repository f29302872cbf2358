/-! locals, and the instructions that touch no cell: the small machine's step is the real one's -/
/-- what a frame of method y knows -/
def m_Fr (p : Program) (G : m_GT) (y : Nat) (R : Room) (s : State) (m : MethodId) (args : Array Value) (meth : Method) (c : Code) : Prop :=
  p.tables.exec = Jvm.exec ∧ c.code = m_bytes y ∧ c.maxLocals = m_maxL y ∧ meth.sig.returnType = m_retT y ∧ meth.locks = false ∧ meth.name = (m_name y).name ∧ s.vm.findClass (m_own y) = some m.cls ∧ (∀ w ∈ m_tbl, w.before args s = true) ∧ m_KS G s ∧ G.1 ≤ s.heap.size ∧ m_frm y ≤ R.frames ∧ m_loc y ≤ R.locals
def m_L (G : m_GT) (lsA : Array Slot) (nL : Nat) (ls : ML) : Prop := lsA.size = nL ∧ lv_wf lsA ∧ ls.length = nL ∧ ∀ (i : Nat) (v : Value), ls[i]? = some (some v) → lsA[i]? = some (.val (m_tv G v))
def m_as (G : m_GT) : Nat → ML → List (Nat × Value)
  | _, [] => []
  | i, none :: r => m_as G (i + 1) r
  | i, some v :: r => (i, m_tv G v) :: m_as G (i + 1) r
theorem m_as_mem {G : m_GT} : ∀ (ls : ML) (i : Nat) (q : Nat × Value), q ∈ m_as G i ls ↔ ∃ j v, ls[j]? = some (some v) ∧ q = (i + j, m_tv G v) := by
  intro ls
  induction ls with
  | nil => intro i q; simp [m_as]
  | cons a r ih =>
    intro i q
    cases a with
    | none =>
      rw [m_as, ih]
      constructor
      · rintro ⟨j, v, h1, rfl⟩
        exact ⟨j + 1, v, by simpa using h1, by rw [show i + 1 + j = i + (j + 1) by omega]⟩
      · rintro ⟨j, v, h1, rfl⟩
        cases j with
        | zero => simp at h1
        | succ j => exact ⟨j, v, by simpa using h1, by rw [show i + 1 + j = i + (j + 1) by omega]⟩
    | some w =>
      rw [m_as, List.mem_cons, ih]
      constructor
      · rintro (rfl | ⟨j, v, h1, rfl⟩)
        · exact ⟨0, w, by simp, rfl⟩
        · exact ⟨j + 1, v, by simpa using h1, by rw [show i + 1 + j = i + (j + 1) by omega]⟩
      · rintro ⟨j, v, h1, rfl⟩
        cases j with
        | zero => simp at h1; subst h1; exact Or.inl rfl
        | succ j => exact Or.inr ⟨j, v, by simpa using h1, by rw [show i + 1 + j = i + (j + 1) by omega]⟩
theorem m_L_has {G : m_GT} {lsA : Array Slot} {nL : Nat} {ls : ML} (h : m_L G lsA nL ls) : lv_has lsA nL (m_as G 0 ls) := by
  refine ⟨h.1, h.2.1, fun q hq => ?_⟩
  obtain ⟨j, v, h1, rfl⟩ := (m_as_mem ls 0 q).mp hq
  rw [Nat.zero_add]
  exact h.2.2.2 j v h1
theorem m_tv_cat (G : m_GT) (v : Value) (h : m_cat v = true ∨ v.category = 2 ∨ ∃ x, v = .int x) : (m_tv G v).category = v.category ∨ ∃ j, v = .retAddr j := by
  cases v <;> first | exact Or.inl rfl | exact Or.inr ⟨_, rfl⟩
theorem m_tv_cat1 (G : m_GT) {v : Value} (h : m_cat v = true) : (m_tv G v).category = 1 := by
  cases v <;> first | rfl | cases h
theorem m_tv_ne2 (G : m_GT) {v : Value} (h : v.category ≠ 2) : (m_tv G v).category ≠ 2 := by
  cases v <;> first | exact h | exact (by decide) | (intro q; cases q)
theorem m_kill_len : ∀ (ls : ML) (i : Nat), (m_kill ls i).length = ls.length := by
  intro ls i
  cases i with
  | zero => rfl
  | succ j =>
    simp only [m_kill]
    split
    · rename_i v hv
      cases Nat.beq v.category 2 <;> simp
    · rfl
theorem m_kill_at {ls : ML} {i j : Nat} {w : Value} (h : (m_kill ls i)[j]? = some (some w)) : ls[j]? = some (some w) ∧ (j + 1 = i → w.category ≠ 2) := by
  cases i with
  | zero => exact ⟨h, fun q => absurd q (by omega)⟩
  | succ i =>
    simp only [m_kill] at h
    split at h
    · rename_i v hv
      cases hb : Nat.beq v.category 2 with
      | true =>
        rw [hb] at h
        simp only [cond_true] at h
        by_cases hj : j = i
        · subst hj
          rw [List.getElem?_set_self (List.getElem?_eq_some_iff.mp hv).1] at h
          simp at h
        · rw [List.getElem?_set_ne (Ne.symm hj)] at h
          exact ⟨h, fun q => absurd q (by omega)⟩
      | false =>
        rw [hb] at h
        simp only [cond_false] at h
        refine ⟨h, fun q => ?_⟩
        have e : j = i := by omega
        subst e
        rw [hv] at h
        cases h
        intro hc
        rw [hc] at hb
        cases hb
    · rename_i hv
      refine ⟨h, fun q => ?_⟩
      have e : j = i := by omega
      subst e
      exact absurd h (hv w)
theorem m_sto_inv {ls ls' : ML} {i : Nat} {v : Value} (h : m_sto ls i v = some ls') : i < ls.length ∧ ls' = (m_kill ls i).set i (some v) := by
  unfold m_sto at h
  split at h
  · rename_i hi; cases h; exact ⟨hi, rfl⟩
  · cases h
theorem m_sto2_inv {ls ls' : ML} {i : Nat} {v : Value} (h : m_sto2 ls i v = some ls') : i + 1 < ls.length ∧ ls' = ((m_kill ls i).set i (some v)).set (i + 1) none := by
  unfold m_sto2 at h
  split at h
  · rename_i hi; cases h; exact ⟨hi, rfl⟩
  · cases h
theorem m_L_sto {G : m_GT} {lsA' : Array Slot} {nL i : Nat} {ls ls' : ML} {v : Value} (hn : ls.length = nL) (h : m_sto ls i v = some ls') (hh : lv_has lsA' nL ((i, m_tv G v) :: (m_as G 0 ls).filter (fun q => !(q.1 == i) && !(q.1 + 1 == i && q.2.category == 2)))) : m_L G lsA' nL ls' := by
  obtain ⟨hi, rfl⟩ := m_sto_inv h
  refine ⟨hh.1, hh.2.1, by simp [m_kill_len, hn], fun j w hj => ?_⟩
  by_cases hji : j = i
  · subst hji
    rw [List.getElem?_set_self (by rw [m_kill_len]; exact hi)] at hj
    cases hj
    exact hh.2.2 (j, m_tv G v) List.mem_cons_self
  · rw [List.getElem?_set_ne (Ne.symm hji)] at hj
    obtain ⟨h1, h2⟩ := m_kill_at hj
    refine hh.2.2 (j, m_tv G w) (List.mem_cons_of_mem _ (List.mem_filter.mpr ⟨(m_as_mem ls 0 _).mpr ⟨j, w, h1, by rw [Nat.zero_add]⟩, ?_⟩))
    by_cases hq : j + 1 = i
    · have h3 := m_tv_ne2 G (h2 hq)
      simp [hji, hq, h3]
    · simp [hji, hq]
theorem m_L_sto2 {G : m_GT} {lsA' : Array Slot} {nL i : Nat} {ls ls' : ML} {v : Value} (hn : ls.length = nL) (h : m_sto2 ls i v = some ls') (hh : lv_has lsA' nL ((i, m_tv G v) :: (m_as G 0 ls).filter (fun q => !(q.1 == i) && (!(q.1 == i + 1) && !(q.1 + 1 == i && q.2.category == 2))))) : m_L G lsA' nL ls' := by
  obtain ⟨hi, rfl⟩ := m_sto2_inv h
  refine ⟨hh.1, hh.2.1, by simp [m_kill_len, hn], fun j w hj => ?_⟩
  by_cases hj1 : j = i + 1
  · subst hj1
    rw [List.getElem?_set_self (by simp [m_kill_len]; exact hi)] at hj
    simp at hj
  · rw [List.getElem?_set_ne (Ne.symm hj1)] at hj
    by_cases hji : j = i
    · subst hji
      rw [List.getElem?_set_self (by rw [m_kill_len]; omega)] at hj
      cases hj
      exact hh.2.2 (j, m_tv G v) List.mem_cons_self
    · rw [List.getElem?_set_ne (Ne.symm hji)] at hj
      obtain ⟨h1, h2⟩ := m_kill_at hj
      refine hh.2.2 (j, m_tv G w) (List.mem_cons_of_mem _ (List.mem_filter.mpr ⟨(m_as_mem ls 0 _).mpr ⟨j, w, h1, by rw [Nat.zero_add]⟩, ?_⟩))
      by_cases hq : j + 1 = i
      · have h3 := m_tv_ne2 G (h2 hq)
        simp [hji, hj1, hq, h3]
      · simp [hji, hj1, hq]
theorem m_ld_inv {ls : ML} {i : Nat} {v : Value} (h : m_ld ls i = some v) : ls[i]? = some (some v) := by
  unfold m_ld at h
  split at h
  · rename_i w hw; cases h; exact hw
  · cases h
theorem m_ldi_inv {ls : ML} {i : Nat} {st : List Value} {q : ML × List Value} (h : m_ldi ls i st = some q) : ∃ x, ls[i]? = some (some (.int x)) ∧ q = (ls, .int x :: st) := by
  unfold m_ldi at h
  split at h
  · rename_i x hx; cases h; exact ⟨x, m_ld_inv hx, rfl⟩
  · cases h
theorem m_lda_inv {ls : ML} {i : Nat} {st : List Value} {q : ML × List Value} (h : m_lda ls i st = some q) : ∃ x, ls[i]? = some (some (.ref x)) ∧ q = (ls, .ref x :: st) := by
  unfold m_lda at h
  split at h
  · rename_i x hx; cases h; exact ⟨x, m_ld_inv hx, rfl⟩
  · cases h
theorem m_ldl_inv {ls : ML} {i : Nat} {st : List Value} {q : ML × List Value} (h : m_ldl ls i st = some q) : ∃ x, ls[i]? = some (some (.long x)) ∧ q = (ls, .long x :: st) := by
  unfold m_ldl at h
  split at h
  · rename_i x hx; cases h; exact ⟨x, m_ld_inv hx, rfl⟩
  · cases h
theorem m_sti_inv {ls : ML} {i : Nat} {st : List Value} {q : ML × List Value} (h : m_sti ls i st = some q) : ∃ x r l', st = .int x :: r ∧ m_sto ls i (.int x) = some l' ∧ q = (l', r) := by
  unfold m_sti at h
  split at h
  · rename_i x r
    split at h
    · rename_i l' hl; cases h; exact ⟨x, r, l', rfl, hl, rfl⟩
    · cases h
  · cases h
theorem m_sta_inv {ls : ML} {i : Nat} {st : List Value} {q : ML × List Value} (h : m_sta ls i st = some q) : ∃ x r l', st = .ref x :: r ∧ m_sto ls i (.ref x) = some l' ∧ q = (l', r) := by
  unfold m_sta at h
  split at h
  · rename_i x r
    split at h
    · rename_i l' hl; cases h; exact ⟨x, r, l', rfl, hl, rfl⟩
    · cases h
  · cases h
theorem m_stl_inv {ls : ML} {i : Nat} {st : List Value} {q : ML × List Value} (h : m_stl ls i st = some q) : ∃ x r l', st = .long x :: r ∧ m_sto2 ls i (.long x) = some l' ∧ q = (l', r) := by
  unfold m_stl at h
  split at h
  · rename_i x r
    split at h
    · rename_i l' hl; cases h; exact ⟨x, r, l', rfl, hl, rfl⟩
    · cases h
  · cases h
theorem m_inc_inv {ls : ML} {i : Nat} {c : Int32} {st : List Value} {q : ML × List Value} (h : m_inc ls i c st = some q) : ∃ x l', ls[i]? = some (some (.int x)) ∧ m_sto ls i (.int (x + c)) = some l' ∧ q = (l', st) := by
  unfold m_inc at h
  split at h
  · rename_i x hx
    split at h
    · rename_i l' hl; cases h; exact ⟨x, l', m_ld_inv hx, hl, rfl⟩
    · cases h
  · cases h
theorem m_bin_inv {f : Int32 → Int32 → Int32} {ls : ML} {st : List Value} {q : ML × List Value} (h : m_bin f ls st = some q) : ∃ x y r, st = .int y :: .int x :: r ∧ q = (ls, .int (f x y) :: r) := by
  unfold m_bin at h
  split at h
  · rename_i y x r; cases h; exact ⟨x, y, r, rfl, rfl⟩
  · cases h
theorem m_binL_inv {f : Int64 → Int64 → Int64} {ls : ML} {st : List Value} {q : ML × List Value} (h : m_binL f ls st = some q) : ∃ x y r, st = .long y :: .long x :: r ∧ q = (ls, .long (f x y) :: r) := by
  unfold m_binL at h
  split at h
  · rename_i y x r; cases h; exact ⟨x, y, r, rfl, rfl⟩
  · cases h
theorem m_dup_inv {ls : ML} {st : List Value} {q : ML × List Value} (h : m_dup ls st = some q) : ∃ v r, st = v :: r ∧ m_cat v = true ∧ q = (ls, v :: v :: r) := by
  unfold m_dup at h
  split at h
  · rename_i v r
    split at h
    · rename_i hv; cases h; exact ⟨v, r, rfl, hv, rfl⟩
    · cases h
  · cases h
theorem m_dup2_inv {ls : ML} {st : List Value} {q : ML × List Value} (h : m_dup2 ls st = some q) : ∃ v w r, st = v :: w :: r ∧ m_cat v = true ∧ m_cat w = true ∧ q = (ls, v :: w :: v :: w :: r) := by
  unfold m_dup2 at h
  split at h
  · rename_i v w r
    split at h
    · rename_i hv
      split at h
      · rename_i hw; cases h; exact ⟨v, w, r, rfl, hv, hw, rfl⟩
      · cases h
    · cases h
  · cases h
theorem m_pop_inv {ls : ML} {st : List Value} {q : ML × List Value} (h : m_pop ls st = some q) : ∃ v r, st = v :: r ∧ m_cat v = true ∧ q = (ls, r) := by
  unfold m_pop at h
  split at h
  · rename_i v r
    split at h
    · rename_i hv; cases h; exact ⟨v, r, rfl, hv, rfl⟩
    · cases h
  · cases h
theorem m_i2l_inv {ls : ML} {st : List Value} {q : ML × List Value} (h : m_i2l ls st = some q) : ∃ x r, st = .int x :: r ∧ q = (ls, .long x.toInt64 :: r) := by
  unfold m_i2l at h
  split at h
  · rename_i x r; cases h; exact ⟨x, r, rfl, rfl⟩
  · cases h
theorem m_l2i_inv {ls : ML} {st : List Value} {q : ML × List Value} (h : m_l2i ls st = some q) : ∃ x r, st = .long x :: r ∧ q = (ls, .int x.toInt32 :: r) := by
  unfold m_l2i at h
  split at h
  · rename_i x r; cases h; exact ⟨x, r, rfl, rfl⟩
  · cases h
theorem m_i2c_inv {ls : ML} {st : List Value} {q : ML × List Value} (h : m_i2c ls st = some q) : ∃ x r, st = .int x :: r ∧ q = (ls, .int (x.toUInt32 % 65536).toInt32 :: r) := by
  unfold m_i2c at h
  split at h
  · rename_i x r; cases h; exact ⟨x, r, rfl, rfl⟩
  · cases h
theorem m_one {P : List Nat → Bool} {Q : Nat → Prop} {a : List Nat} (h : P a = true) (h0 : P [] = false) (h2 : ∀ x y r, P (x :: y :: r) = false) (h1 : ∀ v, P [v] = true → Q v) : Q (m_a0 a) := by
  match a, h with
  | [], h => rw [h0] at h; cases h
  | [v], h => exact h1 v h
  | x :: y :: r, h => rw [h2] at h; cases h
section MPURE
variable {p : Program} {l : Launch} {e : Env} {R : Room} {s : State} {m : MethodId} {args : Array Value} {below : List Frame} {meth : Method} {c : Code} {H : Heap} {locs : List Loc} {cells slots : Nat} {Q : State → Prop}
theorem m_Wldcw {cc : ByteArray} {pc : Nat} {ls : Array Slot} {rest : List Value} (hexec : p.tables.exec = Jvm.exec) (hb : c.code = cc) {own tx : String} {index q : Nat} (hown : s.vm.findClass own = some m.cls) (hZ : vk_R own index tx q s) (hdg : decode cc pc = .ok (.ldc_w index, 3))
    (k : W p l e R s m args below meth c H locs cells slots Q (F0 m (pc + 3) ls (.ref q :: rest))) : W p l e R s m args below meth c H locs cells slots Q (F0 m pc ls rest) := by
  intro T hT X
  obtain ⟨t, a1, b1⟩ := k T hT X
  obtain ⟨kc, cf, i, a', hk, hcf, hcp, -, hr, hev'⟩ := Cond.stringRef_spec (args := #[]) (s := s) hown hZ.1
  have hev := hZ.2
  rw [hev'] at hev
  cases hev
  obtain ⟨k', hk', he⟩ := X.warmed.alike.2.2 _ _ hk
  have hr' : k'.resolved[index]? = some (some (.string q)) := by
    rcases X.warmed.entry hk hk' index with h | ⟨h, -⟩
    · rw [h]; exact hr
    · rw [hr] at h; cases h
  refine ⟨t, ?_, b1⟩
  have hdg' : decode c.code (F0 m pc ls rest).pc = .ok (.ldc_w index, 3) := by rw [hb]; exact hdg
  jvm_step X.here [hexec, hdg', ldc_w.wp_string (e := e) (s := T) (f := F0 m pc ls rest) X.here.top hk' (by rw [he]; exact hcf) hcp hr']
  exact a1
variable {G : m_GT} {y : Nat}
set_option maxHeartbeats 4000000 in
theorem m_snd_pure (F : m_Fr p G y R s m args meth c) {i : Instr} {a : List Nat} {c0 : Int32} {ls ls' : ML} {st st' : List Value} {pc len : Nat} {lsA : Array Slot} (hp : m_pure i a c0 ls st = some (ls', st')) (hd : decode (m_bytes y) pc = .ok (i, len)) (hl : len = m_lenOf i) (hI : m_okI y pc i a c0 = true) (hL : m_L G lsA (m_maxL y) ls)
    (kk : ∀ lsA' : Array Slot, m_L G lsA' (m_maxL y) ls' → W p l e R s m args below meth c H locs cells slots Q (F0 m (pc + len) lsA' (st'.map (m_tv G)))) : W p l e R s m args below meth c H locs cells slots Q (F0 m pc lsA (st.map (m_tv G))) := by
  obtain ⟨hx, hb, hml, hr, hlocks, hnm, hown, hts, hK, hbase, hfr, hlo⟩ := F
  subst hl
  unfold m_pure at hp
  split at hp
  · cases hp
    exact lv_iconst hx hb hd (of_decide_eq_true hI) (kk lsA hL)
  · cases hp
    exact lv_bipush hx hb hd (of_decide_eq_true hI) (kk lsA hL)
  · cases hp
    exact lv_sipush hx hb hd (of_decide_eq_true hI) (kk lsA hL)
  · rename_i n
    cases hp
    have h1 : (n : Nat) = m_a0 a := m_one (P := fun a => m_okI y pc _ a c0) hI rfl (fun _ _ _ => rfl) (fun v hv => of_decide_eq_true hv)
    exact lv_lconst hx hb hd (by rw [h1]) (kk lsA hL)
  · rename_i k
    cases hp
    have h1 : m_w (m_pLn (m_rc y) k) (.constantLong (m_own y) k (Int64.ofNat (m_a0 a))) = true := m_one (P := fun a => m_okI y pc _ a c0) hI rfl (fun _ _ _ => rfl) (fun v hv => hv)
    exact lv_ldc2 hx hb hown (hts _ (m_in (m_w_mem h1) rfl)) hd (kk lsA hL)
  · rename_i k
    cases hp
    have h1 : ((y = 39 ∧ k = 64) ∧ m_a0 a = 1) ∨ ((y = 58 ∧ k = 20) ∧ m_a0 a = 0) := m_one (P := fun a => m_okI y pc _ a c0) hI rfl (fun _ _ _ => rfl) (fun v hv => by have hv : ((Nat.beq y 39 && Nat.beq k 64 && Nat.beq v 1) || (Nat.beq y 58 && Nat.beq k 20 && Nat.beq v 0)) = true := hv; simpa [Bool.and_eq_true, Bool.or_eq_true] using hv)
    rcases h1 with ⟨⟨rfl, rfl⟩, h3⟩ | ⟨⟨rfl, rfl⟩, h3⟩
    · have h4 : m_tv G (.retAddr (m_a0 a)) = .ref (G.2.1 1) := by rw [h3]; rfl
      refine va_ldcS (own := RX3) (tx := m_txt 1) hx hb hown hK.2.2.2.2.1 hd ?_
      rw [← h4]
      exact kk lsA hL
    · have h4 : m_tv G (.retAddr (m_a0 a)) = .ref (G.2.1 0) := by rw [h3]; rfl
      refine va_ldcS (own := RX7) (tx := m_txt 0) hx hb hown hK.2.2.2.1 hd ?_
      rw [← h4]
      exact kk lsA hL
  · exact absurd (show false = true from hI) (by decide)
  · rename_i n
    obtain ⟨x, h2, h3⟩ := m_ldi_inv hp
    cases h3
    have h1 : (n : Nat) = m_a0 a := m_one (P := fun a => m_okI y pc _ a c0) hI rfl (fun _ _ _ => rfl) (fun v hv => of_decide_eq_true hv)
    exact lv_iload_n hx hb hd h1 (hL.2.2.2 _ _ h2) (kk lsA hL)
  · rename_i n
    obtain ⟨x, h2, h3⟩ := m_ldi_inv hp
    cases h3
    have h1 : n = m_a0 a := m_one (P := fun a => m_okI y pc _ a c0) hI rfl (fun _ _ _ => rfl) (fun v hv => of_decide_eq_true hv)
    exact lv_iload hx hb hd (by rw [h1]; exact hL.2.2.2 _ _ h2) (kk lsA hL)
  · rename_i n
    obtain ⟨x, h2, h3⟩ := m_lda_inv hp
    cases h3
    have h1 : (n : Nat) = m_a0 a := m_one (P := fun a => m_okI y pc _ a c0) hI rfl (fun _ _ _ => rfl) (fun v hv => of_decide_eq_true hv)
    exact lv_aload_n hx hb hd h1 (hL.2.2.2 _ _ h2) (kk lsA hL)
  · rename_i n
    obtain ⟨x, h2, h3⟩ := m_lda_inv hp
    cases h3
    have h1 : n = m_a0 a := m_one (P := fun a => m_okI y pc _ a c0) hI rfl (fun _ _ _ => rfl) (fun v hv => of_decide_eq_true hv)
    exact lv_aload hx hb hd (by rw [h1]; exact hL.2.2.2 _ _ h2) (kk lsA hL)
  · rename_i n
    obtain ⟨x, h2, h3⟩ := m_ldl_inv hp
    cases h3
    have h1 : (n : Nat) = m_a0 a := m_one (P := fun a => m_okI y pc _ a c0) hI rfl (fun _ _ _ => rfl) (fun v hv => of_decide_eq_true hv)
    exact lv_lload_n hx hb hd h1 (hL.2.2.2 _ _ h2) (kk lsA hL)
  · rename_i n
    obtain ⟨x, h2, h3⟩ := m_ldl_inv hp
    cases h3
    have h1 : n = m_a0 a := m_one (P := fun a => m_okI y pc _ a c0) hI rfl (fun _ _ _ => rfl) (fun v hv => of_decide_eq_true hv)
    exact lv_lload hx hb hd (by rw [h1]; exact hL.2.2.2 _ _ h2) (kk lsA hL)
  · rename_i n
    obtain ⟨x, r, l', rfl, h3, h4⟩ := m_sti_inv hp
    cases h4
    have h1 : (n : Nat) = m_a0 a := m_one (P := fun a => m_okI y pc _ a c0) hI rfl (fun _ _ _ => rfl) (fun v hv => of_decide_eq_true hv)
    exact lv_istore_n (nL := m_maxL y) hx hb hd h1 (m_L_has hL) (by have := (m_sto_inv h3).1; have := hL.2.2.1; omega) rfl (fun lsA' hh => kk lsA' (m_L_sto hL.2.2.1 h3 hh))
  · rename_i n
    obtain ⟨x, r, l', rfl, h3, h4⟩ := m_sti_inv hp
    cases h4
    have h1 : n = m_a0 a := m_one (P := fun a => m_okI y pc _ a c0) hI rfl (fun _ _ _ => rfl) (fun v hv => of_decide_eq_true hv)
    subst h1
    exact lv_istore (nL := m_maxL y) hx hb hd (m_L_has hL) (by have := (m_sto_inv h3).1; have := hL.2.2.1; omega) rfl (fun lsA' hh => kk lsA' (m_L_sto hL.2.2.1 h3 hh))
  · rename_i n
    obtain ⟨x, r, l', rfl, h3, h4⟩ := m_sta_inv hp
    cases h4
    have h1 : (n : Nat) = m_a0 a := m_one (P := fun a => m_okI y pc _ a c0) hI rfl (fun _ _ _ => rfl) (fun v hv => of_decide_eq_true hv)
    exact lv_astore_n (nL := m_maxL y) hx hb hd h1 (m_L_has hL) (by have := (m_sto_inv h3).1; have := hL.2.2.1; omega) rfl (fun lsA' hh => kk lsA' (m_L_sto hL.2.2.1 h3 hh))
  · rename_i n
    obtain ⟨x, r, l', rfl, h3, h4⟩ := m_sta_inv hp
    cases h4
    have h1 : n = m_a0 a := m_one (P := fun a => m_okI y pc _ a c0) hI rfl (fun _ _ _ => rfl) (fun v hv => of_decide_eq_true hv)
    subst h1
    exact lv_astore (nL := m_maxL y) hx hb hd (m_L_has hL) (by have := (m_sto_inv h3).1; have := hL.2.2.1; omega) rfl (fun lsA' hh => kk lsA' (m_L_sto hL.2.2.1 h3 hh))
  · rename_i n
    obtain ⟨x, r, l', rfl, h3, h4⟩ := m_stl_inv hp
    cases h4
    have h1 : (n : Nat) = m_a0 a := m_one (P := fun a => m_okI y pc _ a c0) hI rfl (fun _ _ _ => rfl) (fun v hv => of_decide_eq_true hv)
    exact lv_lstore_n (nL := m_maxL y) hx hb hd h1 (m_L_has hL) (by have := (m_sto2_inv h3).1; have := hL.2.2.1; omega) rfl (fun lsA' hh => kk lsA' (m_L_sto2 hL.2.2.1 h3 hh))
  · rename_i n
    obtain ⟨x, r, l', rfl, h3, h4⟩ := m_stl_inv hp
    cases h4
    have h1 : n = m_a0 a := m_one (P := fun a => m_okI y pc _ a c0) hI rfl (fun _ _ _ => rfl) (fun v hv => of_decide_eq_true hv)
    subst h1
    exact lv_lstore (nL := m_maxL y) hx hb hd (m_L_has hL) (by have := (m_sto2_inv h3).1; have := hL.2.2.1; omega) rfl (fun lsA' hh => kk lsA' (m_L_sto2 hL.2.2.1 h3 hh))
  · rename_i n d
    obtain ⟨x, l', h2, h3, h4⟩ := m_inc_inv hp
    cases h4
    have h1 : n = m_a0 a ∧ Int32.ofInt d = c0 := m_one (P := fun a => m_okI y pc _ a c0) hI rfl (fun _ _ _ => rfl) (fun v hv => by have hv : (decide (n = v) && decide (Int32.ofInt d = c0)) = true := hv; simpa [Bool.and_eq_true] using hv)
    obtain ⟨rfl, h5⟩ := h1
    have hmem : (m_a0 a, m_tv G (.int x)) ∈ m_as G 0 ls := (m_as_mem ls 0 _).mpr ⟨m_a0 a, .int x, h2, by rw [Nat.zero_add]⟩
    obtain ⟨kq, hkq⟩ := List.getElem?_of_mem hmem
    exact lv_iinc (nL := m_maxL y) (k := kq) (v := x + c0) hx hb hd (m_L_has hL) hkq (by rw [h5]) (by have := (m_sto_inv h3).1; have := hL.2.2.1; omega) rfl (fun lsA' hh => kk lsA' (m_L_sto hL.2.2.1 h3 hh))
  · obtain ⟨x, z, r, rfl, h2⟩ := m_bin_inv hp
    cases h2
    exact lv_iadd hx hb hd (kk lsA hL)
  · obtain ⟨x, z, r, rfl, h2⟩ := m_bin_inv hp
    cases h2
    exact lv_isub hx hb hd (kk lsA hL)
  · obtain ⟨x, z, r, rfl, h2⟩ := m_bin_inv hp
    cases h2
    exact lv_imul hx hb hd (kk lsA hL)
  · obtain ⟨x, z, r, rfl, h2⟩ := m_bin_inv hp
    cases h2
    exact lv_iand hx hb hd (kk lsA hL)
  · obtain ⟨x, z, r, rfl, h2⟩ := m_bin_inv hp
    cases h2
    exact lv_ior hx hb hd (kk lsA hL)
  · obtain ⟨x, z, r, rfl, h2⟩ := m_bin_inv hp
    cases h2
    exact lv_ixor hx hb hd (kk lsA hL)
  · obtain ⟨x, z, r, rfl, h2⟩ := m_bin_inv hp
    cases h2
    exact lv_ishl hx hb hd (kk lsA hL)
  · obtain ⟨x, z, r, rfl, h2⟩ := m_bin_inv hp
    cases h2
    exact lv_ishr hx hb hd (kk lsA hL)
  · obtain ⟨x, z, r, rfl, h2⟩ := m_binL_inv hp
    cases h2
    exact lv_ladd hx hb hd (kk lsA hL)
  · obtain ⟨x, z, r, rfl, h2⟩ := m_binL_inv hp
    cases h2
    exact lv_lmul hx hb hd (kk lsA hL)
  · obtain ⟨v, r, rfl, hv, h2⟩ := m_dup_inv hp
    cases h2
    exact lv_dup hx hb hd (m_tv_cat1 G hv) (kk lsA hL)
  · obtain ⟨v, w, r, rfl, hv, hw, h2⟩ := m_dup2_inv hp
    cases h2
    exact lv_dup2_11 hx hb hd (m_tv_cat1 G hv) (m_tv_cat1 G hw) (kk lsA hL)
  · obtain ⟨v, r, rfl, hv, h2⟩ := m_pop_inv hp
    cases h2
    exact lv_pop hx hb hd (m_tv_cat1 G hv) (kk lsA hL)
  · obtain ⟨x, r, rfl, h2⟩ := m_i2l_inv hp
    cases h2
    exact lv_i2l hx hb hd rfl (kk lsA hL)
  · obtain ⟨x, r, rfl, h2⟩ := m_l2i_inv hp
    cases h2
    exact lv_l2i hx hb hd rfl (kk lsA hL)
  · obtain ⟨x, r, rfl, h2⟩ := m_i2c_inv hp
    cases h2
    exact lv_i2c hx hb hd rfl (kk lsA hL)
  · cases hp
end MPURE
