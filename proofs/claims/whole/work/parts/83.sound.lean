/-! THE SMALL MACHINE IS THE REAL ONE: a run of the small machine that ends is a run of the real machine -/
def m_pcN (y k : Nat) : Nat := match m_code y k with
  | some e => e.1
  | none => 0
theorem m_pcAt_N {y k z : Nat} (h : m_pcAt y k z = true) : m_pcN y k = z := by
  unfold m_pcAt at h
  unfold m_pcN
  split at h
  · rename_i e he
    rw [he]
    exact Nat.eq_of_beq_eq_true h
  · cases h
theorem m_pcZ_N {y k : Nat} {z : Int} (h : m_pcZ y k z = true) : z = ((m_pcN y k : Nat) : Int) := by
  unfold m_pcZ at h
  unfold m_pcN
  split at h
  · rename_i e he
    rw [he]
    exact (of_decide_eq_true h).symm
  · cases h
def m_RetI (y : Nat) (rv : Option Value) (pc : Nat) : Prop := match rv with
  | none => decode (m_bytes y) pc = .ok (.return_, 1) ∧ m_retT y = none
  | some (.int x) => decode (m_bytes y) pc = .ok (.ireturn, 1) ∧ ∃ ty, m_retT y = some ty ∧ narrow ty (.int x) = .int x
  | some (.ref _) => decode (m_bytes y) pc = .ok (.areturn, 1) ∧ m_retT y = some (.object RX0)
  | _ => False
def m_Qr (G : m_GT) (rv : Option Value) (h1 : MH) : Array Value → State → Outcome → State → Prop := match rv with
  | none => va_Qv (fun _ : Unit => True) (fun _ t => m_Rel G h1 t.heap) (m_A G)
  | some (.int x) => va_Qi (fun v (_ : Unit) => v = x) (fun _ t => m_Rel G h1 t.heap) (m_A G)
  | some (.ref a) => va_Qr (fun _ : Unit => True) (fun _ q t => q = G.1 + a ∧ m_Rel G h1 t.heap) (m_A G)
  | _ => fun _ _ _ _ => False
def m_wz (z : Nat) : List Cond := .code (m_name z) (m_bytes z) (m_maxL z) (m_retT z) :: m_tbl
def m_rm (z : Nat) (h h1 : MH) : Room := { frames := m_frm z, cells := h1.length - h.length, slots := m_sz h1 - m_sz h, locals := m_loc z }
def m_Pz (G : m_GT) (h : MH) (as : List Value) : Array Value → State → Prop := va_Pc (as.map (m_tv G)) (fun U => m_Rel G h U.heap ∧ m_KS G U ∧ G.1 ≤ U.heap.size)
/-- what the small machine's run of n steps is in the real machine -/
def m_Snd (n : Nat) (G : m_GT) (l : Launch) : Prop := ∀ (y k : Nat) (ls : ML) (st : List Value) (h : MH) (rv : Option Value) (hF : MH), m_run n y k ls st h = some (rv, hF) →
  ∀ {p : Program} {e : Env} {R : Room} {s : State} {m : MethodId} {args : Array Value} {below : List Frame} {meth : Method} {c : Code} {Q : State → Prop}, m_Fr p G y R s m args meth c →
  (∀ (H' : Heap) (locs' : List Loc) (lsA' : Array Slot) (cells' slots' pc' : Nat), m_Rel G hF H' → va_S (m_A G) s.heap H' locs' → s.heap.size + cells' = H'.size → cells' ≤ R.cells → slots' ≤ R.slots → m_RetI y rv pc' → W p l e R s m args below meth c H' locs' cells' slots' Q (F0 m pc' lsA' (rv.toList.map (m_tv G)))) →
  ∀ (H : Heap) (locs : List Loc) (lsA : Array Slot) (cells slots : Nat), m_Rel G h H → va_S (m_A G) s.heap H locs → s.heap.size + cells = H.size → m_L G lsA (m_maxL y) ls → cells + (hF.length - h.length) ≤ R.cells → slots + (m_sz hF - m_sz h) ≤ R.slots →
    W p l e R s m args below meth c H locs cells slots Q (F0 m (m_pcN y k) lsA (st.map (m_tv G)))
theorem m_cats_1 {G : m_GT} : ∀ (as : List Value), m_cats as = true → ∀ v ∈ as.map (m_tv G), v.category = 1 := by
  intro as
  induction as with
  | nil => intro _ v hv; simp at hv
  | cons a r ih =>
    intro h v hv
    simp only [m_cats, Bool.and_eq_true] at h
    rw [List.map_cons, List.mem_cons] at hv
    rcases hv with rfl | hv
    · exact m_tv_cat1 G h.1
    · exact ih h.2 v hv
theorem m_sl_len : ∀ (vs : List Value), (∀ v ∈ vs, v.category = 1) → (lg_sl vs).length = vs.length := by
  intro vs
  induction vs with
  | nil => intro _; rfl
  | cons a r ih =>
    intro h
    have h1 := ih (fun v hv => h v (List.mem_cons_of_mem _ hv))
    have h2 : ¬ a.category = 2 := by rw [h a List.mem_cons_self]; decide
    unfold lg_sl at h1 ⊢
    rw [List.flatMap_cons, if_neg h2, List.length_append, h1]
    simp; omega
theorem m_lvargs : ∀ (vs : List Value), (∀ v ∈ vs, v.category = 1) → ∀ (j i : Nat) (v : Value), vs[i]? = some v → (j + i, v) ∈ lv_args j vs := by
  intro vs
  induction vs with
  | nil => intro _ j i v h; simp at h
  | cons a r ih =>
    intro hc j i v h
    have h2 : ¬ a.category = 2 := by rw [hc a List.mem_cons_self]; decide
    rw [lv_args, if_neg h2]
    cases i with
    | zero => simp at h; subst h; exact List.mem_cons_self
    | succ i =>
      refine List.mem_cons_of_mem _ ?_
      have := ih (fun v hv => hc v (List.mem_cons_of_mem _ hv)) (j + 1) i v (by simpa using h)
      rw [show j + (i + 1) = j + 1 + i by omega]
      exact this
theorem m_L_entry {G : m_GT} {as : List Value} {n : Nat} (hc : m_cats as = true) (hn : as.length ≤ n) : m_L G ((lg_sl (as.map (m_tv G)) ++ List.replicate (n - (lg_sl (as.map (m_tv G))).length) Slot.unset).toArray) n (m_ent n as) := by
  have h1 := m_cats_1 (G := G) as hc
  have hh := lv_entry (as.map (m_tv G)) (n := n) (by rw [m_sl_len _ h1]; simpa using hn)
  refine ⟨hh.1, hh.2.1, by simp [m_ent]; omega, fun i v hv => ?_⟩
  unfold m_ent at hv
  by_cases hi : i < as.length
  · rw [List.getElem?_append_left (by simpa using hi)] at hv
    have hv2 : as[i]? = some v := by
      rw [List.getElem?_map] at hv
      cases ha : as[i]? with
      | none => rw [ha] at hv; cases hv
      | some w => rw [ha] at hv; cases hv; rfl
    have h3 := m_lvargs (as.map (m_tv G)) h1 0 i (m_tv G v) (by simp [hv2])
    rw [Nat.zero_add] at h3
    exact hh.2.2 _ h3
  · rw [List.getElem?_append_right (by simp; omega)] at hv
    rw [List.getElem?_replicate] at hv
    split at hv
    · cases hv
    · cases hv
theorem m_args_inv : ∀ (n : Nat) (acc st as r : List Value), m_args n acc st = some (as, r) → ∃ pre, pre.length = n ∧ st = pre ++ r ∧ as = pre.reverse ++ acc := by
  intro n
  induction n with
  | zero => intro acc st as r h; cases h; exact ⟨[], rfl, rfl, rfl⟩
  | succ n ih =>
    intro acc st as r h
    cases st with
    | nil => cases h
    | cons v st =>
      obtain ⟨pre, h1, h2, h3⟩ := ih (v :: acc) st as r h
      exact ⟨v :: pre, by simp [h1], by rw [h2]; rfl, by rw [h3]; simp⟩
theorem m_args_st {n : Nat} {st as r : List Value} (h : m_args n [] st = some (as, r)) : as.length = n ∧ st = as.reverse ++ r := by
  obtain ⟨pre, h1, h2, h3⟩ := m_args_inv n [] st as r h
  rw [List.append_nil] at h3
  subst h3
  exact ⟨by simp [h1], by rw [List.reverse_reverse]; exact h2⟩
theorem m_cat_le (v : Value) : v.category ≤ 2 := by cases v <;> exact Nat.le_of_ble_eq_true rfl
theorem m_okr_le {r : List Value} (G : m_GT) (h : m_okr r = true) : ((r.map (m_tv G)).map fun v => v.category).sum ≤ 8 := by
  match r, h with
  | [], _ => simp
  | [a], _ => have := m_cat_le (m_tv G a); simp; omega
  | [a, b], _ => have := m_cat_le (m_tv G a); have := m_cat_le (m_tv G b); simp; omega
  | [a, b, c], _ => have := m_cat_le (m_tv G a); have := m_cat_le (m_tv G b); have := m_cat_le (m_tv G c); simp; omega
  | [a, b, c, d], _ => have := m_cat_le (m_tv G a); have := m_cat_le (m_tv G b); have := m_cat_le (m_tv G c); have := m_cat_le (m_tv G d); simp; omega
  | _ :: _ :: _ :: _ :: _ :: _, h => cases h
theorem m_good_wz {z : Nat} (hz : z < 164) : GoodIn m_tbl (m_wz z) := by
  intro w hw
  rcases List.mem_cons.mp hw with rfl | hw
  · exact ⟨m_in (m_cd z hz) rfl, Or.inl rfl⟩
  · exact m_tblIn w hw
/-- a method's contract out of its run -/
theorem m_met {n : Nat} {G : m_GT} {l : Launch} (ih : m_Snd n G l) {z : Nat} (hz : z < 164) {as : List Value} {h h1 : MH} {rv : Option Value} (hr : m_run n z 0 (m_ent (m_maxL z) as) [] h = some (rv, h1)) (hc : m_cats as = true) (hn : as.length ≤ m_maxL z) :
    Met l (m_name z) (m_wz z) (m_rm z h h1) (m_Pz G h as) (m_Qr G rv h1) (h1.length - h.length) (m_sz h1 - m_sz h) (m_A G) := by
  have hM := m_okP_0 z hz
  simp only [m_okM, Bool.and_eq_true] at hM
  obtain ⟨⟨⟨⟨⟨⟨⟨⟨hM1, hM2⟩, hM3⟩, hM4⟩, hM5⟩, hM6⟩, hM7⟩, hM8⟩, hM9⟩ := hM
  have hcls : (m_name z).cls = m_own z := of_decide_eq_true hM3
  refine va_MetF (cc := m_bytes z) (maxL := m_maxL z) (ret := m_retT z) hM7 rfl ?_
  intro p e s m args below meth c s₁ B hml hv
  obtain ⟨rfl, hR, hK, hbase⟩ := hv
  have hts0 := atoms_spec (ws := m_wz z) B.pre
  have hts : ∀ w ∈ m_tbl, w.before (as.map (m_tv G)).toArray s = true := fun w hw => hts0 w (List.mem_cons_of_mem _ hw)
  have hown : s.vm.findClass (m_own z) = some m.cls := by rw [← hcls]; exact findClass_of_methodNamed B.named
  have F : m_Fr p G z (headSpec (m_wz z) (m_rm z h h1)).room s m (as.map (m_tv G)).toArray meth c :=
    ⟨B.exec, B.bytes, hml, B.returns, B.notSynchronized, (name_of_methodNamed B.named B.method).1, hown, hts, hK, hbase, Nat.le_refl _, Nat.le_refl _⟩
  rw [lg_entry_eq]
  have hpc : m_pcN z 0 = 0 := m_pcAt_N hM5
  have key := fun hret => ih z 0 (m_ent (m_maxL z) as) [] h rv h1 hr (e := e) (below := below) F (Q := MQ below (m_Qr G rv h1) (as.map (m_tv G)).toArray s (h1.length - h.length) (m_sz h1 - m_sz h) (m_A G)) hret s.heap [] _ 0 0 hR va_S.rf (by rw [Nat.add_zero]) (m_L_entry hc hn) (by show 0 + _ ≤ h1.length - h.length; omega) (by show 0 + _ ≤ m_sz h1 - m_sz h; omega)
  rw [hpc] at key
  refine key ?_
  · intro H' locs' lsA' cells' slots' pc' hR' hS' hc' hcl hsl hI
    refine W.widen (k := h1.length - h.length) (n := m_sz h1 - m_sz h) hcl hsl ?_
    match rv, hI with
    | none, hI => exact W.vret B.exec B.bytes (by rw [B.returns]; exact hI.2) (fun t ht hW => ⟨⟨(), rfl, trivial, by (try dsimp only); rw [ht]; exact hR'⟩, hS'.F ht⟩) hS'.2.2 hI.1
    | some (.int x), hI =>
      obtain ⟨hd, ty, hty, hnr⟩ := hI
      exact W.zret (v := x) (ty := ty) B.exec B.bytes (by rw [B.returns]; exact hty) hnr (fun t ht hW => ⟨⟨x, (), rfl, rfl, by (try dsimp only); rw [ht]; exact hR'⟩, hS'.F ht⟩) hS'.2.2 hd
    | some (.ref a), hI => exact W.aret (v := .ref (G.1 + a)) (rt := .object RX0) B.exec B.bytes (by rw [B.returns]; exact hI.2) (Or.inl ⟨_, rfl⟩) (Or.inr ⟨_, rfl⟩) (fun t ht hW => ⟨⟨(), G.1 + a, rfl, trivial, rfl, by (try dsimp only); rw [ht]; exact hR'⟩, hS'.F ht⟩) hS'.2.2 hI.1
theorem m_Pz_blind {G : m_GT} {h : MH} {as : List Value} : FrameBlind (m_Pz G h as) := by
  intro a U g mk q
  obtain ⟨rfl, hR, hK, hb⟩ := q
  exact ⟨rfl, hR, m_KS.same rfl hK, hb⟩
section MSND
variable {p : Program} {l : Launch} {e : Env} {R : Room} {s : State} {m : MethodId} {args : Array Value} {below : List Frame} {meth : Method} {c : Code} {H : Heap} {locs : List Loc} {cells slots : Nat} {Q : State → Prop} {G : m_GT} {y : Nat}
/-- behind a call -/
theorem m_Wback {z : Nat} {h h1 : MH} {rv : Option Value} {pc : Nat} {lsA : Array Slot} {st0 rest : List Value} {a : Array Value} (hS : va_S (m_A G) s.heap H locs) (hc : s.heap.size + cells = H.size) (hR : m_Rel G h H) (hle : h.length ≤ h1.length)
    (hr : va_Run p l e R s m args below meth c H locs cells slots (h1.length - h.length) (m_sz h1 - m_sz h) (F0 m pc lsA st0) rest (m_Qr G rv h1 a) (m_A G))
    (kk : ∀ (H1 : Heap) (locs1 : List Loc), m_Rel G h1 H1 → va_S (m_A G) s.heap H1 locs1 → s.heap.size + (cells + (h1.length - h.length)) = H1.size → W p l e R s m args below meth c H1 locs1 (cells + (h1.length - h.length)) (slots + (m_sz h1 - m_sz h)) Q (F0 m (pc + 3) lsA (rv.toList.map (m_tv G) ++ rest))) :
    W p l e R s m args below meth c H locs cells slots Q (F0 m pc lsA st0) := by
  have key : ∀ (t : State) (H1 : Heap) (locs1 : List Loc), t.heap = H1 → m_Rel G h1 t.heap → va_S (m_A G) s.heap H1 locs1 → W p l e R s m args below meth c H1 locs1 (cells + (h1.length - h.length)) (slots + (m_sz h1 - m_sz h)) Q (F0 m (pc + 3) lsA (rv.toList.map (m_tv G) ++ rest)) := by
    intro t H1 locs1 ht hR1 hS1
    rw [ht] at hR1
    refine kk H1 locs1 hR1 hS1 ?_
    have h2 := hR.1
    have h3 := hR1.1
    omega
  match rv, hr, key with
  | none, hr, key => exact va_callv (a := a) hr hS (fun _ _ q => q) (fun _ q => q) fun u t H1 locs1 ht _ _ hB _ _ hS1 => key t H1 locs1 ht hB hS1
  | some (.int x), hr, key =>
    exact va_calli (a := a) hr hS (fun _ _ q => q) (fun _ q => q) fun v u t H1 locs1 ht _ hp hB _ _ hS1 => by
      subst hp
      exact key t H1 locs1 ht hB hS1
  | some (.ref b), hr, key =>
    exact va_callr (a := a) hr hS (fun _ _ q => q) (fun _ q => q) fun u ra t H1 locs1 ht _ _ hB _ _ hS1 => by
      obtain ⟨rfl, hB⟩ := hB
      exact key t H1 locs1 ht hB hS1
  | some (.long _), hr, _ => intro T hT X; obtain ⟨_, _, _, _, _, _, _, _, _, _, q, _⟩ := hr T hT X; exact q.elim
  | some (.float _), hr, _ => intro T hT X; obtain ⟨_, _, _, _, _, _, _, _, _, _, q, _⟩ := hr T hT X; exact q.elim
  | some (.double _), hr, _ => intro T hT X; obtain ⟨_, _, _, _, _, _, _, _, _, _, q, _⟩ := hr T hT X; exact q.elim
  | some .null, hr, _ => intro T hT X; obtain ⟨_, _, _, _, _, _, _, _, _, _, q, _⟩ := hr T hT X; exact q.elim
  | some (.retAddr _), hr, _ => intro T hT X; obtain ⟨_, _, _, _, _, _, _, _, _, _, q, _⟩ := hr T hT X; exact q.elim
end MSND
