/-! the small machine's cells in the real heap; a row for each instruction that touches cells -/
/-- where the cells lie: the first address, the string constants' addresses, the classes, the arrays' classes, the heap as it was -/
abbrev m_GT : Type := Nat × (Nat → Nat) × va_G × (Nat → ClassId) × Heap
def m_tv (G : m_GT) (v : Value) : Value := match v with
  | .ref i => .ref (G.1 + i)
  | .retAddr j => .ref (G.2.1 j)
  | v => v
def m_tA (G : m_GT) (a : vp_A) : vp_A := match a.2 with
  | .inr (.inr (.inr (.inr f))) => (a.1, .inr (.inr (.inr (.inr fun j => (f j).map (fun i => G.1 + i)))))
  | _ => a
def m_tE (G : m_GT) (e : va_E) : va_E := match e with
  | .inl (t, a) => .inl (G.2.2.2.1 t, m_tA G a)
  | .inr (c, fs) => .inr (c, fs.map (m_tv G))
def m_ws (G : m_GT) (h : MH) : va_W := h.mapIdx fun i e => (G.1 + i, m_tE G e)
def m_A (G : m_GT) : Nat → Prop := fun q => G.1 ≤ q
def m_tys (G : m_GT) : List (ClassId × FieldType) := [(G.2.2.2.1 0, .int), (G.2.2.2.1 1, .char), (G.2.2.2.1 2, .object "OracleWheel$Moment")]
def m_Rel (G : m_GT) (h : MH) (H : Heap) : Prop := H.size = G.1 + h.length ∧ va_P G.2.2.1 vwCl (m_ws G h) H ∧ ∀ q, q < G.1 → H[q]? = G.2.2.2.2[q]?
def m_lenS : List Nat := [96, 4]
def m_bytS : List (List Int32) := [(m_chs 0).map nI, (m_chs 1).map nI]
/-- what is known of the classes and of the string constants -/
def m_KS (G : m_GT) (U : State) : Prop := va_K G.2.2.1 vwCl (m_tys G) U ∧ va_AO "OracleWheel$Moment" U ∧ (∃ adV : Nat → Nat, vk_S 2 m_lenS m_bytS G.2.1 adV (m_A G) U G.2.2.2.2) ∧ vk_R RX7 20 (m_txt 0) (G.2.1 0) U ∧ vk_R RX3 64 (m_txt 1) (G.2.1 1) U ∧ va_Nw (.methodLinkNest RX3 104 yX7_isWord RX7) U ∧ va_Z "java/lang/String" "COMPACT_STRINGS" "Z" (.int 1) (m_A G) U G.2.2.2.2 ∧ va_Zq "jdk/internal/util/Preconditions" "SIOOBE_FORMATTER" "Ljava/util/function/BiFunction;" (m_A G) U G.2.2.2.2 ∧ G.2.2.2.2.size = G.1
theorem m_KS.warm {G : m_GT} {s U : State} (hW : s.WarmedH U.vm) (h : m_KS G s) : m_KS G U := by
  obtain ⟨h1, h2, ⟨adV, h3⟩, h4, h5, h6, h7, h8, h9⟩ := h
  exact ⟨va_K.moved hW.alike h1, va_AO.moved hW.alike h2, ⟨adV, vk_S.moved hW.alike h3⟩, vk_R.warm hW h4, vk_R.warm hW h5, va_Nw.warmM hW h6, va_Z.moved hW.alike h7, va_Zq.moved hW.alike h8, h9⟩
theorem m_KS.same {G : m_GT} {s U : State} (hv : U.vm = s.vm) (h : m_KS G s) : m_KS G U := by
  obtain ⟨h1, h2, ⟨adV, h3⟩, h4, h5, h6, h7, h8, h9⟩ := h
  have ha : s.vm.Alike U.vm := by rw [hv]; exact Vm.Alike.refl _
  exact ⟨va_K.moved ha h1, va_AO.moved ha h2, ⟨adV, vk_S.moved ha h3⟩, vk_R.same hv h4, vk_R.same hv h5, va_Nw.same rfl hv.symm h6, va_Z.moved ha h7, va_Zq.moved ha h8, h9⟩
theorem m_ws_at {G : m_GT} {h : MH} {o : Nat} {e : va_E} (he : h[o]? = some e) : (m_ws G h)[o]? = some (G.1 + o, m_tE G e) := by
  simp [m_ws, List.getElem?_mapIdx, he]
theorem m_ws_of {G : m_GT} {h : MH} {o : Nat} {q : Nat × va_E} (he : (m_ws G h)[o]? = some q) : ∃ e, h[o]? = some e ∧ q = (G.1 + o, m_tE G e) := by
  simp only [m_ws, List.getElem?_mapIdx, Option.map_eq_some_iff] at he
  obtain ⟨e, h1, h2⟩ := he
  exact ⟨e, h1, h2.symm⟩
theorem m_ws_set {G : m_GT} {h : MH} {o : Nat} {e : va_E} : m_ws G (h.set o e) = (m_ws G h).set o (G.1 + o, m_tE G e) := by
  simp [m_ws, List.mapIdx_set]
theorem m_ws_push {G : m_GT} {h : MH} {e : va_E} : m_ws G (h ++ [e]) = m_ws G h ++ [(G.1 + h.length, m_tE G e)] := by
  simp [m_ws, List.mapIdx_append]
theorem m_ws_D {G : m_GT} {h : MH} : va_D (m_A G) (m_ws G h) := by
  refine ⟨fun i j p q hp hq e => ?_, fun k q hq => ?_⟩
  · obtain ⟨_, _, rfl⟩ := m_ws_of hp
    obtain ⟨_, _, rfl⟩ := m_ws_of hq
    dsimp only at e
    omega
  · obtain ⟨_, _, rfl⟩ := m_ws_of hq
    exact Nat.le_add_right _ _
theorem m_tA_1 (G : m_GT) (a : vp_A) : (m_tA G a).1 = a.1 := by
  unfold m_tA
  split <;> rfl
section MROW
variable {p : Program} {l : Launch} {e : Env} {R : Room} {s : State} {m : MethodId} {args : Array Value} {below : List Frame} {meth : Method} {c : Code} {H : Heap} {locs : List Loc} {cells slots : Nat} {Q : State → Prop}
variable {cc : ByteArray} {pc : Nat} {ls : Array Slot} {rest : List Value} {G : m_GT} {h h' : MH}
theorem m_Wsize (hc : s.heap.size + cells = H.size) {H1 : Heap} {locs1 : List Loc} {g : JFrame} (hle : H.size ≤ H1.size) (k : H1.size = H.size → W p l e R s m args below meth c H1 locs1 cells slots Q g) : W p l e R s m args below meth c H1 locs1 cells slots Q g := by
  intro T hT X
  have h1 : T.heap.size ≤ s.heap.size + cells := X.heapSize
  rw [hT, hc] at h1
  exact k (Nat.le_antisymm h1 hle) T hT X
theorem m_Wget (hx : p.tables.exec = Jvm.exec) (hb : c.code = cc) (hts : ∀ w ∈ m_tbl, w.before args s = true) {own : String} (hownC : s.vm.findClass own = some m.cls) (hK : m_KS G s) (hR : m_Rel G h H) {o ci f idx : Nat} {fs : List Value} (he : h[o]? = some (.inr (ci, fs))) {v : Value} (hv : fs[f]? = some v) (hci : ci < 9) (hf : f < (m_C ci).2.2) (hlink : Cond.fieldLink own idx ((m_C ci).2.1 f).1 ((m_C ci).2.1 f).2.1 ((m_C ci).2.1 f).2.2.1 ∈ m_tbl) (hdg : decode cc pc = .ok (.getfield idx, 3))
    (kk : W p l e R s m args below meth c H locs cells slots Q (F0 m (pc + 3) ls (m_tv G v :: rest))) : W p l e R s m args below meth c H locs cells slots Q (F0 m pc ls (.ref (G.1 + o) :: rest)) :=
  va_get (D := G.2.2.1) (cl := vwCl) (tys := m_tys G) (ws := m_ws G h) (C := (m_C ci).1) (T := (m_C ci).2.1) (N := (m_C ci).2.2) (ci := ci) (own := own) (ref := ((m_C ci).2.1 f).1) (index := idx) hx hb hts (m_fldIn ci hci) hownC hK.1 hR.2.1 o (m_ws_at he) (m_clAt ci hci) f hf (hts _ hlink) (fun _ h9 => h9) (v := m_tv G v) (by simp [hv]) hdg kk
/-- behind a write of one cell -/
theorem m_Rel_set {o : Nat} {e0 e1 : va_E} (hR : m_Rel G h H) (he : h[o]? = some e0) {H1 : Heap} {locs1 : List Loc} (hz : H1.size = H.size) (hP : va_P G.2.2.1 vwCl ((m_ws G h).set o (G.1 + o, m_tE G e1)) H1) (hS : va_S (m_A G) H H1 locs1) : m_Rel G (h.set o e1) H1 := by
  refine ⟨by rw [hz, hR.1]; simp, by rw [m_ws_set]; exact hP, fun q hq => ?_⟩
  rw [hS.2.1 q (by rw [hR.1]; omega) (by unfold m_A; omega)]
  exact hR.2.2 q hq
/-- two steps of a frame -/
theorem m_S_trans {A : Nat → Prop} {H0 H H1 : Heap} {locs locs1 : List Loc} (h1 : va_S A H0 H locs) (h2 : va_S A H H1 locs1) : va_S A H0 H1 locs1 := ⟨Nat.le_trans h1.1 h2.1, fun q hq hA => (h2.2.1 q (Nat.lt_of_lt_of_le hq h1.1) hA).trans (h1.2.1 q hq hA), h2.2.2⟩
theorem m_S_here {A : Nat → Prop} {H0 H : Heap} {locs : List Loc} (h1 : va_S A H0 H locs) : va_S A H H locs := ⟨Nat.le_refl _, fun _ _ _ => rfl, h1.2.2⟩
theorem m_Wput (hx : p.tables.exec = Jvm.exec) (hb : c.code = cc) (hts : ∀ w ∈ m_tbl, w.before args s = true) {own : String} (hownC : s.vm.findClass own = some m.cls) (hK : m_KS G s) (hR : m_Rel G h H) (hS : va_S (m_A G) s.heap H locs) (hc : s.heap.size + cells = H.size) {o ci f idx : Nat} {v : Value} (hp : m_pf h o ci f v = some h') (hci : ci < 9) (hf : f < (m_C ci).2.2) (hlink : Cond.fieldLink own idx ((m_C ci).2.1 f).1 ((m_C ci).2.1 f).2.1 ((m_C ci).2.1 f).2.2.1 ∈ m_tbl)
    (hfin : ((m_C ci).2.1 f).2.2.2 = false ∨ (((m_C ci).2.1 f).2.2.2 = true ∧ meth.name = "<init>" ∧ ((m_C ci).2.1 f).1 = own)) (hn : narrow (m_ty ci f) (m_tv G v) = m_tv G v) (hfit : fits (m_ty ci f) (m_tv G v) = true) (hdg : decode cc pc = .ok (.putfield idx, 3))
    (kk : ∀ (H1 : Heap) (locs1 : List Loc), m_Rel G h' H1 → va_S (m_A G) s.heap H1 locs1 → s.heap.size + cells = H1.size → W p l e R s m args below meth c H1 locs1 cells slots Q (F0 m (pc + 3) ls rest)) : W p l e R s m args below meth c H locs cells slots Q (F0 m pc ls (m_tv G v :: .ref (G.1 + o) :: rest)) := by
  obtain ⟨fs, he, hk, rfl⟩ := m_pf_inv hp
  have goal : ∀ (H1 : Heap) (locs1 : List Loc), va_P G.2.2.1 vwCl ((m_ws G h).set o (G.1 + o, .inr (ci, (fs.map (m_tv G)).set f (m_tv G v)))) H1 → va_D (m_A G) ((m_ws G h).set o (G.1 + o, .inr (ci, (fs.map (m_tv G)).set f (m_tv G v)))) → va_S (m_A G) H H1 locs1 → W p l e R s m args below meth c H1 locs1 cells slots Q (F0 m (pc + 3) ls rest) := by
    intro H1 locs1 hP1 hD1 hS1
    refine m_Wsize hc hS1.1 fun hz => ?_
    refine kk H1 locs1 (m_Rel_set (e1 := .inr (ci, fs.set f v)) hR he hz (by show va_P _ _ ((m_ws G h).set o (G.1 + o, .inr (ci, (fs.set f v).map (m_tv G)))) H1; rw [List.map_set]; exact hP1) hS1) (m_S_trans hS hS1) (by rw [hz]; exact hc)
  rcases hfin with hfin | ⟨hfin, hin, hdecl⟩
  · exact va_put (D := G.2.2.1) (cl := vwCl) (tys := m_tys G) (ws := m_ws G h) (C := (m_C ci).1) (T := (m_C ci).2.1) (N := (m_C ci).2.2) (ci := ci) (own := own) (ref := ((m_C ci).2.1 f).1) (index := idx) (ty := m_ty ci f) hx hb hts (m_fldIn ci hci) (m_ty ci) (m_tyAt ci hci) (m_nmAt ci hci) hownC hK.1 hR.2.1 m_ws_D (m_S_here hS) o (m_ws_at he) (m_clAt ci hci) f hf (hts _ hlink) (fun _ h9 => h9) hfin (m_tyAt ci hci f hf) hn hfit (by simpa using hk) hdg goal
  · exact va_putF (D := G.2.2.1) (cl := vwCl) (tys := m_tys G) (ws := m_ws G h) (C := (m_C ci).1) (T := (m_C ci).2.1) (N := (m_C ci).2.2) (ci := ci) (own := own) (ref := ((m_C ci).2.1 f).1) (index := idx) (ty := m_ty ci f) hx hb hts (m_fldIn ci hci) (m_ty ci) (m_tyAt ci hci) (m_nmAt ci hci) hownC hK.1 hR.2.1 m_ws_D (m_S_here hS) o (m_ws_at he) (m_clAt ci hci) f hf (hts _ hlink) (fun _ h9 => h9) hfin hin hdecl (m_tyAt ci hci f hf) hn hfit (by simpa using hk) hdg goal
theorem m_Wiald (hx : p.tables.exec = Jvm.exec) (hb : c.code = cc) (hK : m_KS G s) (hR : m_Rel G h H) {o : Nat} {i x : Int32} (hq : m_ai h o 0 i = some x) (hdg : decode cc pc = .ok (.iaload, 1))
    (kk : W p l e R s m args below meth c H locs cells slots Q (F0 m (pc + 1) ls (.int x :: rest))) : W p l e R s m args below meth c H locs cells slots Q (F0 m pc ls (.int i :: .ref (G.1 + o) :: rest)) := by
  obtain ⟨n, f, he, hin, rfl⟩ := m_ai_inv hq
  exact va_iald hx hb hK.1 hR.2.1 o 0 (m_ws_at he) rfl hin hdg kk
theorem m_Wcald (hx : p.tables.exec = Jvm.exec) (hb : c.code = cc) (hK : m_KS G s) (hR : m_Rel G h H) {o : Nat} {i x : Int32} (hq : m_ai h o 1 i = some x) (hdg : decode cc pc = .ok (.caload, 1))
    (kk : W p l e R s m args below meth c H locs cells slots Q (F0 m (pc + 1) ls (.int x :: rest))) : W p l e R s m args below meth c H locs cells slots Q (F0 m pc ls (.int i :: .ref (G.1 + o) :: rest)) := by
  obtain ⟨n, f, he, hin, rfl⟩ := m_ai_inv hq
  exact va_cald hx hb hK.1 hR.2.1 o 1 (m_ws_at he) rfl hin hdg kk
theorem m_Waald (hx : p.tables.exec = Jvm.exec) (hb : c.code = cc) (hK : m_KS G s) (hR : m_Rel G h H) {o : Nat} {i : Int32} {x : Nat} (hq : m_ar h o i = some x) (hdg : decode cc pc = .ok (.aaload, 1))
    (kk : W p l e R s m args below meth c H locs cells slots Q (F0 m (pc + 1) ls (.ref (G.1 + x) :: rest))) : W p l e R s m args below meth c H locs cells slots Q (F0 m pc ls (.int i :: .ref (G.1 + o) :: rest)) := by
  obtain ⟨n, f, he, hin, hf⟩ := m_ar_inv hq
  refine va_aldq hx hb hK.1 hR.2.1 o 2 (m_ws_at he) rfl hin hdg ?_
  rw [hf]
  exact kk
theorem m_Wiast (hx : p.tables.exec = Jvm.exec) (hb : c.code = cc) (hK : m_KS G s) (hR : m_Rel G h H) (hS : va_S (m_A G) s.heap H locs) (hc : s.heap.size + cells = H.size) {o : Nat} {i x : Int32} (hq : m_pi h o 0 i x = some h') (hdg : decode cc pc = .ok (.iastore, 1))
    (kk : ∀ (H1 : Heap) (locs1 : List Loc), m_Rel G h' H1 → va_S (m_A G) s.heap H1 locs1 → s.heap.size + cells = H1.size → W p l e R s m args below meth c H1 locs1 cells slots Q (F0 m (pc + 1) ls rest)) : W p l e R s m args below meth c H locs cells slots Q (F0 m pc ls (.int x :: .int i :: .ref (G.1 + o) :: rest)) := by
  obtain ⟨n, f, he, hin, rfl⟩ := m_pi_inv hq
  refine va_iast hx hb hK.1 hR.2.1 m_ws_D (m_S_here hS) o 0 (m_ws_at he) rfl hin hdg fun H1 locs1 hP1 hD1 hS1 => ?_
  refine m_Wsize hc hS1.1 fun hz => ?_
  exact kk H1 locs1 (m_Rel_set hR he hz hP1 hS1) (m_S_trans hS hS1) (by rw [hz]; exact hc)
theorem m_Wcast (hx : p.tables.exec = Jvm.exec) (hb : c.code = cc) (hK : m_KS G s) (hR : m_Rel G h H) (hS : va_S (m_A G) s.heap H locs) (hc : s.heap.size + cells = H.size) {o : Nat} {i x : Int32} (hq : m_pi h o 1 i (vp_nar .char x) = some h') (hdg : decode cc pc = .ok (.castore, 1))
    (kk : ∀ (H1 : Heap) (locs1 : List Loc), m_Rel G h' H1 → va_S (m_A G) s.heap H1 locs1 → s.heap.size + cells = H1.size → W p l e R s m args below meth c H1 locs1 cells slots Q (F0 m (pc + 1) ls rest)) : W p l e R s m args below meth c H locs cells slots Q (F0 m pc ls (.int x :: .int i :: .ref (G.1 + o) :: rest)) := by
  obtain ⟨n, f, he, hin, rfl⟩ := m_pi_inv hq
  refine va_cast hx hb hK.1 hR.2.1 m_ws_D (m_S_here hS) o 1 (m_ws_at he) rfl hin hdg fun H1 locs1 hP1 hD1 hS1 => ?_
  refine m_Wsize hc hS1.1 fun hz => ?_
  exact kk H1 locs1 (m_Rel_set hR he hz hP1 hS1) (m_S_trans hS hS1) (by rw [hz]; exact hc)
theorem m_Waast (hx : p.tables.exec = Jvm.exec) (hb : c.code = cc) (hK : m_KS G s) (hR : m_Rel G h H) (hS : va_S (m_A G) s.heap H locs) (hc : s.heap.size + cells = H.size) {o x : Nat} {i : Int32} (hq : m_pr h o i x = some h') (hdg : decode cc pc = .ok (.aastore, 1))
    (kk : ∀ (H1 : Heap) (locs1 : List Loc), m_Rel G h' H1 → va_S (m_A G) s.heap H1 locs1 → s.heap.size + cells = H1.size → W p l e R s m args below meth c H1 locs1 cells slots Q (F0 m (pc + 1) ls rest)) : W p l e R s m args below meth c H locs cells slots Q (F0 m pc ls (.ref (G.1 + x) :: .int i :: .ref (G.1 + o) :: rest)) := by
  obtain ⟨n, f, he, hin, hx1, rfl⟩ := m_pr_inv hq
  obtain ⟨fs, hxc⟩ := m_cls_inv hx1
  refine va_astq (r := m_C 1) hx hb hK.1 hR.2.1 m_ws_D (m_S_here hS) o 2 x 1 (m_ws_at he) rfl (m_ws_at hxc) rfl hin hdg fun H1 locs1 hP1 hD1 hS1 => ?_
  refine m_Wsize hc hS1.1 fun hz => ?_
  refine kk H1 locs1 (m_Rel_set hR he hz ?_ hS1) (m_S_trans hS hS1) (by rw [hz]; exact hc)
  have e1 : (fun j => (va_up f i.toNatClampNeg (some x) j).map (fun i => G.1 + i)) = va_up (fun j => (f j).map (fun i => G.1 + i)) i.toNatClampNeg (some (G.1 + x)) := by
    funext j
    unfold va_up
    by_cases hj : j = i.toNatClampNeg
    · simp [hj]
    · simp [hj]
  show va_P _ _ ((m_ws G h).set o (G.1 + o, .inl (G.2.2.2.1 2, n, .inr (.inr (.inr (.inr (fun j => (va_up f i.toNatClampNeg (some x) j).map (fun i => G.1 + i)))))))) H1
  rw [e1]
  exact hP1
theorem m_Walen (hx : p.tables.exec = Jvm.exec) (hb : c.code = cc) (hK : m_KS G s) (hR : m_Rel G h H) {o : Nat} {x : Int32} (hq : m_al h o = some x) (hdg : decode cc pc = .ok (.arraylength, 1))
    (kk : W p l e R s m args below meth c H locs cells slots Q (F0 m (pc + 1) ls (.int x :: rest))) : W p l e R s m args below meth c H locs cells slots Q (F0 m pc ls (.ref (G.1 + o) :: rest)) := by
  obtain ⟨t, z, he, h3, rfl⟩ := m_al_inv hq
  have e1 : Int32.ofNat (m_tA G z).1 = Int32.ofNat z.1 := by rw [m_tA_1]
  match t, h3, he with
  | 0, _, he => exact va_alen hx hb hK.1 hR.2.1 o 0 (m_ws_at he) rfl e1 hdg kk
  | 1, _, he => exact va_alen hx hb hK.1 hR.2.1 o 1 (m_ws_at he) rfl e1 hdg kk
  | 2, _, he => exact va_alen hx hb hK.1 hR.2.1 o 2 (m_ws_at he) rfl e1 hdg kk
  | n + 3, h3, _ => exact absurd h3 (Nat.not_lt.mpr (Nat.le_add_left 3 n))
/-- behind a new cell -/
theorem m_Rel_new {A : Nat → Prop} (hR : m_Rel G h H) {e1 : va_E} {q : Nat} {H1 : Heap} {locs1 : List Loc} (hz : H1.size ≤ H.size + 1) (hP : va_P G.2.2.1 vwCl (m_ws G h ++ [(q, m_tE G e1)]) H1) (hD : va_D (m_A G) (m_ws G h ++ [(q, m_tE G e1)])) (hS : va_S (m_A G) H H1 locs1) : q = G.1 + h.length ∧ m_Rel G (h ++ [e1]) H1 ∧ H1.size = H.size + 1 := by
  have hlen : (m_ws G h).length = h.length := by simp [m_ws]
  have hl : (m_ws G h ++ [(q, m_tE G e1)])[h.length]? = some (q, m_tE G e1) := by
    rw [List.getElem?_append_right (by omega)]
    simp [hlen]
  have hq1 : q < H1.size := (hP h.length _ hl).lt
  have hq2 : G.1 ≤ q := hD.2 h.length _ hl
  have hq3 : ¬ q < G.1 + h.length := by
    intro hlt
    have hlt' : q - G.1 < h.length := by omega
    have he := List.getElem?_eq_getElem hlt'
    have h1 := m_ws_at (G := G) he
    have h2 : (m_ws G h ++ [(q, m_tE G e1)])[q - G.1]? = some (G.1 + (q - G.1), m_tE G h[q - G.1]) := by
      rw [List.getElem?_append_left (by omega)]
      exact h1
    have h3 := hD.1 (q - G.1) h.length _ _ h2 hl (by dsimp only; omega)
    omega
  have hR1 := hR.1
  have hqe : q = G.1 + h.length := by omega
  refine ⟨hqe, ⟨by simp; omega, by rw [m_ws_push, ← hqe]; exact hP, fun z hz => ?_⟩, by omega⟩
  rw [hS.2.1 z (by omega) (by unfold m_A; omega)]
  exact hR.2.2 z hz
theorem m_Wsize1 (hc : s.heap.size + cells = H.size) {H1 : Heap} {locs1 : List Loc} {g : JFrame} (k : H1.size ≤ H.size + 1 → W p l e R s m args below meth c H1 locs1 (cells + 1) slots Q g) : W p l e R s m args below meth c H1 locs1 (cells + 1) slots Q g := by
  intro T hT X
  have h1 : T.heap.size ≤ s.heap.size + (cells + 1) := X.heapSize
  rw [hT] at h1
  exact k (by omega) T hT X
theorem m_def_ok : ∀ c, c < 9 → ∀ j, j < (m_C c).2.2 → defaultValue (m_ty c j) = vp_V (m_def c) j := by decide +kernel
theorem m_def_tv (G : m_GT) : ∀ c, (m_def c).map (m_tv G) = m_def c := by
  intro c
  unfold m_def
  split <;> rfl
theorem m_Wnew (hx : p.tables.exec = Jvm.exec) (hb : c.code = cc) (hts : ∀ w ∈ m_tbl, w.before args s = true) {own : String} (hownC : s.vm.findClass own = some m.cls) (hK : m_KS G s) (hR : m_Rel G h H) (hS : va_S (m_A G) s.heap H locs) (hbase : G.1 ≤ s.heap.size) (hc : s.heap.size + cells = H.size) {ci idx : Nat} (hci : ci < 9) (hlink : Cond.classLink own idx (m_C ci).1 ∈ m_tbl) (hcells : cells + 1 ≤ R.cells) (hslots : slots + (m_C ci).2.2 ≤ R.slots) (hdg : decode cc pc = .ok (.new idx, 3))
    (kk : ∀ (H1 : Heap) (locs1 : List Loc), m_Rel G (h ++ [.inr (ci, m_def ci)]) H1 → va_S (m_A G) s.heap H1 locs1 → s.heap.size + (cells + 1) = H1.size → W p l e R s m args below meth c H1 locs1 (cells + 1) (slots + (m_C ci).2.2) Q (F0 m (pc + 3) ls (.ref (G.1 + h.length) :: rest))) : W p l e R s m args below meth c H locs cells slots Q (F0 m pc ls rest) := by
  have hw := m_newAt ci hci
  simp only [Bool.and_eq_true] at hw
  have hm1 := m_in (m_w_mem hw.1) rfl
  have hm2 := m_in (m_w_mem hw.2) rfl
  refine va_new (D := G.2.2.1) (cl := vwCl) (tys := m_tys G) (ws := m_ws G h) (C := (m_C ci).1) (T := (m_C ci).2.1) (N := (m_C ci).2.2) (ci := ci) (own := own) (index := idx) (fs := m_def ci) hx hb hts (m_fldIn ci hci) (m_ty ci) (m_tyAt ci hci) hownC (hts _ hlink) (hts _ hm1) (hts _ hm2) hK.1 hR.2.1 m_ws_D (m_S_here hS) (fun q hq => Nat.le_trans hbase (Nat.le_trans hS.1 hq)) (m_clAt ci hci) (m_def_ok ci hci) hcells hslots hdg fun q H1 hP1 hD1 hS1 => ?_
  refine m_Wsize1 hc fun hz => ?_
  have e1 : m_tE G (.inr (ci, m_def ci)) = .inr (ci, m_def ci) := by
    show (Sum.inr (ci, (m_def ci).map (m_tv G)) : va_E) = _
    rw [m_def_tv]
  obtain ⟨rfl, hR1, hz1⟩ := m_Rel_new (A := m_A G) (e1 := .inr (ci, m_def ci)) hR hz (by rw [e1]; exact hP1) (by rw [e1]; exact hD1) hS1
  exact kk H1 locs hR1 (m_S_trans hS hS1) (by omega)
theorem m_Wnewi (hx : p.tables.exec = Jvm.exec) (hb : c.code = cc) (hts : ∀ w ∈ m_tbl, w.before args s = true) (hK : m_KS G s) (hR : m_Rel G h H) (hS : va_S (m_A G) s.heap H locs) (hbase : G.1 ≤ s.heap.size) (hc : s.heap.size + cells = H.size) {n : Int32} (hn : ¬ (n < 0 ∨ 100000 < n.toNatClampNeg)) (hcells : cells + 1 ≤ R.cells) (hslots : slots + n.toNatClampNeg ≤ R.slots) (hdg : decode cc pc = .ok (.newarray .int, 2))
    (kk : ∀ (H1 : Heap) (locs1 : List Loc), m_Rel G (h ++ [.inl (0, n.toNatClampNeg, .inl fun _ => 0)]) H1 → va_S (m_A G) s.heap H1 locs1 → s.heap.size + (cells + 1) = H1.size → W p l e R s m args below meth c H1 locs1 (cells + 1) (slots + n.toNatClampNeg) Q (F0 m (pc + 2) ls (.ref (G.1 + h.length) :: rest))) : W p l e R s m args below meth c H locs cells slots Q (F0 m pc ls (.int n :: rest)) := by
  refine va_newa (atype := .int) (ty := .int) (D := G.2.2.1) (cl := vwCl) (tys := m_tys G) (ws := m_ws G h) (a0 := (n.toNatClampNeg, .inl fun _ => 0)) hx hb (hts _ (m_in m_mem_int rfl)) rfl hK.1 hR.2.1 m_ws_D (m_S_here hS) (fun q hq => Nat.le_trans hbase (Nat.le_trans hS.1 hq)) (fun _ => rfl) (fun q => hn (Or.inl q)) rfl (by have := fun q => hn (Or.inr q); show n.toNatClampNeg * 4 ≤ 536870912; omega) hcells hslots hdg fun q cA H1 hK1 hP1 hD1 hS1 => ?_
  refine m_Wsize1 hc fun hz => ?_
  have e0 : cA = G.2.2.2.1 0 := Option.some.inj ((hK1.2 3 (cA, .int) rfl).2.symm.trans (hK.1.2 0 (G.2.2.2.1 0, .int) rfl).2)
  subst e0
  obtain ⟨rfl, hR1, hz1⟩ := m_Rel_new (A := m_A G) (e1 := .inl (0, n.toNatClampNeg, .inl fun _ => 0)) hR hz hP1 hD1 hS1
  exact kk H1 locs hR1 (m_S_trans hS hS1) (by omega)
theorem m_Wnewc (hx : p.tables.exec = Jvm.exec) (hb : c.code = cc) (hts : ∀ w ∈ m_tbl, w.before args s = true) (hK : m_KS G s) (hR : m_Rel G h H) (hS : va_S (m_A G) s.heap H locs) (hbase : G.1 ≤ s.heap.size) (hc : s.heap.size + cells = H.size) {n : Int32} (hn : ¬ (n < 0 ∨ 100000 < n.toNatClampNeg)) (hcells : cells + 1 ≤ R.cells) (hslots : slots + n.toNatClampNeg ≤ R.slots) (hdg : decode cc pc = .ok (.newarray .char, 2))
    (kk : ∀ (H1 : Heap) (locs1 : List Loc), m_Rel G (h ++ [.inl (1, n.toNatClampNeg, .inl fun _ => 0)]) H1 → va_S (m_A G) s.heap H1 locs1 → s.heap.size + (cells + 1) = H1.size → W p l e R s m args below meth c H1 locs1 (cells + 1) (slots + n.toNatClampNeg) Q (F0 m (pc + 2) ls (.ref (G.1 + h.length) :: rest))) : W p l e R s m args below meth c H locs cells slots Q (F0 m pc ls (.int n :: rest)) := by
  refine va_newa (atype := .char) (ty := .char) (D := G.2.2.1) (cl := vwCl) (tys := m_tys G) (ws := m_ws G h) (a0 := (n.toNatClampNeg, .inl fun _ => 0)) hx hb (hts _ (m_in m_mem_char rfl)) rfl hK.1 hR.2.1 m_ws_D (m_S_here hS) (fun q hq => Nat.le_trans hbase (Nat.le_trans hS.1 hq)) (fun _ => rfl) (fun q => hn (Or.inl q)) rfl (by have := fun q => hn (Or.inr q); show n.toNatClampNeg * 2 ≤ 536870912; omega) hcells hslots hdg fun q cA H1 hK1 hP1 hD1 hS1 => ?_
  refine m_Wsize1 hc fun hz => ?_
  have e0 : cA = G.2.2.2.1 1 := Option.some.inj ((hK1.2 3 (cA, .char) rfl).2.symm.trans (hK.1.2 1 (G.2.2.2.1 1, .char) rfl).2)
  subst e0
  obtain ⟨rfl, hR1, hz1⟩ := m_Rel_new (A := m_A G) (e1 := .inl (1, n.toNatClampNeg, .inl fun _ => 0)) hR hz hP1 hD1 hS1
  exact kk H1 locs hR1 (m_S_trans hS hS1) (by omega)
theorem m_Wnewq (hx : p.tables.exec = Jvm.exec) (hb : c.code = cc) (hts : ∀ w ∈ m_tbl, w.before args s = true) {own : String} (hownC : s.vm.findClass own = some m.cls) (hK : m_KS G s) (hR : m_Rel G h H) (hS : va_S (m_A G) s.heap H locs) (hbase : G.1 ≤ s.heap.size) (hc : s.heap.size + cells = H.size) {idx : Nat} (hlink : Cond.classLink own idx RX1 ∈ m_tbl) {n : Int32} (hn : ¬ (n < 0 ∨ 100000 < n.toNatClampNeg)) (hcells : cells + 1 ≤ R.cells) (hslots : slots + n.toNatClampNeg ≤ R.slots) (hdg : decode cc pc = .ok (.anewarray idx, 3))
    (kk : ∀ (H1 : Heap) (locs1 : List Loc), m_Rel G (h ++ [.inl (2, n.toNatClampNeg, .inr (.inr (.inr (.inr fun _ => none))))]) H1 → va_S (m_A G) s.heap H1 locs1 → s.heap.size + (cells + 1) = H1.size → W p l e R s m args below meth c H1 locs1 (cells + 1) (slots + n.toNatClampNeg) Q (F0 m (pc + 3) ls (.ref (G.1 + h.length) :: rest))) : W p l e R s m args below meth c H locs cells slots Q (F0 m pc ls (.int n :: rest)) := by
  refine va_newq (C := RX1) (own := own) (D := G.2.2.1) (cl := vwCl) (tys := m_tys G) (ws := m_ws G h) hx hb hownC (hts _ hlink) hK.2.1 hK.1 hR.2.1 m_ws_D (m_S_here hS) (fun q hq => Nat.le_trans hbase (Nat.le_trans hS.1 hq)) (fun q => hn (Or.inl q)) rfl (by have := fun q => hn (Or.inr q); omega) hcells hslots hdg fun q cA H1 hK1 hP1 hD1 hS1 => ?_
  refine m_Wsize1 hc fun hz => ?_
  have e0 : cA = G.2.2.2.1 2 := by
    obtain ⟨_, _, _, _, _, h1⟩ := (hK1.2 3 (cA, .object RX1) rfl).2
    obtain ⟨_, _, _, _, _, h2⟩ := (hK.1.2 2 (G.2.2.2.1 2, .object "OracleWheel$Moment") rfl).2
    exact Option.some.inj (h1.symm.trans h2)
  subst e0
  obtain ⟨rfl, hR1, hz1⟩ := m_Rel_new (A := m_A G) (e1 := .inl (2, n.toNatClampNeg, .inr (.inr (.inr (.inr fun _ => none))))) hR hz hP1 hD1 hS1
  exact kk H1 locs hR1 (m_S_trans hS hS1) (by omega)
end MROW
