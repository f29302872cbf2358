/-! Text, Sightings, Shelf, Moment.start -/
theorem nar_c : ∀ c : Nat, c < 128 → vp_nar .char (nI c) = nI c := by decide
/-- T 0 letters, T 1 0 their number -/
def TxA (h : MH) (a : Nat) (T : LT) : Prop := h[a]? = some (kTx a (fun k => nI (T 1 (k - 1)))) ∧ h[a + 1]? = some (kC 200 (fun i => nI (T 0 i)))
/-- S 0 words, S 1 hours, S 2 0 held -/
def SeA (h : MH) (a : Nat) (S : LT) : Prop := h[a]? = some (kSe a (fun k => nI (S 2 (k - 2)))) ∧ h[a + 1]? = some (kI 6 (fun i => nI (S 0 i))) ∧ h[a + 2]? = some (kI 6 (fun i => nI (S 1 i)))
def AgM (M M' : LT) : Prop := ∀ r i, r ≤ 2 → i < 4 → M r i = M' r i
/-- the moments of a shelf, the latest first -/
def ShA (h : MH) (a n nx hd : Nat) (P : Nat → LT) : Prop := nx < n ∧ hd ≤ n ∧ h[a]? = some (kSh a (fun k => if k = 1 then nI nx else nI hd)) ∧ h[a + 1]? = some (kQ n (fun i => if i < n then some (a + 2 + 3 * i) else none)) ∧ ∀ j, j < n → ∃ M, MoA h (a + 2 + 3 * ((nx + n - 1 - j) % n)) M ∧ AgM M (P j) ∧ M 2 3 ≤ 1
theorem AgM.rf (M : LT) : AgM M M := fun _ _ _ _ => rfl
theorem AgM.sy {M M' : LT} (a : AgM M M') : AgM M' M := fun r i h1 h2 => (a r i h1 h2).symm
theorem AgM.tr {M M1 M2 : LT} (a : AgM M M1) (b : AgM M1 M2) : AgM M M2 := fun r i h1 h2 => (a r i h1 h2).trans (b r i h1 h2)
theorem cpL_ag (M M2 : LT) : AgM (cpL M M2) M2 := by
  intro r i h1 h2
  unfold cpL
  by_cases h : r = 2
  · subst h; simp [h2]
  · have : r < 2 := by omega
    simp [h, h2, this]
theorem Fr.tx {lo hi a : Nat} {h h' : MH} {T : LT} (f : Fr lo hi h h') (hb : a + 2 ≤ lo ∨ hi ≤ a) (e : TxA h a T) : TxA h' a T := ⟨f.at (by omega) e.1, f.at (by omega) e.2⟩
theorem Fr.se {lo hi a : Nat} {h h' : MH} {S : LT} (f : Fr lo hi h h') (hb : a + 3 ≤ lo ∨ hi ≤ a) (e : SeA h a S) : SeA h' a S := ⟨f.at (by omega) e.1, f.at (by omega) e.2.1, f.at (by omega) e.2.2⟩
theorem Fr.sh {lo hi a n nx hd : Nat} {h h' : MH} {P : Nat → LT} (f : Fr lo hi h h') (hb : a + 2 + 3 * n ≤ lo ∨ hi ≤ a) (e : ShA h a n nx hd P) : ShA h' a n nx hd P := by
  obtain ⟨h1, h2, e0, e1, e2⟩ := e
  refine ⟨h1, h2, f.at (by omega) e0, f.at (by omega) e1, fun j hj => ?_⟩
  obtain ⟨M, q1, q2, q3⟩ := e2 j hj
  have : (nx + n - 1 - j) % n < n := Nat.mod_lt _ (by omega)
  exact ⟨M, f.mo (by omega) q1, q2, q3⟩
theorem txF {h : MH} {a : Nat} {T : LT} (e : TxA h a T) : m_cls h a = some 6 ∧ m_fi h a 6 1 = some (nI (T 1 0)) ∧ m_fr h a 6 0 = some (a + 1) ∧ m_al h (a + 1) = some (nI 200) ∧ (∀ k, k < 200 → m_ai h (a + 1) 1 (nI k) = some (nI (T 0 k))) := by
  obtain ⟨e0, e1⟩ := e
  exact ⟨cls_e e0, fi_e e0 rfl, fr_e e0 rfl, al_e e1 (by decide), fun k hk => ai_e e1 hk (by decide)⟩
theorem seF {h : MH} {a : Nat} {S : LT} (e : SeA h a S) : m_cls h a = some 5 ∧ m_fi h a 5 2 = some (nI (S 2 0)) ∧ m_fr h a 5 0 = some (a + 1) ∧ m_fr h a 5 1 = some (a + 2) ∧ (∀ k, k < 6 → m_ai h (a + 1) 0 (nI k) = some (nI (S 0 k))) ∧ (∀ k, k < 6 → m_ai h (a + 2) 0 (nI k) = some (nI (S 1 k))) := by
  obtain ⟨e0, e1, e2⟩ := e
  exact ⟨cls_e e0, fi_e e0 rfl, fr_e e0 rfl, fr_e e0 rfl, fun k hk => ai_e e1 hk (by decide), fun k hk => ai_e e2 hk (by decide)⟩
theorem shF {h : MH} {a n nx hd : Nat} {P : Nat → LT} (e : ShA h a n nx hd P) (hn : n < 2 ^ 31) : m_cls h a = some 4 ∧ m_fi h a 4 1 = some (nI nx) ∧ m_fi h a 4 2 = some (nI hd) ∧ m_fr h a 4 0 = some (a + 1) ∧ m_al h (a + 1) = some (nI n) ∧ (∀ k, k < n → m_ar h (a + 1) (nI k) = some (a + 2 + 3 * k)) := by
  obtain ⟨h1, h2, e0, e1, e2⟩ := e
  exact ⟨cls_e e0, fi_e e0 rfl, fi_e e0 rfl, fr_e e0 rfl, al_e e1 (by decide), fun k hk => ar_e e1 hk hn (if_pos hk)⟩
-- writes
theorem txW0 {h : MH} {a : Nat} {T : LT} (e : TxA h a T) {k : Nat} (x : Nat) (hk : k < 200) : ∃ h', m_pi h (a + 1) 1 (nI k) (nI x) = some h' ∧ TxA h' a (uL T 0 k x) ∧ Fr a (a + 2) h h' := by
  obtain ⟨e0, e1⟩ := e
  refine ⟨_, pi_e e1 hk (by decide), ⟨st_ne (by omega) e0, ?_⟩, Fr.st (by omega) (by omega)⟩
  rw [st_eq e1, upd_nI]
  simp [uL]
theorem txW1 {h : MH} {a : Nat} {T : LT} (e : TxA h a T) (x : Nat) : ∃ h', m_pf h a 6 1 (.int (nI x)) = some h' ∧ TxA h' a (uL T 1 0 x) ∧ Fr a (a + 2) h h' := by
  obtain ⟨e0, e1⟩ := e
  refine ⟨_, pf_e e0 (by show 1 < 2; omega), ⟨?_, st_ne (by omega) e1⟩, Fr.st (by omega) (by omega)⟩
  rw [st_eq e0]
  simp [kTx, uL]
theorem seW0 {h : MH} {a : Nat} {S : LT} (e : SeA h a S) {k : Nat} (x : Nat) (hk : k < 6) : ∃ h', m_pi h (a + 1) 0 (nI k) (nI x) = some h' ∧ SeA h' a (uL S 0 k x) ∧ Fr a (a + 3) h h' := by
  obtain ⟨e0, e1, e2⟩ := e
  refine ⟨_, pi_e e1 hk (by decide), ⟨st_ne (by omega) e0, ?_, st_ne (by omega) e2⟩, Fr.st (by omega) (by omega)⟩
  rw [st_eq e1, upd_nI]
  simp [uL]
theorem seW1 {h : MH} {a : Nat} {S : LT} (e : SeA h a S) {k : Nat} (x : Nat) (hk : k < 6) : ∃ h', m_pi h (a + 2) 0 (nI k) (nI x) = some h' ∧ SeA h' a (uL S 1 k x) ∧ Fr a (a + 3) h h' := by
  obtain ⟨e0, e1, e2⟩ := e
  refine ⟨_, pi_e e2 hk (by decide), ⟨st_ne (by omega) e0, st_ne (by omega) e1, ?_⟩, Fr.st (by omega) (by omega)⟩
  rw [st_eq e2, upd_nI]
  simp [uL]
theorem seW2 {h : MH} {a : Nat} {S : LT} (e : SeA h a S) (x : Nat) : ∃ h', m_pf h a 5 2 (.int (nI x)) = some h' ∧ SeA h' a (uL S 2 0 x) ∧ Fr a (a + 3) h h' := by
  obtain ⟨e0, e1, e2⟩ := e
  refine ⟨_, pf_e e0 (by show 2 < 3; omega), ⟨?_, st_ne (by omega) e1, st_ne (by omega) e2⟩, Fr.st (by omega) (by omega)⟩
  rw [st_eq e0]
  simp [kSe, uL]
section
variable {y k : Nat} {ls : ML} {r : List Value} {h : MH} {g m a n nx hd : Nat} {L M T S : LT} {P : Nat → LT}
-- Text
theorem c_letterAt (e : TxA h a T) (hn : T 1 0 ≤ 200) {i : Nat} (hi : i < 2 ^ 31) (hT : ∀ i, i < T 1 0 → T 0 i < 128) : m_call m_ev 57 y k [.ref a, .int (nI i)] ls r h = m_ev y k ls (.int (nI (if i < T 1 0 then T 0 i else 0)) :: r) h := by
  refine cl_v ?_
  show m_ev 57 0 [some (.ref a), some (.int (nI i))] [] h = _
  have n0 := nar_c 0 (by omega)
  by_cases hc : i < T 1 0
  · have n1 := nar_c _ (hT i hc)
    simp (disch := omega) only [b57_0, b57_2, b57_6, b57_11, b57_16, txF e, Option.bind_some, nI_ltI, nI_leI, n0, n1, if_true, if_pos hc]
    (repeat' split) <;> first | rfl | (exfalso; omega)
  · simp (disch := omega) only [b57_0, b57_2, b57_6, b57_16, txF e, Option.bind_some, nI_ltI, nI_leI, n0, if_true, if_neg hc]
    (repeat' split) <;> first | rfl | (exfalso; omega)
theorem c_append_no (e : TxA h a T) (hn : T 1 0 = 200) {x : Int32} : m_call m_ev 56 y k [.ref a, .int x] ls r h = m_ev y k ls (.int (nI 0) :: r) h := by
  refine cl_v ?_
  show m_ev 56 0 [some (.ref a), some (.int x)] [] h = _
  simp (disch := omega) only [b56_0, b56_3, b56_9, txF e, Option.bind_some, nI_ltI, hn]
  (repeat' split) <;> first | rfl | (exfalso; omega)
def apL (T : LT) (c : Nat) : LT := uL (uL T 0 (T 1 0) c) 1 0 (T 1 0 + 1)
theorem c_append (e : TxA h a T) (hn : T 1 0 < 200) {c : Nat} (hc : c < 128) : ∃ h', m_call m_ev 56 y k [.ref a, .int (nI c)] ls r h = m_ev y k ls (.int (nI 1) :: r) h' ∧ TxA h' a (apL T c) ∧ Fr a (a + 2) h h' := by
  obtain ⟨h1, q1, e1, f1⟩ := txW0 e c hn
  obtain ⟨h2, q2, e2, f2⟩ := txW1 e1 (T 1 0 + 1)
  have hu : (uL T 0 (T 1 0) c) 1 0 = T 1 0 := uL_r _ _ _ _ (by omega)
  refine ⟨h2, cl_v ?_, e2, f1.tr f2⟩
  show m_ev 56 0 [some (.ref a), some (.int (nI c))] [] h = _
  simp (disch := omega) only [b56_0, b56_3, b56_11, txF e, txF e1, hu, Option.bind_some, nI_ltI, nar_c, q1, nI_add, q2]
  (repeat' split) <;> first | rfl | (exfalso; omega)
-- Sightings
def adL (S : LT) (w t : Nat) : LT := uL (uL (uL S 0 (S 2 0) w) 1 (S 2 0) t) 2 0 (S 2 0 + 1)
theorem c_add (e : SeA h a S) (hn : S 2 0 < 6) (w t : Nat) : ∃ h', m_call m_ev 53 y k [.ref a, .int (nI w), .int (nI t)] ls r h = m_ev y k ls (.int (nI 1) :: r) h' ∧ SeA h' a (adL S w t) ∧ Fr a (a + 3) h h' := by
  obtain ⟨h1, q1, e1, f1⟩ := seW0 e w hn
  obtain ⟨h2, q2, e2, f2⟩ := seW1 e1 t hn
  obtain ⟨h3, q3, e3, f3⟩ := seW2 e2 (S 2 0 + 1)
  have hu : (uL S 0 (S 2 0) w) 2 0 = S 2 0 := uL_r _ _ _ _ (by omega)
  have hu2 : (uL (uL S 0 (S 2 0) w) 1 (S 2 0) t) 2 0 = S 2 0 := by rw [uL_r _ _ _ _ (by omega), hu]
  refine ⟨h3, cl_v ?_, e3, (f1.tr f2).tr f3⟩
  show m_ev 53 0 [some (.ref a), some (.int (nI w)), some (.int (nI t))] [] h = _
  simp (disch := omega) only [b53_0, b53_3, b53_9, seF e, seF e1, seF e2, hu, hu2, Option.bind_some, nI_ltI, q1, q2, nI_add, q3]
  (repeat' split) <;> first | rfl | (exfalso; omega)
theorem c_add_no (e : SeA h a S) (hn : S 2 0 = 6) {x x' : Int32} : m_call m_ev 53 y k [.ref a, .int x, .int x'] ls r h = m_ev y k ls (.int (nI 0) :: r) h := by
  refine cl_v ?_
  show m_ev 53 0 [some (.ref a), some (.int x), some (.int x')] [] h = _
  simp (disch := omega) only [b53_0, b53_3, b53_7, seF e, Option.bind_some, nI_ltI, hn]
  (repeat' split) <;> first | rfl | (exfalso; omega)
/-- the sightings fit this law -/
def fitL (L M S : LT) (s ev : Nat) (i : Nat) : Bool := L 0 (spotL L M s ev (S 1 i)) == S 0 i
theorem fits_loop (e : HiA h g L) (f : MoA h m M) (q : SeA h a S) (wf : WfH L) (wm : WfM L M 30000) (hn : S 2 0 ≤ 6) (hS : ∀ i, i < S 2 0 → S 0 i < 2 ^ 31 ∧ S 1 i ≤ 1000) {s ev : Nat} (hs : s ≤ 11) (he : 1 ≤ ev ∧ ev ≤ 24) : ∀ (d i : Nat), i + d = S 2 0 → m_ev 54 2 [some (.ref a), some (.ref g), some (.ref m), some (.int (nI s)), some (.int (nI ev)), some (.int (nI i))] [] h = some (some (.int (nI (b01 (alL (fitL L M S s ev) d i)))), h) := by
  have wf0 := wf
  obtain ⟨w1, w2, w3, w4, w5, w6, w7, w8, w9, w10, w11, w12, w13⟩ := wf0
  intro d
  induction d with
  | zero =>
    intro i hi
    obtain rfl : i = S 2 0 := by omega
    rw [b54_2]
    simp (disch := omega) only [b54_29, seF q, Option.bind_some, nI_leI, Nat.le_refl, if_true, alL, b01]
  | succ d ih =>
    intro i hi
    obtain ⟨s1, s2⟩ := hS i (by omega)
    have hni : ¬ S 2 0 ≤ i := by omega
    have hni6 : ¬ 6 ≤ i := by omega
    have hsp := spotL_lt wf M s ev (S 1 i)
    have hlt := w3 _ hsp
    rw [b54_2]
    simp (disch := omega) only [b54_6, b54_9, b54_19, b54_20, b54_25, b54_27, hiF e, moF f, seF q, Option.bind_some, nI_leI, hni, hni6, if_false, if_true, c_spotIn e f wf wm hs he, c_wordAt e w2 hsp, nI_add, nI_eq, ih (i + 1) (by omega), alL, fitL, beq_iff_eq]
    by_cases hc : L 0 (spotL L M s ev (S 1 i)) = S 0 i
    · rw [if_pos hc, if_pos hc]
    · rw [if_neg hc, if_neg hc]; rfl
theorem c_fits (e : HiA h g L) (f : MoA h m M) (q : SeA h a S) (wf : WfH L) (wm : WfM L M 30000) (hn : S 2 0 ≤ 6) (hS : ∀ i, i < S 2 0 → S 0 i < 2 ^ 31 ∧ S 1 i ≤ 1000) {s ev : Nat} (hs : s ≤ 11) (he : 1 ≤ ev ∧ ev ≤ 24) : m_call m_ev 54 y k [.ref a, .ref g, .ref m, .int (nI s), .int (nI ev)] ls r h = m_ev y k ls (.int (nI (b01 (alL (fitL L M S s ev) (S 2 0) 0))) :: r) h := by
  refine cl_v ?_
  show m_ev 54 0 [some (.ref a), some (.ref g), some (.ref m), some (.int (nI s)), some (.int (nI ev)), none] [] h = _
  rw [b54_0]
  exact fits_loop e f q wf wm hn hS hs he (S 2 0) 0 (by omega)
-- Shelf
theorem c_clear (e : ShA h a n nx hd P) : ∃ h', m_call m_ev 49 y k [.ref a] ls r h = m_ev y k ls r h' ∧ ShA h' a n nx 0 P ∧ Fr a (a + 1) h h' := by
  obtain ⟨h1, h2, e0, e1, e2⟩ := e
  have fr : Fr a (a + 1) h (h.set a (kSh a (fun k => if k = 1 then nI nx else nI 0))) := Fr.st (by omega) (by omega)
  refine ⟨_, cl_0 (h' := h.set a (kSh a (fun k => if k = 1 then nI nx else nI 0))) ?_, ⟨h1, by omega, st_eq e0, fr.at (by omega) e1, fun j hj => ?_⟩, fr⟩
  · show m_ev 49 0 [some (.ref a)] [] h = _
    rw [b49_0, pf_e e0 (by show 2 < 3; omega)]
    rfl
  · obtain ⟨M, q1, q2, q3⟩ := e2 j hj
    exact ⟨M, fr.mo (by omega) q1, q2, q3⟩
def puS (P : Nat → LT) (M : LT) : Nat → LT := fun j => if j = 0 then M else P (j - 1)
theorem md_1 {n nx j : Nat} (h1 : nx < n) (hj : j + 1 < n) : ((if nx + 1 < n then nx + 1 else 0) + n - 1 - (j + 1)) % n = (nx + n - 1 - j) % n := by
  split
  · congr 1; omega
  · obtain rfl : n = nx + 1 := by omega
    have e1 : 0 + (nx + 1) - 1 - (j + 1) = nx - (j + 1) := by omega
    have e2 : nx + (nx + 1) - 1 - j = (nx - (j + 1)) + (nx + 1) := by omega
    rw [e1, e2, Nat.add_mod_right]
theorem md_0 {n nx : Nat} (h1 : nx < n) : ((if nx + 1 < n then nx + 1 else 0) + n - 1 - 0) % n = nx := by
  split
  · have : nx + 1 + n - 1 - 0 = nx + n := by omega
    rw [this, Nat.add_mod_right, Nat.mod_eq_of_lt h1]
  · have : 0 + n - 1 - 0 = nx := by omega
    rw [this, Nat.mod_eq_of_lt h1]
theorem md_v {n nx j : Nat} (h1 : nx < n) (hj : j < n) : (nx + n - 1 - j) % n = if j < nx then nx - 1 - j else nx + n - 1 - j := by
  split
  · have : nx + n - 1 - j = (nx - 1 - j) + n := by omega
    rw [this, Nat.add_mod_right, Nat.mod_eq_of_lt (by omega)]
  · rw [Nat.mod_eq_of_lt (by omega)]
theorem kSh_pf {v : Nat → Int32} {x : Int32} (e : h[a]? = some (kSh a v)) {q : Nat} (hq : q = 1 ∨ q = 2) : m_pf h a 4 q (.int x) = some (h.set a (kSh a (upd v q x))) := by
  rw [pf_e e (by show q < 3; omega)]
  rcases hq with rfl | rfl <;> rfl
theorem kSh_F {v : Nat → Int32} (e : h[a]? = some (kSh a v)) (eQ : h[a + 1]? = some (kQ n (fun i => if i < n then some (a + 2 + 3 * i) else none))) : m_cls h a = some 4 ∧ m_fi h a 4 1 = some (v 1) ∧ m_fi h a 4 2 = some (v 2) ∧ m_fr h a 4 0 = some (a + 1) ∧ m_al h (a + 1) = some (nI n) := ⟨cls_e e, fi_e e rfl, fi_e e rfl, fr_e e rfl, al_e eQ (by decide)⟩
theorem sh_slot {nx hd : Nat} (e : ShA h a n nx hd P) {i : Nat} (hi : i < n) : ∃ M, MoA h (a + 2 + 3 * i) M ∧ M 2 3 ≤ 1 := by
  obtain ⟨h1, h2, e0, e1, e2⟩ := e
  by_cases hc : i < nx
  · obtain ⟨M, q1, q2, q3⟩ := e2 (nx - 1 - i) (by omega)
    rw [md_v h1 (by omega)] at q1
    have : (if nx - 1 - i < nx then nx - 1 - (nx - 1 - i) else nx + n - 1 - (nx - 1 - i)) = i := by split <;> omega
    rw [this] at q1
    exact ⟨M, q1, q3⟩
  · obtain ⟨M, q1, q2, q3⟩ := e2 (nx + n - 1 - i) (by omega)
    rw [md_v h1 (by omega)] at q1
    have : (if nx + n - 1 - i < nx then nx - 1 - (nx + n - 1 - i) else nx + n - 1 - (nx + n - 1 - i)) = i := by split <;> omega
    rw [this] at q1
    exact ⟨M, q1, q3⟩
theorem c_push {b : Nat} (e : ShA h a n nx hd P) (f : MoA h b M) (hn : n ≤ 1000) (hb : b + 3 ≤ a ∨ a + 2 + 3 * n ≤ b) (hu : M 2 3 ≤ 1) : ∃ h', m_call m_ev 50 y k [.ref a, .ref b] ls r h = m_ev y k ls r h' ∧ ShA h' a n (if nx + 1 < n then nx + 1 else 0) (min (hd + 1) n) (puS P M) ∧ Fr a (a + 2 + 3 * n) h h' := by
  have e' := e
  obtain ⟨h1, h2, e0, e1, e2⟩ := e'
  obtain ⟨M0, m0, _⟩ := sh_slot e h1
  obtain ⟨h3, q3, e3, f3⟩ := c_copy (y := 50) (k := 17) (ls := [some (.ref a), some (.ref b)]) (r := []) m0 f (by omega) hu
  have g0 := f3.at (b := a) (by omega) e0
  have g1 := f3.at (b := a + 1) (by omega) e1
  have w1 := kSh_pf (x := nI (if nx + 1 < n then nx + 1 else 0)) g0 (Or.inl rfl)
  have g4 := st_eq (x := kSh a (upd (fun k => if k = 1 then nI nx else nI hd) 1 (nI (if nx + 1 < n then nx + 1 else 0)))) g0
  have g5 := st_ne (x := kSh a (upd (fun k => if k = 1 then nI nx else nI hd) 1 (nI (if nx + 1 < n then nx + 1 else 0)))) (show a ≠ a + 1 by omega) g1
  have w2 := kSh_pf (x := nI (min (hd + 1) n)) g4 (Or.inr rfl)
  have fr : Fr a (a + 2 + 3 * n) h3 ((h3.set a (kSh a (upd (fun k => if k = 1 then nI nx else nI hd) 1 (nI (if nx + 1 < n then nx + 1 else 0))))).set a (kSh a (upd (upd (fun k => if k = 1 then nI nx else nI hd) 1 (nI (if nx + 1 < n then nx + 1 else 0))) 2 (nI (min (hd + 1) n))))) := (Fr.st (by omega) (by omega)).tr (Fr.st (by omega) (by omega))
  have fs : Fr a (a + 1) h3 ((h3.set a (kSh a (upd (fun k => if k = 1 then nI nx else nI hd) 1 (nI (if nx + 1 < n then nx + 1 else 0))))).set a (kSh a (upd (upd (fun k => if k = 1 then nI nx else nI hd) 1 (nI (if nx + 1 < n then nx + 1 else 0))) 2 (nI (min (hd + 1) n))))) := (Fr.st (by omega) (by omega)).tr (Fr.st (by omega) (by omega))
  refine ⟨_, cl_0 (h' := _) (show m_ev 50 0 [some (.ref a), some (.ref b)] [] h = some (none, _) from ?_), ⟨?_, by omega, ?_, fs.at (by omega) g1, fun j hj => ?_⟩, (f3.wd (by omega) (by omega)).tr fr⟩
  · have ar := (shF e (by omega)).2.2.2.2.2 nx h1
    have v2 : (upd (fun k => if k = 1 then nI nx else nI hd) 1 (nI (if nx + 1 < n then nx + 1 else 0))) 2 = nI hd := rfl
    have v1 : (upd (fun k => if k = 1 then nI nx else nI hd) 1 (nI (if nx + 1 < n then nx + 1 else 0))) 1 = nI (if nx + 1 < n then nx + 1 else 0) := rfl
    simp (disch := omega) only [b50_0, b50_3, b50_10, kSh_F e0 e1, if_true, Option.bind_some, nI_ltI, Nat.not_lt_zero, if_false, if_pos h1, ar, moF m0, q3]
    by_cases hc : nx + 1 < n
    · simp only [if_pos hc] at w1 w2 g4 g5 v2 v1 ⊢
      simp (disch := omega) only [b50_17, b50_26, b50_42, kSh_F g0 g1, if_true, Option.bind_some, nI_add, nI_leI, if_neg (show ¬ n ≤ nx + 1 by omega), w1, kSh_F g4 g5, v2, c_min, w2]
    · simp only [if_neg hc] at w1 w2 g4 g5 v2 v1 ⊢
      simp (disch := omega) only [b50_17, b50_31, b50_42, kSh_F g0 g1, if_true, Option.bind_some, nI_add, nI_leI, if_pos (show n ≤ nx + 1 by omega), w1, kSh_F g4 g5, v2, c_min, w2]
  · split <;> omega
  · rw [st_eq g4]; rfl
  · by_cases h0 : j = 0
    · subst h0
      refine ⟨cpL M0 M, fs.mo (by omega) ?_, cpL_ag _ _, by simpa [cpL] using hu⟩
      rw [md_0 h1]; exact e3
    · obtain ⟨M1, m1, m2, m3⟩ := e2 (j - 1) (by omega)
      have hm := md_1 (j := j - 1) h1 (by omega)
      rw [show j - 1 + 1 = j by omega] at hm
      refine ⟨M1, ?_, by simpa [puS, h0] using m2, m3⟩
      rw [hm]
      refine fs.mo (by omega) (f3.mo ?_ m1)
      rw [md_v h1 (by omega)]
      split <;> omega
def poS (n : Nat) (P : Nat → LT) : Nat → LT := fun j => if j + 1 < n then P (j + 1) else P 0
theorem c_pop {b : Nat} (e : ShA h a n nx hd P) (f : MoA h b M) (hn : n ≤ 1000) (hb : b + 3 ≤ a ∨ a + 2 + 3 * n ≤ b) (h1d : 1 ≤ hd) : ∃ h1 h' nx' M', m_call m_ev 51 y k [.ref a, .ref b] ls r h = m_ev y k ls r h' ∧ ShA h' a n nx' (hd - 1) (poS n P) ∧ MoA h' b M' ∧ AgM M' (P 0) ∧ M' 2 3 ≤ 1 ∧ Fr b (b + 3) h h1 ∧ Fr a (a + 1) h1 h' := by
  have e' := e
  obtain ⟨h1, h2, e0, e1, e2⟩ := e'
  obtain ⟨Ms, m0, ag, mu⟩ := e2 0 (by omega)
  obtain ⟨lt, hlt⟩ : ∃ lt, lt = if 0 < nx then nx - 1 else n - 1 := ⟨_, rfl⟩
  have hln : lt < n := by rw [hlt]; split <;> omega
  have hl0 : (nx + n - 1 - 0) % n = lt := by rw [md_v h1 (by omega), hlt]; split <;> omega
  rw [hl0] at m0
  obtain ⟨h3, q3, e3, f3⟩ := c_copy (y := 51) (k := 30) (ls := [some (.ref a), some (.ref b), some (.int (nI lt))]) (r := []) f m0 (by omega) mu
  have g0 := f3.at (b := a) (by omega) e0
  have g1 := f3.at (b := a + 1) (by omega) e1
  have w1 := kSh_pf (x := nI lt) g0 (Or.inl rfl)
  have g4 := st_eq (x := kSh a (upd (fun k => if k = 1 then nI nx else nI hd) 1 (nI lt))) g0
  have g5 := st_ne (x := kSh a (upd (fun k => if k = 1 then nI nx else nI hd) 1 (nI lt))) (show a ≠ a + 1 by omega) g1
  have w2 := kSh_pf (x := nI (hd - 1)) g4 (Or.inr rfl)
  have v2 : (upd (fun k => if k = 1 then nI nx else nI hd) 1 (nI lt)) 2 = nI hd := rfl
  have fs : Fr a (a + 1) h3 ((h3.set a (kSh a (upd (fun k => if k = 1 then nI nx else nI hd) 1 (nI lt)))).set a (kSh a (upd (upd (fun k => if k = 1 then nI nx else nI hd) 1 (nI lt)) 2 (nI (hd - 1))))) := (Fr.st (by omega) (by omega)).tr (Fr.st (by omega) (by omega))
  have ar := (shF e (by omega)).2.2.2.2.2 lt hln
  refine ⟨h3, _, lt, cpL M Ms, cl_0 (show m_ev 51 0 [some (.ref a), some (.ref b), none] [] h = some (none, _) from ?_), ⟨hln, by omega, ?_, fs.at (by omega) g1, fun j hj => ?_⟩, fs.mo (by omega) e3, (cpL_ag _ _).tr ag, by simpa [cpL] using mu, f3, fs⟩
  · by_cases hc : 0 < nx
    · have hl : lt = nx - 1 := by rw [hlt, if_pos hc]
      subst hl
      simp (disch := omega) only [b51_0, b51_3, b51_18, b51_24, b51_30, kSh_F e0 e1, if_true, Option.bind_some, nI_ltI, nI_leI, if_neg (show ¬ nx ≤ 0 by omega), nI_subN, if_neg (show ¬ hd < 1 by omega), if_pos hln, ar, moF f, q3, w1, kSh_F g4 g5, v2, w2, if_false, show ¬ 2 = 1 by omega]
    · have hl : lt = n - 1 := by rw [hlt, if_neg hc]
      subst hl
      simp (disch := omega) only [b51_0, b51_8, b51_18, b51_24, b51_30, kSh_F e0 e1, if_true, Option.bind_some, nI_ltI, nI_leI, if_pos (show nx ≤ 0 by omega), nI_subN, if_neg (show ¬ hd < 1 by omega), if_pos hln, ar, moF f, q3, w1, kSh_F g4 g5, v2, w2, if_false, show ¬ 2 = 1 by omega]
  · rw [st_eq g4]; rfl
  · by_cases hc : j + 1 < n
    · obtain ⟨M1, m1, m2, m3⟩ := e2 (j + 1) hc
      have hm : (lt + n - 1 - j) % n = (nx + n - 1 - (j + 1)) % n := by
        rw [md_v hln (by omega), md_v h1 hc, hlt]
        split <;> split <;> (try split) <;> omega
      have hmn : (nx + n - 1 - (j + 1)) % n < n := Nat.mod_lt _ (by omega)
      refine ⟨M1, ?_, by simpa [poS, hc] using m2, m3⟩
      rw [hm]
      exact fs.mo (by omega) (f3.mo (by omega) m1)
    · have hm : (lt + n - 1 - j) % n = lt := by
        rw [md_v hln (by omega)]
        split <;> omega
      refine ⟨Ms, ?_, by simpa [poS, hc] using ag, mu⟩
      rw [hm]
      exact fs.mo (by omega) (f3.mo (by omega) m0)
-- Moment.start
def st0 (L : LT) : LT := fun r i => if r = 0 then L 5 i else 0
theorem start_loop (hd : g + 8 ≤ m ∨ m + 3 ≤ g) : ∀ (d i : Nat), i + d = 4 → ∀ (h : MH) (M : LT), HiA h g L → MoA h m M → (∀ j, j < 4 → M 2 j = 0) → (∀ j, j < i → M 0 j = L 5 j ∧ M 1 j = 0) → ∃ h' M', m_ev 13 14 [some (.ref m), some (.ref g), some (.int (nI i))] [] h = some (none, h') ∧ MoA h' m M' ∧ AgM M' (st0 L) ∧ Fr m (m + 3) h h' := by
  intro d
  induction d with
  | zero =>
    intro i hi h M e f h2 h01
    obtain rfl : i = 4 := by omega
    refine ⟨h, M, ?_, f, ?_, Fr.rf _ _ _⟩
    · rw [b13_14]
      simp (disch := omega) only [b13_32, nI_leI, Nat.le_refl, if_true]
    · intro q j hq hj
      rcases (show q = 0 ∨ q = 1 ∨ q = 2 by omega) with rfl | rfl | rfl
      · simpa [st0] using (h01 j hj).1
      · simpa [st0] using (h01 j hj).2
      · simpa [st0] using h2 j hj
  | succ d ih =>
    intro i hi h M e f h2 h01
    obtain ⟨h3, q3, e3, f3⟩ := moW0 f (L 5 i) (k := i) (by omega)
    obtain ⟨h4, q4, e4, f4⟩ := moW1 e3 0 (k := i) (by omega)
    obtain ⟨h5, M5, q5, e5, a5, f5⟩ := ih (i + 1) (by omega) h4 _ (f4.hi (by omega) (f3.hi (by omega) e)) e4 (by
      intro j hj
      rw [uL_r _ _ _ _ (by omega), uL_r _ _ _ _ (by omega)]; exact h2 j hj) (by
      intro j hj
      by_cases hji : j = i
      · subst hji; constructor
        · rw [uL_r _ _ _ _ (by omega), uL_s]
        · rw [uL_s]
      · have := h01 j (by omega)
        constructor
        · rw [uL_r _ _ _ _ (by omega), uL_k _ _ _ hji]; exact this.1
        · rw [uL_k _ _ _ hji, uL_r _ _ _ _ (by omega)]; exact this.2)
    refine ⟨h5, M5, ?_, e5, a5, (f3.tr f4).tr f5⟩
    have hni : ¬ 4 ≤ i := by omega
    rw [b13_14]
    simp (disch := omega) only [b13_17, nI_leI, hni, if_false, hiF e, moF f, moF e3, Option.bind_some, q3, q4, nI_add]
    exact q5
theorem c_start (e : HiA h g L) (f : MoA h m M) (hd : g + 8 ≤ m ∨ m + 3 ≤ g) : ∃ h' M', m_call m_ev 13 y k [.ref m, .ref g] ls r h = m_ev y k ls r h' ∧ MoA h' m M' ∧ AgM M' (st0 L) ∧ Fr m (m + 3) h h' := by
  obtain ⟨h1, q1, e1, f1⟩ := moW2 f 2 0 0 rfl (by omega)
  obtain ⟨h2, q2, e2, f2⟩ := moW2 e1 3 1 0 rfl (by omega)
  obtain ⟨h3, q3, e3, f3⟩ := moW2 e2 4 2 0 rfl (by omega)
  obtain ⟨h4, q4, e4, f4⟩ := moW2 e3 5 3 0 rfl (by omega)
  obtain ⟨h5, M5, q5, e5, a5, f5⟩ := start_loop hd 4 0 rfl h4 _ (f4.hi (by omega) (f3.hi (by omega) (f2.hi (by omega) (f1.hi (by omega) e)))) e4 (by
    intro j hj
    rcases (show j = 0 ∨ j = 1 ∨ j = 2 ∨ j = 3 by omega) with rfl | rfl | rfl | rfl <;> simp [uL]) (by intro j hj; omega)
  refine ⟨h5, M5, cl_0 ?_, e5, a5, (((f1.tr f2).tr f3).tr f4).tr f5⟩
  show m_ev 13 0 [some (.ref m), some (.ref g), none] [] h = _
  simp only [b13_0, q1, q2, q3, q4, Option.bind_some]
  exact q5
end
