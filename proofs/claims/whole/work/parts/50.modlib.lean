/-! the model: V 0 its fields, V c the array in cell c (73 ring, 74 way, 75 wants, 76 st, 77 was, 78 kept, 79 seen, 80 text, 81 told, 82 readRing, 83 readWay, 84 readStands, 85 readWants, 86 ups, 87 can, 88 ahead) -/
def MdA (h : MH) (V : LT) : Prop := h[72]? = some (kM (fun k => nI (V 0 k))) ∧ h[73]? = some (kI 12 (fun i => nI (V 73 i))) ∧ h[74]? = some (kI 40 (fun i => nI (V 74 i))) ∧ h[75]? = some (kI 4 (fun i => nI (V 75 i))) ∧ h[76]? = some (kI 12 (fun i => nI (V 76 i))) ∧ h[77]? = some (kI 96 (fun i => nI (V 77 i))) ∧ h[78]? = some (kI 24 (fun i => nI (V 78 i))) ∧ h[79]? = some (kI 12 (fun i => nI (V 79 i))) ∧ h[80]? = some (kI 200 (fun i => nI (V 80 i))) ∧ h[81]? = some (kI 4 (fun i => nI (V 81 i))) ∧ h[82]? = some (kI 12 (fun i => nI (V 82 i))) ∧ h[83]? = some (kI 40 (fun i => nI (V 83 i))) ∧ h[84]? = some (kI 4 (fun i => nI (V 84 i))) ∧ h[85]? = some (kI 4 (fun i => nI (V 85 i))) ∧ h[86]? = some (kI 577 (fun i => nI (V 86 i))) ∧ h[87]? = some (kI 100 (fun i => nI (V 87 i))) ∧ h[88]? = some (kI 12 (fun i => nI (V 88 i)))
theorem mdF {h : MH} {V : LT} (e : MdA h V) : m_cls h 72 = some 8 ∧ m_fi h 72 8 0 = some (nI (V 0 0)) ∧ m_fi h 72 8 2 = some (nI (V 0 2)) ∧ m_fi h 72 8 3 = some (nI (V 0 3)) ∧ m_fi h 72 8 4 = some (nI (V 0 4)) ∧ m_fi h 72 8 5 = some (nI (V 0 5)) ∧ m_fi h 72 8 6 = some (nI (V 0 6)) ∧ m_fi h 72 8 8 = some (nI (V 0 8)) ∧ m_fi h 72 8 11 = some (nI (V 0 11)) ∧ m_fi h 72 8 13 = some (nI (V 0 13)) ∧ m_fi h 72 8 15 = some (nI (V 0 15)) ∧ m_fi h 72 8 18 = some (nI (V 0 18)) ∧ m_fi h 72 8 19 = some (nI (V 0 19)) ∧ m_fi h 72 8 21 = some (nI (V 0 21)) ∧ m_fi h 72 8 22 = some (nI (V 0 22)) ∧ m_fi h 72 8 24 = some (nI (V 0 24)) ∧ m_fi h 72 8 25 = some (nI (V 0 25)) ∧ m_fi h 72 8 26 = some (nI (V 0 26)) ∧ m_fi h 72 8 27 = some (nI (V 0 27)) ∧ m_fi h 72 8 28 = some (nI (V 0 28)) ∧ m_fi h 72 8 30 = some (nI (V 0 30)) ∧ m_fr h 72 8 1 = some 73 ∧ m_fr h 72 8 7 = some 74 ∧ m_fr h 72 8 9 = some 75 ∧ m_fr h 72 8 10 = some 76 ∧ m_fr h 72 8 12 = some 77 ∧ m_fr h 72 8 14 = some 78 ∧ m_fr h 72 8 16 = some 79 ∧ m_fr h 72 8 17 = some 80 ∧ m_fr h 72 8 20 = some 81 ∧ m_fr h 72 8 23 = some 82 ∧ m_fr h 72 8 29 = some 83 ∧ m_fr h 72 8 31 = some 84 ∧ m_fr h 72 8 32 = some 85 ∧ m_fr h 72 8 33 = some 86 ∧ m_fr h 72 8 34 = some 87 ∧ m_fr h 72 8 35 = some 88 ∧ m_al h 73 = some (nI 12) ∧ m_al h 74 = some (nI 40) ∧ m_al h 75 = some (nI 4) ∧ m_al h 76 = some (nI 12) ∧ m_al h 77 = some (nI 96) ∧ m_al h 78 = some (nI 24) ∧ m_al h 79 = some (nI 12) ∧ m_al h 80 = some (nI 200) ∧ m_al h 81 = some (nI 4) ∧ m_al h 82 = some (nI 12) ∧ m_al h 83 = some (nI 40) ∧ m_al h 84 = some (nI 4) ∧ m_al h 85 = some (nI 4) ∧ m_al h 86 = some (nI 577) ∧ m_al h 87 = some (nI 100) ∧ m_al h 88 = some (nI 12) ∧ (∀ k, k < 12 → m_ai h 73 0 (nI k) = some (nI (V 73 k))) ∧ (∀ k, k < 40 → m_ai h 74 0 (nI k) = some (nI (V 74 k))) ∧ (∀ k, k < 4 → m_ai h 75 0 (nI k) = some (nI (V 75 k))) ∧ (∀ k, k < 12 → m_ai h 76 0 (nI k) = some (nI (V 76 k))) ∧ (∀ k, k < 96 → m_ai h 77 0 (nI k) = some (nI (V 77 k))) ∧ (∀ k, k < 24 → m_ai h 78 0 (nI k) = some (nI (V 78 k))) ∧ (∀ k, k < 12 → m_ai h 79 0 (nI k) = some (nI (V 79 k))) ∧ (∀ k, k < 200 → m_ai h 80 0 (nI k) = some (nI (V 80 k))) ∧ (∀ k, k < 4 → m_ai h 81 0 (nI k) = some (nI (V 81 k))) ∧ (∀ k, k < 12 → m_ai h 82 0 (nI k) = some (nI (V 82 k))) ∧ (∀ k, k < 40 → m_ai h 83 0 (nI k) = some (nI (V 83 k))) ∧ (∀ k, k < 4 → m_ai h 84 0 (nI k) = some (nI (V 84 k))) ∧ (∀ k, k < 4 → m_ai h 85 0 (nI k) = some (nI (V 85 k))) ∧ (∀ k, k < 577 → m_ai h 86 0 (nI k) = some (nI (V 86 k))) ∧ (∀ k, k < 100 → m_ai h 87 0 (nI k) = some (nI (V 87 k))) ∧ (∀ k, k < 12 → m_ai h 88 0 (nI k) = some (nI (V 88 k))) := by
  obtain ⟨e72, e73, e74, e75, e76, e77, e78, e79, e80, e81, e82, e83, e84, e85, e86, e87, e88⟩ := e
  exact ⟨cls_e e72, fi_e e72 rfl, fi_e e72 rfl, fi_e e72 rfl, fi_e e72 rfl, fi_e e72 rfl, fi_e e72 rfl, fi_e e72 rfl, fi_e e72 rfl, fi_e e72 rfl, fi_e e72 rfl, fi_e e72 rfl, fi_e e72 rfl, fi_e e72 rfl, fi_e e72 rfl, fi_e e72 rfl, fi_e e72 rfl, fi_e e72 rfl, fi_e e72 rfl, fi_e e72 rfl, fi_e e72 rfl, fr_e e72 rfl, fr_e e72 rfl, fr_e e72 rfl, fr_e e72 rfl, fr_e e72 rfl, fr_e e72 rfl, fr_e e72 rfl, fr_e e72 rfl, fr_e e72 rfl, fr_e e72 rfl, fr_e e72 rfl, fr_e e72 rfl, fr_e e72 rfl, fr_e e72 rfl, fr_e e72 rfl, fr_e e72 rfl, al_e e73 (by decide), al_e e74 (by decide), al_e e75 (by decide), al_e e76 (by decide), al_e e77 (by decide), al_e e78 (by decide), al_e e79 (by decide), al_e e80 (by decide), al_e e81 (by decide), al_e e82 (by decide), al_e e83 (by decide), al_e e84 (by decide), al_e e85 (by decide), al_e e86 (by decide), al_e e87 (by decide), al_e e88 (by decide), fun k hk => ai_e e73 hk (by decide), fun k hk => ai_e e74 hk (by decide), fun k hk => ai_e e75 hk (by decide), fun k hk => ai_e e76 hk (by decide), fun k hk => ai_e e77 hk (by decide), fun k hk => ai_e e78 hk (by decide), fun k hk => ai_e e79 hk (by decide), fun k hk => ai_e e80 hk (by decide), fun k hk => ai_e e81 hk (by decide), fun k hk => ai_e e82 hk (by decide), fun k hk => ai_e e83 hk (by decide), fun k hk => ai_e e84 hk (by decide), fun k hk => ai_e e85 hk (by decide), fun k hk => ai_e e86 hk (by decide), fun k hk => ai_e e87 hk (by decide), fun k hk => ai_e e88 hk (by decide)⟩
theorem Fr.md {lo hi : Nat} {h h' : MH} {V : LT} (f : Fr lo hi h h') (hb : 89 ≤ lo ∨ hi ≤ 72) (e : MdA h V) : MdA h' V := by
  obtain ⟨e72, e73, e74, e75, e76, e77, e78, e79, e80, e81, e82, e83, e84, e85, e86, e87, e88⟩ := e
  exact ⟨f.at (by omega) e72, f.at (by omega) e73, f.at (by omega) e74, f.at (by omega) e75, f.at (by omega) e76, f.at (by omega) e77, f.at (by omega) e78, f.at (by omega) e79, f.at (by omega) e80, f.at (by omega) e81, f.at (by omega) e82, f.at (by omega) e83, f.at (by omega) e84, f.at (by omega) e85, f.at (by omega) e86, f.at (by omega) e87, f.at (by omega) e88⟩
theorem mdW0 {h : MH} {V : LT} (e : MdA h V) (k x : Nat) (hk : k ∈ [0, 2, 3, 4, 5, 6, 8, 11, 13, 15, 18, 19, 21, 22, 24, 25, 26, 27, 28, 30]) : ∃ h', m_pf h 72 8 k (.int (nI x)) = some h' ∧ MdA h' (uL V 0 k x) ∧ Fr 72 89 h h' := by
  obtain ⟨e72, e73, e74, e75, e76, e77, e78, e79, e80, e81, e82, e83, e84, e85, e86, e87, e88⟩ := e
  refine ⟨_, kM_pf e72 k hk, ⟨?_, st_ne (by omega) e73, st_ne (by omega) e74, st_ne (by omega) e75, st_ne (by omega) e76, st_ne (by omega) e77, st_ne (by omega) e78, st_ne (by omega) e79, st_ne (by omega) e80, st_ne (by omega) e81, st_ne (by omega) e82, st_ne (by omega) e83, st_ne (by omega) e84, st_ne (by omega) e85, st_ne (by omega) e86, st_ne (by omega) e87, st_ne (by omega) e88⟩, Fr.st (by omega) (by omega)⟩
  rw [st_eq e72]
  have : upd (fun k => nI (V 0 k)) k (nI x) = fun i => nI (uL V 0 k x 0 i) := by
    funext i
    unfold upd uL
    by_cases hi : i = k
    · subst hi; simp
    · simp [hi]
  rw [this]
theorem mdW73 {h : MH} {V : LT} (e : MdA h V) {k : Nat} (x : Nat) (hk : k < 12) : ∃ h', m_pi h 73 0 (nI k) (nI x) = some h' ∧ MdA h' (uL V 73 k x) ∧ Fr 72 89 h h' := by
  obtain ⟨e72, e73, e74, e75, e76, e77, e78, e79, e80, e81, e82, e83, e84, e85, e86, e87, e88⟩ := e
  refine ⟨_, pi_e e73 hk (by decide), ⟨st_ne (by omega) e72, ?_, st_ne (by omega) e74, st_ne (by omega) e75, st_ne (by omega) e76, st_ne (by omega) e77, st_ne (by omega) e78, st_ne (by omega) e79, st_ne (by omega) e80, st_ne (by omega) e81, st_ne (by omega) e82, st_ne (by omega) e83, st_ne (by omega) e84, st_ne (by omega) e85, st_ne (by omega) e86, st_ne (by omega) e87, st_ne (by omega) e88⟩, Fr.st (by omega) (by omega)⟩
  rw [st_eq e73, upd_nI]
  simp [uL]
theorem mdW74 {h : MH} {V : LT} (e : MdA h V) {k : Nat} (x : Nat) (hk : k < 40) : ∃ h', m_pi h 74 0 (nI k) (nI x) = some h' ∧ MdA h' (uL V 74 k x) ∧ Fr 72 89 h h' := by
  obtain ⟨e72, e73, e74, e75, e76, e77, e78, e79, e80, e81, e82, e83, e84, e85, e86, e87, e88⟩ := e
  refine ⟨_, pi_e e74 hk (by decide), ⟨st_ne (by omega) e72, st_ne (by omega) e73, ?_, st_ne (by omega) e75, st_ne (by omega) e76, st_ne (by omega) e77, st_ne (by omega) e78, st_ne (by omega) e79, st_ne (by omega) e80, st_ne (by omega) e81, st_ne (by omega) e82, st_ne (by omega) e83, st_ne (by omega) e84, st_ne (by omega) e85, st_ne (by omega) e86, st_ne (by omega) e87, st_ne (by omega) e88⟩, Fr.st (by omega) (by omega)⟩
  rw [st_eq e74, upd_nI]
  simp [uL]
theorem mdW75 {h : MH} {V : LT} (e : MdA h V) {k : Nat} (x : Nat) (hk : k < 4) : ∃ h', m_pi h 75 0 (nI k) (nI x) = some h' ∧ MdA h' (uL V 75 k x) ∧ Fr 72 89 h h' := by
  obtain ⟨e72, e73, e74, e75, e76, e77, e78, e79, e80, e81, e82, e83, e84, e85, e86, e87, e88⟩ := e
  refine ⟨_, pi_e e75 hk (by decide), ⟨st_ne (by omega) e72, st_ne (by omega) e73, st_ne (by omega) e74, ?_, st_ne (by omega) e76, st_ne (by omega) e77, st_ne (by omega) e78, st_ne (by omega) e79, st_ne (by omega) e80, st_ne (by omega) e81, st_ne (by omega) e82, st_ne (by omega) e83, st_ne (by omega) e84, st_ne (by omega) e85, st_ne (by omega) e86, st_ne (by omega) e87, st_ne (by omega) e88⟩, Fr.st (by omega) (by omega)⟩
  rw [st_eq e75, upd_nI]
  simp [uL]
theorem mdW76 {h : MH} {V : LT} (e : MdA h V) {k : Nat} (x : Nat) (hk : k < 12) : ∃ h', m_pi h 76 0 (nI k) (nI x) = some h' ∧ MdA h' (uL V 76 k x) ∧ Fr 72 89 h h' := by
  obtain ⟨e72, e73, e74, e75, e76, e77, e78, e79, e80, e81, e82, e83, e84, e85, e86, e87, e88⟩ := e
  refine ⟨_, pi_e e76 hk (by decide), ⟨st_ne (by omega) e72, st_ne (by omega) e73, st_ne (by omega) e74, st_ne (by omega) e75, ?_, st_ne (by omega) e77, st_ne (by omega) e78, st_ne (by omega) e79, st_ne (by omega) e80, st_ne (by omega) e81, st_ne (by omega) e82, st_ne (by omega) e83, st_ne (by omega) e84, st_ne (by omega) e85, st_ne (by omega) e86, st_ne (by omega) e87, st_ne (by omega) e88⟩, Fr.st (by omega) (by omega)⟩
  rw [st_eq e76, upd_nI]
  simp [uL]
theorem mdW77 {h : MH} {V : LT} (e : MdA h V) {k : Nat} (x : Nat) (hk : k < 96) : ∃ h', m_pi h 77 0 (nI k) (nI x) = some h' ∧ MdA h' (uL V 77 k x) ∧ Fr 72 89 h h' := by
  obtain ⟨e72, e73, e74, e75, e76, e77, e78, e79, e80, e81, e82, e83, e84, e85, e86, e87, e88⟩ := e
  refine ⟨_, pi_e e77 hk (by decide), ⟨st_ne (by omega) e72, st_ne (by omega) e73, st_ne (by omega) e74, st_ne (by omega) e75, st_ne (by omega) e76, ?_, st_ne (by omega) e78, st_ne (by omega) e79, st_ne (by omega) e80, st_ne (by omega) e81, st_ne (by omega) e82, st_ne (by omega) e83, st_ne (by omega) e84, st_ne (by omega) e85, st_ne (by omega) e86, st_ne (by omega) e87, st_ne (by omega) e88⟩, Fr.st (by omega) (by omega)⟩
  rw [st_eq e77, upd_nI]
  simp [uL]
theorem mdW78 {h : MH} {V : LT} (e : MdA h V) {k : Nat} (x : Nat) (hk : k < 24) : ∃ h', m_pi h 78 0 (nI k) (nI x) = some h' ∧ MdA h' (uL V 78 k x) ∧ Fr 72 89 h h' := by
  obtain ⟨e72, e73, e74, e75, e76, e77, e78, e79, e80, e81, e82, e83, e84, e85, e86, e87, e88⟩ := e
  refine ⟨_, pi_e e78 hk (by decide), ⟨st_ne (by omega) e72, st_ne (by omega) e73, st_ne (by omega) e74, st_ne (by omega) e75, st_ne (by omega) e76, st_ne (by omega) e77, ?_, st_ne (by omega) e79, st_ne (by omega) e80, st_ne (by omega) e81, st_ne (by omega) e82, st_ne (by omega) e83, st_ne (by omega) e84, st_ne (by omega) e85, st_ne (by omega) e86, st_ne (by omega) e87, st_ne (by omega) e88⟩, Fr.st (by omega) (by omega)⟩
  rw [st_eq e78, upd_nI]
  simp [uL]
theorem mdW79 {h : MH} {V : LT} (e : MdA h V) {k : Nat} (x : Nat) (hk : k < 12) : ∃ h', m_pi h 79 0 (nI k) (nI x) = some h' ∧ MdA h' (uL V 79 k x) ∧ Fr 72 89 h h' := by
  obtain ⟨e72, e73, e74, e75, e76, e77, e78, e79, e80, e81, e82, e83, e84, e85, e86, e87, e88⟩ := e
  refine ⟨_, pi_e e79 hk (by decide), ⟨st_ne (by omega) e72, st_ne (by omega) e73, st_ne (by omega) e74, st_ne (by omega) e75, st_ne (by omega) e76, st_ne (by omega) e77, st_ne (by omega) e78, ?_, st_ne (by omega) e80, st_ne (by omega) e81, st_ne (by omega) e82, st_ne (by omega) e83, st_ne (by omega) e84, st_ne (by omega) e85, st_ne (by omega) e86, st_ne (by omega) e87, st_ne (by omega) e88⟩, Fr.st (by omega) (by omega)⟩
  rw [st_eq e79, upd_nI]
  simp [uL]
theorem mdW80 {h : MH} {V : LT} (e : MdA h V) {k : Nat} (x : Nat) (hk : k < 200) : ∃ h', m_pi h 80 0 (nI k) (nI x) = some h' ∧ MdA h' (uL V 80 k x) ∧ Fr 72 89 h h' := by
  obtain ⟨e72, e73, e74, e75, e76, e77, e78, e79, e80, e81, e82, e83, e84, e85, e86, e87, e88⟩ := e
  refine ⟨_, pi_e e80 hk (by decide), ⟨st_ne (by omega) e72, st_ne (by omega) e73, st_ne (by omega) e74, st_ne (by omega) e75, st_ne (by omega) e76, st_ne (by omega) e77, st_ne (by omega) e78, st_ne (by omega) e79, ?_, st_ne (by omega) e81, st_ne (by omega) e82, st_ne (by omega) e83, st_ne (by omega) e84, st_ne (by omega) e85, st_ne (by omega) e86, st_ne (by omega) e87, st_ne (by omega) e88⟩, Fr.st (by omega) (by omega)⟩
  rw [st_eq e80, upd_nI]
  simp [uL]
theorem mdW81 {h : MH} {V : LT} (e : MdA h V) {k : Nat} (x : Nat) (hk : k < 4) : ∃ h', m_pi h 81 0 (nI k) (nI x) = some h' ∧ MdA h' (uL V 81 k x) ∧ Fr 72 89 h h' := by
  obtain ⟨e72, e73, e74, e75, e76, e77, e78, e79, e80, e81, e82, e83, e84, e85, e86, e87, e88⟩ := e
  refine ⟨_, pi_e e81 hk (by decide), ⟨st_ne (by omega) e72, st_ne (by omega) e73, st_ne (by omega) e74, st_ne (by omega) e75, st_ne (by omega) e76, st_ne (by omega) e77, st_ne (by omega) e78, st_ne (by omega) e79, st_ne (by omega) e80, ?_, st_ne (by omega) e82, st_ne (by omega) e83, st_ne (by omega) e84, st_ne (by omega) e85, st_ne (by omega) e86, st_ne (by omega) e87, st_ne (by omega) e88⟩, Fr.st (by omega) (by omega)⟩
  rw [st_eq e81, upd_nI]
  simp [uL]
theorem mdW82 {h : MH} {V : LT} (e : MdA h V) {k : Nat} (x : Nat) (hk : k < 12) : ∃ h', m_pi h 82 0 (nI k) (nI x) = some h' ∧ MdA h' (uL V 82 k x) ∧ Fr 72 89 h h' := by
  obtain ⟨e72, e73, e74, e75, e76, e77, e78, e79, e80, e81, e82, e83, e84, e85, e86, e87, e88⟩ := e
  refine ⟨_, pi_e e82 hk (by decide), ⟨st_ne (by omega) e72, st_ne (by omega) e73, st_ne (by omega) e74, st_ne (by omega) e75, st_ne (by omega) e76, st_ne (by omega) e77, st_ne (by omega) e78, st_ne (by omega) e79, st_ne (by omega) e80, st_ne (by omega) e81, ?_, st_ne (by omega) e83, st_ne (by omega) e84, st_ne (by omega) e85, st_ne (by omega) e86, st_ne (by omega) e87, st_ne (by omega) e88⟩, Fr.st (by omega) (by omega)⟩
  rw [st_eq e82, upd_nI]
  simp [uL]
theorem mdW83 {h : MH} {V : LT} (e : MdA h V) {k : Nat} (x : Nat) (hk : k < 40) : ∃ h', m_pi h 83 0 (nI k) (nI x) = some h' ∧ MdA h' (uL V 83 k x) ∧ Fr 72 89 h h' := by
  obtain ⟨e72, e73, e74, e75, e76, e77, e78, e79, e80, e81, e82, e83, e84, e85, e86, e87, e88⟩ := e
  refine ⟨_, pi_e e83 hk (by decide), ⟨st_ne (by omega) e72, st_ne (by omega) e73, st_ne (by omega) e74, st_ne (by omega) e75, st_ne (by omega) e76, st_ne (by omega) e77, st_ne (by omega) e78, st_ne (by omega) e79, st_ne (by omega) e80, st_ne (by omega) e81, st_ne (by omega) e82, ?_, st_ne (by omega) e84, st_ne (by omega) e85, st_ne (by omega) e86, st_ne (by omega) e87, st_ne (by omega) e88⟩, Fr.st (by omega) (by omega)⟩
  rw [st_eq e83, upd_nI]
  simp [uL]
theorem mdW84 {h : MH} {V : LT} (e : MdA h V) {k : Nat} (x : Nat) (hk : k < 4) : ∃ h', m_pi h 84 0 (nI k) (nI x) = some h' ∧ MdA h' (uL V 84 k x) ∧ Fr 72 89 h h' := by
  obtain ⟨e72, e73, e74, e75, e76, e77, e78, e79, e80, e81, e82, e83, e84, e85, e86, e87, e88⟩ := e
  refine ⟨_, pi_e e84 hk (by decide), ⟨st_ne (by omega) e72, st_ne (by omega) e73, st_ne (by omega) e74, st_ne (by omega) e75, st_ne (by omega) e76, st_ne (by omega) e77, st_ne (by omega) e78, st_ne (by omega) e79, st_ne (by omega) e80, st_ne (by omega) e81, st_ne (by omega) e82, st_ne (by omega) e83, ?_, st_ne (by omega) e85, st_ne (by omega) e86, st_ne (by omega) e87, st_ne (by omega) e88⟩, Fr.st (by omega) (by omega)⟩
  rw [st_eq e84, upd_nI]
  simp [uL]
theorem mdW85 {h : MH} {V : LT} (e : MdA h V) {k : Nat} (x : Nat) (hk : k < 4) : ∃ h', m_pi h 85 0 (nI k) (nI x) = some h' ∧ MdA h' (uL V 85 k x) ∧ Fr 72 89 h h' := by
  obtain ⟨e72, e73, e74, e75, e76, e77, e78, e79, e80, e81, e82, e83, e84, e85, e86, e87, e88⟩ := e
  refine ⟨_, pi_e e85 hk (by decide), ⟨st_ne (by omega) e72, st_ne (by omega) e73, st_ne (by omega) e74, st_ne (by omega) e75, st_ne (by omega) e76, st_ne (by omega) e77, st_ne (by omega) e78, st_ne (by omega) e79, st_ne (by omega) e80, st_ne (by omega) e81, st_ne (by omega) e82, st_ne (by omega) e83, st_ne (by omega) e84, ?_, st_ne (by omega) e86, st_ne (by omega) e87, st_ne (by omega) e88⟩, Fr.st (by omega) (by omega)⟩
  rw [st_eq e85, upd_nI]
  simp [uL]
theorem mdW86 {h : MH} {V : LT} (e : MdA h V) {k : Nat} (x : Nat) (hk : k < 577) : ∃ h', m_pi h 86 0 (nI k) (nI x) = some h' ∧ MdA h' (uL V 86 k x) ∧ Fr 72 89 h h' := by
  obtain ⟨e72, e73, e74, e75, e76, e77, e78, e79, e80, e81, e82, e83, e84, e85, e86, e87, e88⟩ := e
  refine ⟨_, pi_e e86 hk (by decide), ⟨st_ne (by omega) e72, st_ne (by omega) e73, st_ne (by omega) e74, st_ne (by omega) e75, st_ne (by omega) e76, st_ne (by omega) e77, st_ne (by omega) e78, st_ne (by omega) e79, st_ne (by omega) e80, st_ne (by omega) e81, st_ne (by omega) e82, st_ne (by omega) e83, st_ne (by omega) e84, st_ne (by omega) e85, ?_, st_ne (by omega) e87, st_ne (by omega) e88⟩, Fr.st (by omega) (by omega)⟩
  rw [st_eq e86, upd_nI]
  simp [uL]
theorem mdW87 {h : MH} {V : LT} (e : MdA h V) {k : Nat} (x : Nat) (hk : k < 100) : ∃ h', m_pi h 87 0 (nI k) (nI x) = some h' ∧ MdA h' (uL V 87 k x) ∧ Fr 72 89 h h' := by
  obtain ⟨e72, e73, e74, e75, e76, e77, e78, e79, e80, e81, e82, e83, e84, e85, e86, e87, e88⟩ := e
  refine ⟨_, pi_e e87 hk (by decide), ⟨st_ne (by omega) e72, st_ne (by omega) e73, st_ne (by omega) e74, st_ne (by omega) e75, st_ne (by omega) e76, st_ne (by omega) e77, st_ne (by omega) e78, st_ne (by omega) e79, st_ne (by omega) e80, st_ne (by omega) e81, st_ne (by omega) e82, st_ne (by omega) e83, st_ne (by omega) e84, st_ne (by omega) e85, st_ne (by omega) e86, ?_, st_ne (by omega) e88⟩, Fr.st (by omega) (by omega)⟩
  rw [st_eq e87, upd_nI]
  simp [uL]
theorem mdW88 {h : MH} {V : LT} (e : MdA h V) {k : Nat} (x : Nat) (hk : k < 12) : ∃ h', m_pi h 88 0 (nI k) (nI x) = some h' ∧ MdA h' (uL V 88 k x) ∧ Fr 72 89 h h' := by
  obtain ⟨e72, e73, e74, e75, e76, e77, e78, e79, e80, e81, e82, e83, e84, e85, e86, e87, e88⟩ := e
  refine ⟨_, pi_e e88 hk (by decide), ⟨st_ne (by omega) e72, st_ne (by omega) e73, st_ne (by omega) e74, st_ne (by omega) e75, st_ne (by omega) e76, st_ne (by omega) e77, st_ne (by omega) e78, st_ne (by omega) e79, st_ne (by omega) e80, st_ne (by omega) e81, st_ne (by omega) e82, st_ne (by omega) e83, st_ne (by omega) e84, st_ne (by omega) e85, st_ne (by omega) e86, st_ne (by omega) e87, ?_⟩, Fr.st (by omega) (by omega)⟩
  rw [st_eq e88, upd_nI]
  simp [uL]
