/-! the hill at first -/
def zL : LT := fun _ _ => 0
def apN : Nat → LT
  | 0 => zL
  | i + 1 => apL (apN i) ((m_chs 0).getD i 0)
theorem apN_at : ∀ i, apN i 1 0 = i := by
  intro i
  induction i with
  | zero => rfl
  | succ i ih =>
    show apL (apN i) _ 1 0 = _
    unfold apL
    rw [uL_s, ih]
theorem chs_l : (m_chs 0).length ≤ 200 := by decide
theorem chs_c : ∀ i, i < (m_chs 0).length → (m_chs 0).getD i 0 < 128 := by decide
theorem apN_c : ∀ i, i ≤ (m_chs 0).length → ∀ j, j < i → apN i 0 j = (m_chs 0).getD j 0 := by
  intro i
  induction i with
  | zero => intro _ j hj; omega
  | succ i ih =>
    intro hi j hj
    show apL (apN i) _ 0 j = _
    unfold apL
    rw [uL_r _ _ _ _ (by omega), apN_at]
    by_cases hji : j = i
    · subst hji; rw [uL_s]
    · rw [uL_k _ _ _ hji]; exact ih (by omega) j (by omega)
/-- the text at first -/
def firT : LT := apN (m_chs 0).length
theorem firT_wf : WfT firT := by
  refine ⟨by unfold firT; rw [apN_at]; exact chs_l, fun i hi => ?_⟩
  unfold firT at hi ⊢
  rw [apN_at] at hi
  rw [apN_c _ (Nat.le_refl _) i hi]
  exact chs_c i hi
section
variable {y k : Nat} {ls : ML} {r : List Value} {h : MH}
theorem fir_loop {a0 t a2 a3 : Nat} : ∀ (d i : Nat), i + d = (m_chs 0).length → ∀ (h : MH), TxA h t (apN i) → ∃ h', m_ev 58 17 [some (.ref a0), some (.ref t), some (.ref a2), some (.ref a3), some (.int (nI i))] [] h = m_ev 58 29 [some (.ref a0), some (.ref t), some (.ref a2), some (.ref a3), some (.int (nI (m_chs 0).length))] [] h' ∧ TxA h' t firT ∧ Fr t (t + 2) h h' := by
  have hl := chs_l
  have s0 : m_str 0 0 [] = some (nI (m_chs 0).length) := rfl
  intro d
  induction d with
  | zero =>
    intro i hi h f
    obtain rfl : i = (m_chs 0).length := by omega
    refine ⟨h, ?_, f, Fr.rf _ _ _⟩
    rw [b58_17, s0]
    simp (disch := omega) only [Option.bind_some, nI_leI, Nat.le_refl, if_true]
  | succ d ih =>
    intro i hi h f
    have hil : i < (m_chs 0).length := by omega
    have s1 : m_str 1 0 [.int (nI i)] = some (nI ((m_chs 0).getD i 0)) := by
      show (if nI i < 0 ∨ (m_chs 0).length ≤ (nI i).toNatClampNeg then none else some (nI ((m_chs 0).getD (nI i).toNatClampNeg 0))) = _
      rw [if_neg (nI_in hil (by omega)), nI_clamp (by omega)]
    obtain ⟨h1, q1, e1, f1⟩ := c_append (y := 58) (k := 26) (ls := [some (.ref a0), some (.ref t), some (.ref a2), some (.ref a3), some (.int (nI i))]) (r := []) f (by rw [apN_at]; omega) (chs_c i hil)
    obtain ⟨h2, q2, e2, f2⟩ := ih (i + 1) (by omega) h1 e1
    refine ⟨h2, ?_, e2, f1.tr f2⟩
    rw [b58_17, s0]
    simp (disch := omega) only [Option.bind_some, nI_leI, if_neg (show ¬ (m_chs 0).length ≤ i by omega), b58_21, s1, txF f, if_true]
    rw [q1, b58_26, nI_add]
    exact q2
theorem n_tx {h tl : MH} : TxA (h ++ (texC h.length ++ tl)) h.length zL := ⟨by simp [texC]; rfl, by simp [texC]; rfl⟩
theorem n_hi {h tl : MH} : HiA (h ++ (hilC h.length ++ tl)) h.length zL := by
  refine ⟨?_, ?_, ?_, ?_, ?_, ?_, ?_, ?_⟩ <;> (simp [hilC]; first | rfl | exact ⟨rfl, rfl, rfl, rfl, rfl, rfl, rfl⟩)
theorem n_sc {h tl : MH} {t : Nat} : ScA (h ++ (scrC h.length t ++ tl)) h.length t zL := ⟨by simp [scrC]; rfl, by simp [scrC]; rfl⟩
theorem n_mo {h tl : MH} : MoA (h ++ (momC h.length ++ tl)) h.length zL := ⟨by simp [momC]; exact ⟨rfl, rfl, rfl, rfl⟩, by simp [momC]; rfl, by simp [momC]; rfl⟩
theorem n_ou {h tl : MH} : OuA (h ++ (outC h.length ++ tl)) h.length zL := ⟨by simp [outC], by simp [outC]; rfl, by simp [outC]; rfl⟩
theorem n_se {h tl : MH} : SeA (h ++ (seeC h.length ++ tl)) h.length zL := ⟨by simp [seeC]; rfl, by simp [seeC]; rfl, by simp [seeC]; rfl⟩
theorem Fr.ap (h tl : MH) : ∀ b, b < h.length → (h ++ tl)[b]? = h[b]? := fun b hb => List.getElem?_append_left hb
theorem ap_tx {a : Nat} {T : LT} {tl : MH} (e : TxA h a T) : TxA (h ++ tl) a T := by
  obtain ⟨e0, e1⟩ := e
  exact ⟨by rw [List.getElem?_append_left (List.getElem?_eq_some_iff.mp e0).1]; exact e0, by rw [List.getElem?_append_left (List.getElem?_eq_some_iff.mp e1).1]; exact e1⟩
theorem ap_at {a : Nat} {x : va_E} {tl : MH} (e : h[a]? = some x) : (h ++ tl)[a]? = some x := by
  rw [List.getElem?_append_left (List.getElem?_eq_some_iff.mp e).1]; exact e
theorem ap_hi {g : Nat} {L : LT} {tl : MH} (e : HiA h g L) : HiA (h ++ tl) g L := by
  obtain ⟨e0, e1, e2, e3, e4, e5, e6, e7⟩ := e
  exact ⟨ap_at e0, ap_at e1, ap_at e2, ap_at e3, ap_at e4, ap_at e5, ap_at e6, ap_at e7⟩
end
