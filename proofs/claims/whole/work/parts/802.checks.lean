set_option maxRecDepth 100000 in
theorem m_okP_0 : ∀ y, y < 164 → m_okM y = true := by decide +kernel
theorem m_okM_of {y k : Nat} {e : ME} (h : m_code y k = some e) : y < 164 ∧ m_okM y = true := by
  have hy : y < 164 := by
    apply Classical.byContradiction
    intro q
    have h1 : Nat.blt y 164 = false := Bool.eq_false_iff.mpr (fun z => q (by rwa [Nat.blt_eq] at z))
    unfold m_code m_len at h
    rw [h1] at h
    have h2 : Nat.blt k 0 = false := rfl
    simp only [cond_false] at h
    rw [h2] at h
    cases h
  exact ⟨hy, m_okP_0 y hy⟩
def m_tbl : List Cond := lw_tbl.filter goodWord
theorem m_in {w : Cond} (h : w ∈ lw_tbl) (g : goodWord w = true) : w ∈ m_tbl := List.mem_filter.mpr ⟨h, g⟩
theorem m_tblIn : GoodIn m_tbl m_tbl := fun w hw => ⟨hw, good_of_word (List.mem_filter.mp hw).2⟩
theorem m_tbl_lw {w : Cond} (h : w ∈ m_tbl) : w ∈ lw_tbl := (List.mem_filter.mp h).1
set_option maxRecDepth 100000 in
theorem m_fldIn0 : ∀ c, c < 9 → ∀ w ∈ u_ws (m_C c).1 (m_C c).2.1 (m_C c).2.2, w ∈ lw_tbl ∧ goodWord w = true := by decide +kernel
theorem m_fldIn (c : Nat) (hc : c < 9) : ∀ w ∈ u_ws (m_C c).1 (m_C c).2.1 (m_C c).2.2, w ∈ m_tbl := fun w h => m_in (m_fldIn0 c hc w h).1 (m_fldIn0 c hc w h).2
theorem m_clAt : ∀ c, c < 9 → vwCl[c]? = some (m_C c) := fun c hc => match c, hc with
  | 0, _ => rfl
  | 1, _ => rfl
  | 2, _ => rfl
  | 3, _ => rfl
  | 4, _ => rfl
  | 5, _ => rfl
  | 6, _ => rfl
  | 7, _ => rfl
  | 8, _ => rfl
  | n + 9, h => absurd h (by omega)
theorem m_tyAt : ∀ c, c < 9 → ∀ k, k < (m_C c).2.2 → parseFieldDescriptor ((m_C c).2.1 k).2.2.1 = some (m_ty c k) := fun c hc => match c, hc with
  | 0, _ => tyX0_ok
  | 1, _ => tyX1_ok
  | 2, _ => tyX2_ok
  | 3, _ => tyX3_ok
  | 4, _ => tyX4_ok
  | 5, _ => tyX5_ok
  | 6, _ => tyX6_ok
  | 7, _ => tyX7_ok
  | 8, _ => tyX8_ok
  | n + 9, h => absurd h (by omega)
theorem m_nmAt : ∀ c, c < 9 → ∀ a, a < (m_C c).2.2 → ∀ b, b < (m_C c).2.2 → a ≠ b → ((m_C c).2.1 a).2.1 ≠ ((m_C c).2.1 b).2.1 := fun c hc => match c, hc with
  | 0, _ => nmX0
  | 1, _ => nmX1
  | 2, _ => nmX2
  | 3, _ => nmX3
  | 4, _ => nmX4
  | 5, _ => nmX5
  | 6, _ => nmX6
  | 7, _ => nmX7
  | 8, _ => nmX8
  | n + 9, h => absurd h (by omega)
def m_pNew (c : Nat) : Nat := (bif Nat.blt c 4 then (bif Nat.blt c 2 then (bif Nat.blt c 1 then 92 else 352) else (bif Nat.blt c 3 then 421 else 75)) else (bif Nat.blt c 6 then (bif Nat.blt c 5 then 383 else 404) else (bif Nat.blt c 7 then 59 else (bif Nat.blt c 8 then 51 else 768))))
def m_pIn2 (c : Nat) : Nat := (bif Nat.blt c 4 then (bif Nat.blt c 2 then (bif Nat.blt c 1 then 38 else 45) else (bif Nat.blt c 3 then 48 else 37)) else (bif Nat.blt c 6 then (bif Nat.blt c 5 then 46 else 47) else (bif Nat.blt c 7 then 36 else (bif Nat.blt c 8 then 35 else 49))))
set_option maxRecDepth 100000 in
theorem m_newAt : ∀ c, c < 9 → (m_w (m_pNew c) (.instantiable (m_C c).1 (m_C c).2.2) && m_w (m_pIn2 c) (.initialized (m_C c).1)) = true := by decide +kernel
theorem m_mem_int : Cond.arrayClass .int ∈ lw_tbl := List.mem_of_getElem? (i := 90) (by decide +kernel)
theorem m_mem_char : Cond.arrayClass .char ∈ lw_tbl := List.mem_of_getElem? (i := 73) (by decide +kernel)
theorem m_mem_mom : Cond.arrayOver (.object "OracleWheel$Moment") ∈ lw_tbl := List.mem_of_getElem? (i := 390) (by decide +kernel)
theorem m_mem_oc : Cond.code objectInit ⟨#[0xb1]⟩ 1 none ∈ lw_tbl := List.mem_of_getElem? (i := 57) (by decide +kernel)
theorem m_mem_oi : Cond.instanceMethod objectInit ∈ lw_tbl := List.mem_of_getElem? (i := 56) (by decide +kernel)
