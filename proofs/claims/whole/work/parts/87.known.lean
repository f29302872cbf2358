/-! what is known of classes, arrays and string constants at the law's entry -/
def lwTm (i : Nat) : Term := if i = 0 then .string RX7 20 else .string RX3 64
def lwGv : List Cond := flatC (Jvm.Cond.and given_1 narrow_1)
set_option maxRecDepth 100000 in
theorem lwG_ex : ∀ i, i < 2 → Cond.exactly (lwTm i) "java/lang/String" ∈ lwGv := by decide +kernel
set_option maxRecDepth 100000 in
theorem lwG_co : ∀ i, i < 2 → Cond.eq (.field (lwTm i) "java/lang/String" "coder" "B") (.int 0) ∈ lwGv := by decide +kernel
set_option maxRecDepth 100000 in
theorem lwG_ar : ∀ i, i < 2 → Cond.arrayOf (.field (lwTm i) "java/lang/String" "value" "[B") .byte ∈ lwGv := by decide +kernel
set_option maxRecDepth 100000 in
theorem lwG_le : ∀ i, i < 2 → Cond.eq (.length (.field (lwTm i) "java/lang/String" "value" "[B")) (.int (Int32.ofNat (m_lenS.getD i 0))) ∈ lwGv := by decide +kernel
set_option maxRecDepth 100000 in
theorem lwG_el : ∀ i, i < 2 → ∀ j, j < m_lenS.getD i 0 → Cond.eq (.elem (.field (lwTm i) "java/lang/String" "value" "[B") (.int (Int32.ofNat j))) (.int ((m_bytS.getD i []).getD j 0)) ∈ lwGv := by decide +kernel
set_option maxRecDepth 100000 in
theorem lwG_ne : Cond.not (Cond.eq (lwTm 0) (lwTm 1)) ∈ lwGv := by decide +kernel
set_option maxRecDepth 100000 in
theorem lwG_cs : Cond.eq (.static "java/lang/String" "COMPACT_STRINGS" "Z") (.int 1) ∈ lwGv := by decide +kernel
set_option maxRecDepth 100000 in
theorem lwG_fm : Cond.isRef (.static "jdk/internal/util/Preconditions" "SIOOBE_FORMATTER" "Ljava/util/function/BiFunction;") ∈ lwGv := by decide +kernel
theorem lwT_s0 : Cond.stringRef RX7 20 (m_txt 0) ∈ lw_tbl := List.mem_of_getElem? (i := 166) (by decide +kernel)
theorem lwT_s1 : Cond.stringRef RX3 64 (m_txt 1) ∈ lw_tbl := List.mem_of_getElem? (i := 243) (by decide +kernel)
theorem lwT_cs : Cond.laysStatic "java/lang/String" "COMPACT_STRINGS" "Z" ∈ lw_tbl := List.mem_of_getElem? (i := 176) (by decide +kernel)
theorem lwT_fm : Cond.laysStatic "jdk/internal/util/Preconditions" "SIOOBE_FORMATTER" "Ljava/util/function/BiFunction;" ∈ lw_tbl := List.mem_of_getElem? (i := 192) (by decide +kernel)
theorem lwT_iw : Cond.methodLinkNest RX3 104 yX7_isWord RX7 ∈ lw_tbl := List.mem_of_getElem? (i := 344) (by decide +kernel)
theorem lwT_is : Cond.initialized "java/lang/String" ∈ lw_tbl := List.mem_of_getElem? (i := 39) (by decide +kernel)
theorem lwT_ip : Cond.initialized "jdk/internal/util/Preconditions" ∈ lw_tbl := by decide +kernel
theorem law_KS {p : Program} {s : State} {m : MethodId} {meth : Method} {c : Code} {b L : Nat} {xs : Nat → Int32} (C0 : lw_At p s m meth c b L xs) : ∃ G : m_GT, G.1 = s.heap.size ∧ G.2.2.2.2 = s.heap ∧ m_KS G s := by
  obtain ⟨hx, hb, hr, hml, hown, hts, hX, hbl, hlocks, hgv⟩ := C0
  have hg := flat_of_before _ hgv
  have hA : ∀ a : Nat, a < s.heap.size → ¬ (fun q : Nat => s.heap.size ≤ q) a := fun a h h2 => absurd h (Nat.not_lt.mpr h2)
  have hcl : ∀ k : Nat, ∃ q : ClassId × (Nat → Nat), k < 9 → u_Kn s (m_C k).1 (m_C k).2.1 (m_C k).2.2 q.1 q.2 := by
    intro k
    by_cases hk : k < 9
    · have hn := m_newAt k hk
      simp only [Bool.and_eq_true] at hn
      obtain ⟨cC, iS, h⟩ := u_known (C := (m_C k).1) (T := (m_C k).2.1) (N := (m_C k).2.2) hts (fun w hw => m_tbl_lw (m_fldIn k hk w hw)) (hts _ (m_w_mem hn.1))
      exact ⟨(cC, iS), fun _ => h⟩
    · exact ⟨(0, fun _ => 0), fun h => absurd h hk⟩
  obtain ⟨ad, had⟩ := Classical.axiomOfChoice hcl
  obtain ⟨cI, kI', pI, i1, i2, i3⟩ := Cond.arrayClass_spec (hts _ m_mem_int)
  obtain ⟨cH, kH', pH, j1, j2, j3⟩ := Cond.arrayClass_spec (hts _ m_mem_char)
  obtain ⟨pM, cM, kM', o1, o2, o3, o4, o5⟩ := Cond.arrayOver_spec (hts _ m_mem_mom)
  obtain ⟨adK, adV, hS, hev⟩ := vk_Sof (s := s) (args := #[Value.ref b]) (N := 2) (tm := lwTm) (len := m_lenS) (byt := m_bytS) (A := fun q : Nat => s.heap.size ≤ q) (fun i hi => by
      rcases (show i = 0 ∨ i = 1 by omega) with rfl | rfl <;> exact Nat.le_of_ble_eq_true rfl)
    (fun i hi => hg _ (lwG_ex i hi)) (fun i hi => hg _ (lwG_co i hi)) (fun i hi => hg _ (lwG_ar i hi)) (fun i hi => hg _ (lwG_le i hi)) (fun i hi j hj => hg _ (lwG_el i hi j hj))
    (fun i j hi hj hij => by
      rcases (show i = 0 ∨ i = 1 by omega) with rfl | rfl
      · rcases (show j = 1 by omega) with rfl
        exact Or.inl (hg _ lwG_ne)
      · rcases (show j = 0 by omega) with rfl
        exact Or.inr (hg _ lwG_ne)) hA
  refine ⟨(s.heap.size, adK, (fun k => (ad k).1, fun k => (ad k).2), fun k => if k = 0 then cI else if k = 1 then cH else cM, s.heap), rfl, rfl, ⟨?_, ?_⟩, va_AO.of (hts _ m_mem_mom), ⟨adV, hS⟩, vk_R.of (hts _ lwT_s0) (hev 0 (by omega)), vk_R.of (hts _ lwT_s1) (hev 1 (by omega)), va_Nw.of rfl (hts _ lwT_iw), va_Zof (hts _ lwT_cs) (hts _ lwT_is) (va_eqt (hg _ lwG_cs)) hA, va_Zqof (hts _ lwT_fm) (hts _ lwT_ip) (hg _ lwG_fm) hA, rfl⟩
  · intro k q hq
    have hk : k < 9 := (List.getElem?_eq_some_iff.mp hq).1
    have e := m_clAt k hk
    rw [hq] at e
    cases e
    exact had k hk
  · intro k q hq
    match k, hq with
    | 0, hq =>
      cases hq
      exact ⟨fun n z => ⟨fun k h => (by cases h), kI', i2, pI, i3⟩, i1⟩
    | 1, hq =>
      cases hq
      exact ⟨fun n z => ⟨fun k h => (by cases h), kH', j2, pH, j3⟩, j1⟩
    | 2, hq =>
      cases hq
      exact ⟨fun n z => ⟨fun k h => (by cases h), kM', o3, pM, o4⟩, kM', pM, o3, o4, o1, o5⟩
    | k + 3, hq => simp [m_tys] at hq
