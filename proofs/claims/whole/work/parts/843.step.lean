/-! the run moved; the class's order of the cells as the one that parts 30-69 speak of; both at first, and one call of both, in the class's order -/
section
variable {h h' h1 hF : MH} {y k : Nat} {ls l : ML} {st s r : List Value} {rv : Option Value}
set_option maxHeartbeats 4000000 in
set_option maxRecDepth 100000 in
theorem mv_step {e e' : MF} (he : MvF e e') (R : Mv h h') (hst : m_step e y k ls st h = some (rv, hF)) : ∃ hF', m_step e' y k (mvLs ls) (st.map mvV) h' = some (rv.map mvV, hF') ∧ Mv hF hF' := by
  have hst0 := hst
  unfold m_step at hst
  cases hcode : m_code y k with
  | none => rw [hcode] at hst; cases hst
  | some en =>
  rw [hcode] at hst
  obtain ⟨pc, i, len, a, c0⟩ := en
  have nx : ∀ (k' : Nat) (ls' : ML) (st' : List Value) (h2 h2' : MH), Mv h2 h2' → e y k' ls' st' h2 = some (rv, hF) → ∃ hF', e' y k' (mvLs ls') (st'.map mvV) h2' = some (rv.map mvV, hF') ∧ Mv hF hF' := fun k' ls' st' h2 h2' R2 q => he _ _ _ _ _ _ _ _ R2 q
  dsimp only at hst
  split at hst
  · -- getfield
    unfold m_step
    rw [hcode]
    dsimp only
    split at hst
    · rename_i o r ci f t
      cases ht : Nat.beq t 2 with
      | true =>
        rw [ht] at hst
        obtain ⟨x, hq, hst⟩ := Option.bind_eq_some_iff.mp hst
        obtain ⟨hF', g1, g2⟩ := nx _ _ _ _ _ R hst
        refine ⟨hF', ?_, g2⟩
        show (bif Nat.beq t 2 then (m_fr h' (mvP o) ci f).bind fun x => e' y (k + 1) (mvLs ls) (.ref x :: r.map mvV) h' else (m_fi h' (mvP o) ci f).bind fun x => e' y (k + 1) (mvLs ls) (.int x :: r.map mvV) h') = _
        rw [ht, mv_fr R hq]
        exact g1
      | false =>
        rw [ht] at hst
        obtain ⟨x, hq, hst⟩ := Option.bind_eq_some_iff.mp hst
        obtain ⟨hF', g1, g2⟩ := nx _ _ _ _ _ R hst
        refine ⟨hF', ?_, g2⟩
        show (bif Nat.beq t 2 then (m_fr h' (mvP o) ci f).bind fun x => e' y (k + 1) (mvLs ls) (.ref x :: r.map mvV) h' else (m_fi h' (mvP o) ci f).bind fun x => e' y (k + 1) (mvLs ls) (.int x :: r.map mvV) h') = _
        rw [ht, mv_fi R hq]
        exact g1
    · cases hst
  · -- putfield
    unfold m_step
    rw [hcode]
    dsimp only
    split at hst
    · rename_i x o r ci f t
      show ∃ hF', (bif Nat.beq t 0 then (m_pf h' (mvP o) ci f (.int x)).bind fun h2 => e' y (k + 1) (mvLs ls) (r.map mvV) h2 else (bif Nat.beq t 1 then (if x = nI 0 ∨ x = nI 1 then (m_pf h' (mvP o) ci f (.int x)).bind fun h2 => e' y (k + 1) (mvLs ls) (r.map mvV) h2 else none) else none)) = some (rv.map mvV, hF') ∧ Mv hF hF'
      cases ht : Nat.beq t 0 with
      | true =>
        rw [ht] at hst
        obtain ⟨h2, hq, hst⟩ := Option.bind_eq_some_iff.mp hst
        obtain ⟨h2', p1, R2⟩ := mv_pf R hq
        obtain ⟨hF', g1, g2⟩ := nx _ _ _ _ _ R2 hst
        refine ⟨hF', ?_, g2⟩
        rw [show m_pf h' (mvP o) ci f (.int x) = some h2' from p1]
        exact g1
      | false =>
        rw [ht] at hst
        cases ht1 : Nat.beq t 1 with
        | true =>
          rw [ht1] at hst
          simp only [cond_false, cond_true] at hst ⊢
          split at hst
          · rename_i hx01
            obtain ⟨h2, hq, hst⟩ := Option.bind_eq_some_iff.mp hst
            obtain ⟨h2', p1, R2⟩ := mv_pf R hq
            obtain ⟨hF', g1, g2⟩ := nx _ _ _ _ _ R2 hst
            refine ⟨hF', ?_, g2⟩
            rw [if_pos hx01, show m_pf h' (mvP o) ci f (.int x) = some h2' from p1]
            exact g1
          · cases hst
        | false => rw [ht1] at hst; cases hst
    · rename_i x o r ci f t
      show ∃ hF', (bif Nat.beq t 2 then (m_pf h' (mvP o) ci f (.ref (mvP x))).bind fun h2 => e' y (k + 1) (mvLs ls) (r.map mvV) h2 else none) = some (rv.map mvV, hF') ∧ Mv hF hF'
      cases ht : Nat.beq t 2 with
      | true =>
        rw [ht] at hst
        obtain ⟨h2, hq, hst⟩ := Option.bind_eq_some_iff.mp hst
        obtain ⟨h2', p1, R2⟩ := mv_pf R hq
        obtain ⟨hF', g1, g2⟩ := nx _ _ _ _ _ R2 hst
        refine ⟨hF', ?_, g2⟩
        rw [show m_pf h' (mvP o) ci f (.ref (mvP x)) = some h2' from p1]
        exact g1
      | false => rw [ht] at hst; cases hst
    · cases hst
  · -- iaload
    unfold m_step
    rw [hcode]
    dsimp only
    split at hst
    · rename_i j o r
      obtain ⟨x, hq, hst⟩ := Option.bind_eq_some_iff.mp hst
      obtain ⟨hF', g1, g2⟩ := nx _ _ _ _ _ R hst
      refine ⟨hF', ?_, g2⟩
      show (m_ai h' (mvP o) 0 j).bind (fun x => e' y (k + 1) (mvLs ls) (.int x :: r.map mvV) h') = _
      rw [mv_ai R hq]
      exact g1
    · cases hst
  · -- caload
    unfold m_step
    rw [hcode]
    dsimp only
    split at hst
    · rename_i j o r
      obtain ⟨x, hq, hst⟩ := Option.bind_eq_some_iff.mp hst
      obtain ⟨hF', g1, g2⟩ := nx _ _ _ _ _ R hst
      refine ⟨hF', ?_, g2⟩
      show (m_ai h' (mvP o) 1 j).bind (fun x => e' y (k + 1) (mvLs ls) (.int x :: r.map mvV) h') = _
      rw [mv_ai R hq]
      exact g1
    · cases hst
  · -- aaload
    unfold m_step
    rw [hcode]
    dsimp only
    split at hst
    · rename_i j o r
      obtain ⟨x, hq, hst⟩ := Option.bind_eq_some_iff.mp hst
      obtain ⟨hF', g1, g2⟩ := nx _ _ _ _ _ R hst
      refine ⟨hF', ?_, g2⟩
      show (m_ar h' (mvP o) j).bind (fun x => e' y (k + 1) (mvLs ls) (.ref x :: r.map mvV) h') = _
      rw [mv_ar R hq]
      exact g1
    · cases hst
  · -- iastore
    unfold m_step
    rw [hcode]
    dsimp only
    split at hst
    · rename_i x j o r
      obtain ⟨h2, hq, hst⟩ := Option.bind_eq_some_iff.mp hst
      obtain ⟨h2', p1, R2⟩ := mv_pi R hq
      obtain ⟨hF', g1, g2⟩ := nx _ _ _ _ _ R2 hst
      refine ⟨hF', ?_, g2⟩
      show (m_pi h' (mvP o) 0 j x).bind (fun h2 => e' y (k + 1) (mvLs ls) (r.map mvV) h2) = _
      rw [p1]
      exact g1
    · cases hst
  · -- castore
    unfold m_step
    rw [hcode]
    dsimp only
    split at hst
    · rename_i x j o r
      obtain ⟨h2, hq, hst⟩ := Option.bind_eq_some_iff.mp hst
      obtain ⟨h2', p1, R2⟩ := mv_pi R hq
      obtain ⟨hF', g1, g2⟩ := nx _ _ _ _ _ R2 hst
      refine ⟨hF', ?_, g2⟩
      show (m_pi h' (mvP o) 1 j (vp_nar .char x)).bind (fun h2 => e' y (k + 1) (mvLs ls) (r.map mvV) h2) = _
      rw [p1]
      exact g1
    · cases hst
  · -- aastore
    unfold m_step
    rw [hcode]
    dsimp only
    split at hst
    · rename_i x j o r
      obtain ⟨h2, hq, hst⟩ := Option.bind_eq_some_iff.mp hst
      obtain ⟨h2', p1, R2⟩ := mv_pr R hq
      obtain ⟨hF', g1, g2⟩ := nx _ _ _ _ _ R2 hst
      refine ⟨hF', ?_, g2⟩
      show (m_pr h' (mvP o) j (mvP x)).bind (fun h2 => e' y (k + 1) (mvLs ls) (r.map mvV) h2) = _
      rw [p1]
      exact g1
    · cases hst
  · -- arraylength
    unfold m_step
    rw [hcode]
    dsimp only
    split at hst
    · rename_i o r
      obtain ⟨x, hq, hst⟩ := Option.bind_eq_some_iff.mp hst
      obtain ⟨hF', g1, g2⟩ := nx _ _ _ _ _ R hst
      refine ⟨hF', ?_, g2⟩
      show (m_al h' (mvP o)).bind (fun x => e' y (k + 1) (mvLs ls) (.int x :: r.map mvV) h') = _
      rw [mv_al R hq]
      exact g1
    · cases hst
  · -- idiv
    unfold m_step
    rw [hcode]
    dsimp only
    split at hst
    · rename_i y' x r
      split at hst
      · cases hst
      · rename_i hy0
        obtain ⟨hF', g1, g2⟩ := nx _ _ _ _ _ R hst
        refine ⟨hF', ?_, g2⟩
        show (if y' = nI 0 then none else e' y (k + 1) (mvLs ls) (.int (x / y') :: r.map mvV) h') = _
        rw [if_neg hy0]
        exact g1
    · cases hst
  · -- irem
    unfold m_step
    rw [hcode]
    dsimp only
    split at hst
    · rename_i y' x r
      split at hst
      · cases hst
      · rename_i hy0
        obtain ⟨hF', g1, g2⟩ := nx _ _ _ _ _ R hst
        refine ⟨hF', ?_, g2⟩
        show (if y' = nI 0 then none else e' y (k + 1) (mvLs ls) (.int (x - x / y' * y') :: r.map mvV) h') = _
        rw [if_neg hy0]
        exact g1
    · cases hst
  · -- lrem
    unfold m_step
    rw [hcode]
    dsimp only
    split at hst
    · rename_i y' x r
      split at hst
      · cases hst
      · rename_i hy0
        obtain ⟨hF', g1, g2⟩ := nx _ _ _ _ _ R hst
        refine ⟨hF', ?_, g2⟩
        show (if y' = 0 then none else e' y (k + 1) (mvLs ls) (.long (x - x / y' * y') :: r.map mvV) h') = _
        rw [if_neg hy0]
        exact g1
    · cases hst
  · -- ifCond
    unfold m_step
    rw [hcode]
    dsimp only
    split at hst
    · exact mv_br (fun rv hF q => he _ _ _ _ _ _ _ _ R q) (fun rv hF q => he _ _ _ _ _ _ _ _ R q) hst
    · cases hst
  · -- if_icmp
    unfold m_step
    rw [hcode]
    dsimp only
    split at hst
    · exact mv_br (fun rv hF q => he _ _ _ _ _ _ _ _ R q) (fun rv hF q => he _ _ _ _ _ _ _ _ R q) hst
    · cases hst
  · -- goto
    unfold m_step
    rw [hcode]
    dsimp only
    exact nx _ _ _ _ _ R hst
  · -- tableswitch
    unfold m_step
    rw [hcode]
    dsimp only
    split at hst
    · exact mv_sw (fun t rv hF q => he _ _ _ _ _ _ _ _ R q) _ _ (Nat.le_refl _) hst
    · cases hst
  · -- lookupswitch
    unfold m_step
    rw [hcode]
    dsimp only
    split at hst
    · exact mv_sw (fun t rv hF q => he _ _ _ _ _ _ _ _ R q) _ _ (Nat.le_refl _) hst
    · cases hst
  · -- invokevirtual
    unfold m_step
    rw [hcode]
    dsimp only
    split at hst
    · rename_i z n
      split at hst
      · rename_i o as r hargs
        have ha := mv_args _ _ _ _ _ hargs
        have ha : m_args n [] (st.map mvV) = some (.ref (mvP o) :: as.map mvV, r.map mvV) := ha
        rw [ha]
        dsimp only
        cases h1 : Nat.blt z 900 with
        | false => rw [h1] at hst; cases hst
        | true =>
          rw [h1] at hst
          rw [mv_okc]
          cases h2 : m_okc as r with
          | false => rw [h2] at hst; cases hst
          | true =>
            rw [h2] at hst
            simp only [cond_true] at hst ⊢
            split at hst
            · rename_i hc
              rw [if_pos (mv_cls R hc)]
              exact mv_call he R hst
            · cases hst
      · rename_i j as r hargs
        have ha := mv_args _ _ _ _ _ hargs
        have ha : m_args n [] (st.map mvV) = some (.retAddr j :: as.map mvV, r.map mvV) := ha
        rw [ha]
        dsimp only
        cases h1 : Nat.blt 999 z with
        | false => rw [h1] at hst; cases hst
        | true =>
          rw [h1] at hst
          rw [mv_okc]
          cases h2 : m_okc as r with
          | false => rw [h2] at hst; cases hst
          | true =>
            rw [h2] at hst
            simp only [cond_true] at hst ⊢
            obtain ⟨x, hq, hst⟩ := Option.bind_eq_some_iff.mp hst
            obtain ⟨hF', g1, g2⟩ := nx _ _ _ _ _ R hst
            refine ⟨hF', ?_, g2⟩
            rw [mv_str, hq]
            exact g1
      · cases hst
    · cases hst
  · -- invokestatic
    unfold m_step
    rw [hcode]
    dsimp only
    split at hst
    · rename_i z n
      split at hst
      · rename_i as r hargs
        have ha : m_args n [] (st.map mvV) = some (as.map mvV, r.map mvV) := mv_args _ _ _ _ _ hargs
        rw [ha]
        dsimp only
        rw [mv_okc]
        cases h2 : m_okc as r with
        | false => rw [h2] at hst; cases hst
        | true =>
          rw [h2] at hst
          exact mv_call he R hst
      · cases hst
    · cases hst
  · -- invokespecial
    unfold m_step
    rw [hcode]
    dsimp only
    split at hst
    · split at hst
      · rename_i o r
        show ∃ hF', (bif m_okr (r.map mvV) then e' y (k + 1) (mvLs ls) (r.map mvV) h' else none) = some (rv.map mvV, hF') ∧ Mv hF hF'
        rw [mv_okr]
        cases h2 : m_okr r with
        | false => rw [h2] at hst; cases hst
        | true =>
          rw [h2] at hst
          exact nx _ _ _ _ _ R hst
      · cases hst
    · rename_i z n
      split at hst
      · rename_i o as r hargs
        have ha := mv_args _ _ _ _ _ hargs
        have ha : m_args n [] (st.map mvV) = some (.ref (mvP o) :: as.map mvV, r.map mvV) := ha
        rw [ha]
        dsimp only
        rw [mv_okc]
        cases h2 : m_okc as r with
        | false => rw [h2] at hst; cases hst
        | true =>
          rw [h2] at hst
          exact mv_call he R hst
      · cases hst
    · cases hst
  · -- return
    unfold m_step
    rw [hcode]
    dsimp only
    split at hst
    · cases hst
      exact ⟨h', rfl, R⟩
    · cases hst
  · -- ireturn
    unfold m_step
    rw [hcode]
    dsimp only
    split at hst
    · rename_i x
      show ∃ hF', (bif Nat.beq (m_rt y) 0 then some (some (.int x), h') else (bif Nat.beq (m_rt y) 1 then (if x = nI 0 ∨ x = nI 1 then some (some (.int x), h') else none) else (if vp_nar .char x = x then some (some (.int x), h') else none))) = some (rv.map mvV, hF') ∧ Mv hF hF'
      cases h1 : Nat.beq (m_rt y) 0 with
      | true =>
        rw [h1] at hst
        cases hst
        exact ⟨h', rfl, R⟩
      | false =>
        rw [h1] at hst
        cases h2 : Nat.beq (m_rt y) 1 with
        | true =>
          rw [h2] at hst
          simp only [cond_false, cond_true] at hst ⊢
          split at hst
          · rename_i hx
            cases hst
            exact ⟨h', by rw [if_pos hx]; rfl, R⟩
          · cases hst
        | false =>
          rw [h2] at hst
          simp only [cond_false] at hst ⊢
          split at hst
          · rename_i hx
            cases hst
            exact ⟨h', by rw [if_pos hx]; rfl, R⟩
          · cases hst
    · cases hst
  · -- areturn
    unfold m_step
    rw [hcode]
    dsimp only
    split at hst
    · cases hst
      exact ⟨h', rfl, R⟩
    · cases hst
  · -- new
    unfold m_step
    rw [hcode]
    dsimp only
    obtain ⟨hF', g1, g2⟩ := nx _ _ _ _ _ (R.push _) hst
    refine ⟨hF', ?_, g2⟩
    rw [mv_def, List.map_cons, show mvV (.ref h.length) = .ref h'.length by show Value.ref (mvP h.length) = _; rw [R.len]] at g1
    exact g1
  · -- newarray
    unfold m_step
    rw [hcode]
    dsimp only
    split at hst
    · rename_i n r
      split at hst
      · cases hst
      · rename_i hn
        obtain ⟨hF', g1, g2⟩ := nx _ _ _ _ _ (R.push _) hst
        refine ⟨hF', ?_, g2⟩
        rw [List.map_cons, show mvV (.ref h.length) = .ref h'.length by show Value.ref (mvP h.length) = _; rw [R.len]] at g1
        show (if n < 0 ∨ 100000 < n.toNatClampNeg then none else e' y (k + 1) (mvLs ls) (.ref h'.length :: r.map mvV) (h' ++ [.inl (m_a0 a, n.toNatClampNeg, .inl fun _ => 0)])) = _
        rw [if_neg hn]
        exact g1
    · cases hst
  · -- anewarray
    unfold m_step
    rw [hcode]
    dsimp only
    split at hst
    · rename_i n r
      split at hst
      · cases hst
      · rename_i hn
        obtain ⟨hF', g1, g2⟩ := nx _ _ _ _ _ (R.push _) hst
        refine ⟨hF', ?_, g2⟩
        rw [List.map_cons, show mvV (.ref h.length) = .ref h'.length by show Value.ref (mvP h.length) = _; rw [R.len]] at g1
        show (if n < 0 ∨ 100000 < n.toNatClampNeg then none else e' y (k + 1) (mvLs ls) (.ref h'.length :: r.map mvV) (h' ++ [.inl (2, n.toNatClampNeg, .inr (.inr (.inr (.inr fun _ => none))))])) = _
        rw [if_neg hn]
        exact g1
    · cases hst
  · -- the pure ones
    split at hst
    · rename_i l s hp
      rw [mv_stepP hcode (mv_pure hp)]
      exact nx _ _ _ _ _ R hst
    · cases hst
theorem mv_run : ∀ n, MvF (m_run n) (m_run n) := by
  intro n
  induction n with
  | zero => intro y k ls st h h' rv hF _ q; cases q
  | succ n ih => intro y k ls st h h' rv hF R q; exact mv_step ih R q
theorem mv_ev (R : Mv h h') (q : m_ev y k ls st h = some (rv, hF)) : ∃ hF', m_ev y k (mvLs ls) (st.map mvV) h' = some (rv.map mvV, hF') ∧ Mv hF hF' := by
  obtain ⟨n, hn⟩ := m_ev_run q
  obtain ⟨hF', g1, g2⟩ := mv_run n _ _ _ _ _ _ _ _ R hn
  exact ⟨hF', m_ev_of g1, g2⟩
end
