/-! class and model side by side: at first -/
theorem CA.ex {h h' : MH} {hl sp hp hk : Nat} {L M T S : LT} {P K : Nat → LT} (e : CA h hl sp L M T S hp P hk K) (f : Ex h h') (f0 : h'[0]? = h[0]?) : CA h' hl sp L M T S hp P hk K := by
  obtain ⟨c_sw, c_o, c_hi, ⟨_, c_spa⟩, c_tx, ⟨_, c_sc⟩, c_mo, ⟨_, c_tri⟩, ⟨_, c_sh⟩, ⟨_, c_ke⟩, c_se, ⟨_, c_ou, c_ob⟩, ⟨_, c_ch⟩⟩ := e
  exact ⟨c_sw, by rw [f0]; exact c_o, f.hi (by omega) c_hi, ⟨_, f.hi (by omega) c_spa⟩, f.tx (by omega) c_tx, ⟨_, f.sc (by omega) c_sc⟩, f.mo (by omega) c_mo, ⟨_, f.mo (by omega) c_tri⟩, ⟨_, f.sh (by omega) c_sh⟩, ⟨_, f.sh (by omega) c_ke⟩, f.se (by omega) c_se, ⟨_, f.ou (by omega) c_ou, c_ob⟩, ⟨_, f.at (by omega) c_ch⟩⟩
theorem cop0_wf (T L C : LT) (h : (cop0 T L C).1 = none) : WfH (cop0 T L C).2.1 := copP_wf T 200 _ _ (clL_wf L) h
theorem both_gen {L M T : LT} {h1 : MH} (hT : T 1 0 = 0) (l1 : h1.length = 72) (ag : AgM M (st0 L)) (ca : CA h1 3 13 L M T zL 0 (fun _ => zL) 0 (fun _ => zL)) (fs : FS L 7 3) (wf : WfH L) : ∃ h2, m_ev 96 0 (m_ent (m_maxL 96) [.ref 72]) [] (h1 ++ [.inr (8, m_def 8)]) = some (none, h2) ∧ CS h2 0 := by
  obtain ⟨h2, V, q2, l2, k2, md, rv⟩ := n_model (P := fun _ => zL) (K := fun _ => zL) l1 fs wf
  have l6 : L 7 6 = 3 := fs.2.2.2.2.2.2.2.1
  obtain ⟨r1, r2, r3, r4, r5, r6⟩ := rv
  have rv : RV V L (st0 L) T zL 0 (fun _ => zL) 0 (fun _ => zL) := ⟨r1, r2, ⟨r3.1.trans hT.symm, fun i hi => absurd hi (by rw [hT]; omega)⟩, r4, r5, r6⟩
  refine ⟨h2, q2, l2, V, 3, 13, L, M, T, zL, 0, _, 0, _, ca.ex ⟨by omega, fun b _ hb => k2 b (by omega)⟩ (k2 0 (by omega)), md, rv.ag wf ag, ?_, by omega⟩
  have wf' := wf
  obtain ⟨v1, v2, v3, v4, v5, v6, v7, v8, v9, v10, v11, v12, v13⟩ := wf
  exact ⟨wf', ⟨by rw [hT]; omega, fun i hi => absurd hi (by rw [hT]; omega)⟩, WfN.cg wf' ag ⟨⟨Nat.zero_le _, by show 0 < _; omega, Nat.zero_le _, Nat.zero_le _, fun a ha => ⟨(v13 a ha).1, Nat.zero_le _⟩⟩, fun a _ => Nat.zero_le _⟩, fun j hj => absurd hj (Nat.not_lt_zero _), fun j hj => absurd hj (Nat.not_lt_zero _), Nat.zero_le _, fun i hi => absurd hi (Nat.not_lt_zero _)⟩
theorem fir_wf : WfH (cop0 firT zL zL).2.1 := cop0_wf firT zL zL fir_FS.1
