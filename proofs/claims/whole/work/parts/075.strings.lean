/-! a call of a String's own method on one of the two constants (owed: see NOTES) -/
def m_strY (z : Nat) : MethodName := bif Nat.beq z 1000 then yJ0_length_8abf5 else bif Nat.beq z 1001 then yJ0_charAt_5068e else yJ0_indexOf_0f7a4
section MSTR
variable {p : Program} {l : Launch} {e : Env} {R : Room} {s : State} {m : MethodId} {args : Array Value} {below : List Frame} {meth : Method} {c : Code} {H : Heap} {locs : List Loc} {cells slots : Nat} {Q : State → Prop} {G : m_GT} {y : Nat}
theorem m_Wstr (F : m_Fr p G y R s m args meth c) {h : MH} {z j idx pc : Nat} {as r : List Value} {x : Int32} {lsA : Array Slot} (hR : m_Rel G h H) (hS : va_S (m_A G) s.heap H locs) (hsz : lsA.size = m_maxL y) (hq : m_str (z - 1000) j as = some x) (hj : j < 2) (hz : 1000 ≤ z ∧ z < 1003) (hlink : Cond.methodLink (m_own y) idx (m_strY z) ∈ m_tbl) (hr : ((r.map (m_tv G)).map fun v => v.category).sum ≤ 8) (hfr : 5 ≤ m_frm y) (hlo : 140 ≤ m_loc y) (hd : decode (m_bytes y) pc = .ok (.invokevirtual idx, 3))
    (kk : ∀ (H1 : Heap) (locs1 : List Loc), m_Rel G h H1 → va_S (m_A G) s.heap H1 locs1 → H1.size = H.size → W p l e R s m args below meth c H1 locs1 cells slots Q (F0 m (pc + 3) lsA (.int x :: r.map (m_tv G)))) : W p l e R s m args below meth c H locs cells slots Q (F0 m pc lsA ((as.map (m_tv G)).reverse ++ .ref (G.2.1 j) :: r.map (m_tv G))) := by
  sorry
end MSTR
