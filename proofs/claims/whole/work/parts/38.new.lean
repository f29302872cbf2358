/-! new objects -/
theorem pf_mid {h tl : MH} {c k : Nat} {fs : List Value} {v : Value} (hk : k < fs.length) : m_pf (h ++ (Sum.inr (c, fs) :: tl)) h.length c k v = some (h ++ (Sum.inr (c, fs.set k v) :: tl)) := by
  rw [pf_e (c := c) (fs := fs) (by simp) hk]
  simp
def hilC (g : Nat) : MH := [kH g (fun _ => 0), kI 12 (fun _ => 0), kI 10 (fun _ => 0), kI 10 (fun _ => 0), kI 10 (fun _ => 0), kI 10 (fun _ => 0), kI 4 (fun _ => 0), kI 4 (fun _ => 0)]
def momC (m : Nat) : MH := [kMo m (fun _ => 0), kI 4 (fun _ => 0), kI 4 (fun _ => 0)]
def outC (o : Nat) : MH := [kOl o, kI 576 (fun _ => 0), kI 800 (fun _ => 0)]
def scrC (a t : Nat) : MH := [kSc a t (fun _ => 0), kI 4 (fun _ => 0)]
def seeC (a : Nat) : MH := [kSe a (fun _ => 0), kI 6 (fun _ => 0), kI 6 (fun _ => 0)]
def texC (a : Nat) : MH := [kTx a (fun _ => 0), kC 200 (fun _ => 0)]
section
variable {y k : Nat} {ls : ML} {r : List Value} {h : MH}
theorem n_moment : m_call m_ev 12 y k [.ref h.length] ls r (h ++ [.inr (1, m_def 1)]) = m_ev y k ls r (h ++ momC h.length) := by
  refine cl_0 ?_
  show m_ev 12 0 [some (.ref h.length)] [] (h ++ [.inr (1, m_def 1)]) = _
  rw [b12_0]
  simp only [List.append_assoc, List.cons_append, List.nil_append, List.length_append, List.length_cons, List.length_nil]
  rw [pf_mid (by first | decide | (simp only [List.length_set]; decide))]
  simp only [Option.bind_some, List.append_assoc, List.cons_append, List.nil_append, List.length_append, List.length_cons, List.length_nil]
  rw [pf_mid (by first | decide | (simp only [List.length_set]; decide))]
  rfl
theorem n_text : m_call m_ev 55 y k [.ref h.length] ls r (h ++ [.inr (6, m_def 6)]) = m_ev y k ls r (h ++ texC h.length) := by
  refine cl_0 ?_
  show m_ev 55 0 [some (.ref h.length)] [] (h ++ [.inr (6, m_def 6)]) = _
  rw [b55_0]
  simp only [List.append_assoc, List.cons_append, List.nil_append, List.length_append, List.length_cons, List.length_nil]
  rw [pf_mid (by first | decide | (simp only [List.length_set]; decide))]
  rfl
theorem n_outlook : m_call m_ev 24 y k [.ref h.length] ls r (h ++ [.inr (2, m_def 2)]) = m_ev y k ls r (h ++ outC h.length) := by
  refine cl_0 ?_
  show m_ev 24 0 [some (.ref h.length)] [] (h ++ [.inr (2, m_def 2)]) = _
  rw [b24_0]
  simp only [List.append_assoc, List.cons_append, List.nil_append, List.length_append, List.length_cons, List.length_nil]
  rw [pf_mid (by first | decide | (simp only [List.length_set]; decide))]
  simp only [Option.bind_some, List.append_assoc, List.cons_append, List.nil_append, List.length_append, List.length_cons, List.length_nil]
  rw [pf_mid (by first | decide | (simp only [List.length_set]; decide))]
  rfl
theorem n_seen : m_call m_ev 52 y k [.ref h.length] ls r (h ++ [.inr (5, m_def 5)]) = m_ev y k ls r (h ++ seeC h.length) := by
  refine cl_0 ?_
  show m_ev 52 0 [some (.ref h.length)] [] (h ++ [.inr (5, m_def 5)]) = _
  rw [b52_0]
  simp only [List.append_assoc, List.cons_append, List.nil_append, List.length_append, List.length_cons, List.length_nil]
  rw [pf_mid (by first | decide | (simp only [List.length_set]; decide))]
  simp only [Option.bind_some, List.append_assoc, List.cons_append, List.nil_append, List.length_append, List.length_cons, List.length_nil]
  rw [pf_mid (by first | decide | (simp only [List.length_set]; decide))]
  rfl
theorem n_scribe {t : Nat} : m_call m_ev 36 y k [.ref h.length, .ref t] ls r (h ++ [.inr (3, m_def 3)]) = m_ev y k ls r (h ++ scrC h.length t) := by
  refine cl_0 ?_
  show m_ev 36 0 [some (.ref h.length), some (.ref t)] [] (h ++ [.inr (3, m_def 3)]) = _
  rw [b36_0]
  simp only [List.append_assoc, List.cons_append, List.nil_append, List.length_append, List.length_cons, List.length_nil]
  rw [pf_mid (by first | decide | (simp only [List.length_set]; decide))]
  simp only [Option.bind_some]
  rw [pf_mid (by simp only [List.length_set]; decide)]
  rfl
theorem n_hill : m_call m_ev 0 y k [.ref h.length] ls r (h ++ [.inr (0, m_def 0)]) = m_ev y k ls r (h ++ hilC h.length) := by
  refine cl_0 ?_
  show m_ev 0 0 [some (.ref h.length)] [] (h ++ [.inr (0, m_def 0)]) = _
  rw [b0_0]
  simp only [List.append_assoc, List.cons_append, List.nil_append, List.length_append, List.length_cons, List.length_nil]
  rw [pf_mid (by first | decide | (simp only [List.length_set]; decide))]
  simp only [Option.bind_some, List.append_assoc, List.cons_append, List.nil_append, List.length_append, List.length_cons, List.length_nil]
  rw [pf_mid (by first | decide | (simp only [List.length_set]; decide))]
  simp only [Option.bind_some, List.append_assoc, List.cons_append, List.nil_append, List.length_append, List.length_cons, List.length_nil]
  rw [pf_mid (by first | decide | (simp only [List.length_set]; decide))]
  simp only [Option.bind_some, List.append_assoc, List.cons_append, List.nil_append, List.length_append, List.length_cons, List.length_nil]
  rw [pf_mid (by first | decide | (simp only [List.length_set]; decide))]
  simp only [Option.bind_some, List.append_assoc, List.cons_append, List.nil_append, List.length_append, List.length_cons, List.length_nil]
  rw [pf_mid (by first | decide | (simp only [List.length_set]; decide))]
  simp only [Option.bind_some, List.append_assoc, List.cons_append, List.nil_append, List.length_append, List.length_cons, List.length_nil]
  rw [pf_mid (by first | decide | (simp only [List.length_set]; decide))]
  simp only [Option.bind_some, List.append_assoc, List.cons_append, List.nil_append, List.length_append, List.length_cons, List.length_nil]
  rw [pf_mid (by first | decide | (simp only [List.length_set]; decide))]
  rfl
end
