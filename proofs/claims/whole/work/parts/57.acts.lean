/-! the model: what changes -/
def msz (c : Nat) : Nat := if c = 73 then 12 else if c = 74 then 40 else if c = 75 then 4 else if c = 76 then 12 else if c = 77 then 96 else if c = 78 then 24 else if c = 79 then 12 else if c = 80 then 200 else if c = 81 then 4 else if c = 82 then 12 else if c = 83 then 40 else if c = 84 then 4 else if c = 85 then 4 else if c = 86 then 577 else if c = 87 then 100 else if c = 88 then 12 else 0
theorem msz_c {c k : Nat} (hk : k < msz c) : c = 73 ∨ c = 74 ∨ c = 75 ∨ c = 76 ∨ c = 77 ∨ c = 78 ∨ c = 79 ∨ c = 80 ∨ c = 81 ∨ c = 82 ∨ c = 83 ∨ c = 84 ∨ c = 85 ∨ c = 86 ∨ c = 87 ∨ c = 88 := by
  refine Decidable.byContradiction (fun hn => ?_)
  have e : msz c = 0 := by
    unfold msz
    rw [if_neg (by omega), if_neg (by omega), if_neg (by omega), if_neg (by omega), if_neg (by omega), if_neg (by omega), if_neg (by omega), if_neg (by omega), if_neg (by omega), if_neg (by omega), if_neg (by omega), if_neg (by omega), if_neg (by omega), if_neg (by omega), if_neg (by omega), if_neg (by omega)]
  omega
theorem mdR {h : MH} {V : LT} (e : MdA h V) {c k : Nat} (hk : k < msz c) : m_ai h c 0 (nI k) = some (nI (V c k)) := by
  have f := mdF e
  rcases msz_c hk with rfl | rfl | rfl | rfl | rfl | rfl | rfl | rfl | rfl | rfl | rfl | rfl | rfl | rfl | rfl | rfl
  all_goals (have hk' := hk; simp [msz] at hk'; simp only [f, hk'])
theorem mdW {h : MH} {V : LT} (e : MdA h V) {c k : Nat} (x : Nat) (hk : k < msz c) : ∃ h', m_pi h c 0 (nI k) (nI x) = some h' ∧ MdA h' (uL V c k x) ∧ Fr 72 89 h h' := by
  rcases msz_c hk with rfl | rfl | rfl | rfl | rfl | rfl | rfl | rfl | rfl | rfl | rfl | rfl | rfl | rfl | rfl | rfl
  · exact mdW73 e x (by simpa [msz] using hk)
  · exact mdW74 e x (by simpa [msz] using hk)
  · exact mdW75 e x (by simpa [msz] using hk)
  · exact mdW76 e x (by simpa [msz] using hk)
  · exact mdW77 e x (by simpa [msz] using hk)
  · exact mdW78 e x (by simpa [msz] using hk)
  · exact mdW79 e x (by simpa [msz] using hk)
  · exact mdW80 e x (by simpa [msz] using hk)
  · exact mdW81 e x (by simpa [msz] using hk)
  · exact mdW82 e x (by simpa [msz] using hk)
  · exact mdW83 e x (by simpa [msz] using hk)
  · exact mdW84 e x (by simpa [msz] using hk)
  · exact mdW85 e x (by simpa [msz] using hk)
  · exact mdW86 e x (by simpa [msz] using hk)
  · exact mdW87 e x (by simpa [msz] using hk)
  · exact mdW88 e x (by simpa [msz] using hk)
-- what the model holds
def RT (V T : LT) : Prop := V 0 18 = T 1 0 ∧ ∀ i, i < T 1 0 → V 80 i = T 0 i
def RA (V L : LT) (hp : Nat) (P : Nat → LT) : Prop := V 0 11 = hp ∧ hp ≤ 8 ∧ ∀ j, j < hp → StV (V 77) (12 * (hp - 1 - j)) L (P j)
def RK (V L : LT) (hk : Nat) (K : Nat → LT) : Prop := V 0 13 = hk ∧ hk ≤ 2 ∧ ∀ j, j < hk → StV (V 78) (12 * (hk - 1 - j)) L (K j)
def RS (V S : LT) : Prop := V 0 15 = S 2 0 ∧ S 2 0 ≤ 6 ∧ ∀ i, i < S 2 0 → V 79 (2 * i) = S 0 i ∧ V 79 (2 * i + 1) = S 1 i
def RV (V L M T S : LT) (hp : Nat) (P : Nat → LT) (hk : Nat) (K : Nat → LT) : Prop := RH V L ∧ StV (V 76) 0 L M ∧ RT V T ∧ RA V L hp P ∧ RK V L hk K ∧ RS V S
section
variable {V V' L M T S : LT} {hp hk : Nat} {P K : Nat → LT}
theorem RH.f (rh : RH V L) (h0 : ∀ k, k ≤ 8 → V' 0 k = V 0 k) (h1 : V' 73 = V 73) (h2 : V' 74 = V 74) (h3 : V' 75 = V 75) : RH V' L := by
  unfold RH
  rw [h0 0 (by omega), h0 2 (by omega), h0 3 (by omega), h0 4 (by omega), h0 5 (by omega), h0 6 (by omega), h0 8 (by omega), h1, h2, h3]
  exact rh
theorem RT.f (r : RT V T) (h0 : V' 0 18 = V 0 18) (h1 : V' 80 = V 80) : RT V' T := by unfold RT; rw [h0, h1]; exact r
theorem RA.f (r : RA V L hp P) (h0 : V' 0 11 = V 0 11) (h1 : V' 77 = V 77) : RA V' L hp P := by unfold RA; rw [h0, h1]; exact r
theorem RK.f (r : RK V L hk K) (h0 : V' 0 13 = V 0 13) (h1 : V' 78 = V 78) : RK V' L hk K := by unfold RK; rw [h0, h1]; exact r
theorem RS.f (r : RS V S) (h0 : V' 0 15 = V 0 15) (h1 : V' 79 = V 79) : RS V' S := by unfold RS; rw [h0, h1]; exact r
/-- all rows from 73 to 80 stay, and the fields to 18 -/
def Sp (V V' : LT) : Prop := (∀ k, k ≤ 18 → V' 0 k = V 0 k) ∧ ∀ r, 73 ≤ r → r ≤ 80 → V' r = V r
theorem Sp.rf (V : LT) : Sp V V := ⟨fun _ _ => rfl, fun _ _ _ => rfl⟩
theorem Sp.tr {V1 V2 : LT} (a : Sp V V1) (b : Sp V1 V2) : Sp V V2 := ⟨fun k h => (b.1 k h).trans (a.1 k h), fun r h1 h2 => (b.2 r h1 h2).trans (a.2 r h1 h2)⟩
theorem Sk.sp (s : Sk V V') : Sp V V' := ⟨fun k _ => by rw [s 0 (by omega)], fun r _ h => s r h⟩
theorem RV.sp (r : RV V L M T S hp P hk K) (s : Sp V V') : RV V' L M T S hp P hk K := by
  obtain ⟨r1, r2, r3, r4, r5, r6⟩ := r
  obtain ⟨s0, s1⟩ := s
  refine ⟨r1.f (fun k h => s0 k (by omega)) (s1 73 (by omega) (by omega)) (s1 74 (by omega) (by omega)) (s1 75 (by omega) (by omega)), ?_, r3.f (s0 18 (by omega)) (s1 80 (by omega) (by omega)), r4.f (s0 11 (by omega)) (s1 77 (by omega) (by omega)), r5.f (s0 13 (by omega)) (s1 78 (by omega) (by omega)), r6.f (s0 15 (by omega)) (s1 79 (by omega) (by omega))⟩
  rw [s1 76 (by omega) (by omega)]; exact r2
theorem RV.sk (r : RV V L M T S hp P hk K) (s : Sk V V') : RV V' L M T S hp P hk K := r.sp s.sp
theorem StV.ag {f : Nat → Nat} {o : Nat} {M' : LT} (w12 : L 7 6 ≤ 4) (s : StV f o L M) (a : AgM M' M) : StV f o L M' := by
  obtain ⟨s0, s1, s2, s3, s4⟩ := s
  refine ⟨?_, ?_, ?_, ?_, fun b hb => ?_⟩
  · rw [a 2 0 (by omega) (by omega)]; exact s0
  · rw [a 2 1 (by omega) (by omega)]; exact s1
  · rw [a 2 2 (by omega) (by omega)]; exact s2
  · rw [a 2 3 (by omega) (by omega)]; exact s3
  · rw [a 0 b (by omega) (by omega), a 1 b (by omega) (by omega)]; exact s4 b hb
theorem StV.cp {f f' : Nat → Nat} {o o' : Nat} (w12 : L 7 6 ≤ 4) (s : StV f o L M) (h : ∀ i, i < 12 → f' (o' + i) = f (o + i)) : StV f' o' L M := by
  obtain ⟨s0, s1, s2, s3, s4⟩ := s
  refine ⟨?_, ?_, ?_, ?_, fun b hb => ⟨?_, ?_⟩⟩
  · have := h 0 (by omega); rw [Nat.add_zero, Nat.add_zero] at this; rw [this]; exact s0
  · rw [h 1 (by omega)]; exact s1
  · rw [h 2 (by omega)]; exact s2
  · rw [h 3 (by omega)]; exact s3
  · rw [h (4 + b) (by omega)]; exact (s4 b hb).1
  · rw [h (8 + b) (by omega)]; exact (s4 b hb).2
theorem uL_f (V : LT) {k j : Nat} (x : Nat) (h : j ≠ k) : (uL V 0 k x) 0 j = V 0 j := uL_k _ _ _ h
/-- a field that no one looks at here -/
theorem RV.ag {M' : LT} (wf : WfH L) (r : RV V L M T S hp P hk K) (a : AgM M' M) : RV V L M' T S hp P hk K := by
  have w12 := wf.2.2.2.2.2.2.2.2.2.2.2.1
  obtain ⟨r1, r2, r3, r4, r5, r6⟩ := r
  exact ⟨r1, r2.ag w12 a, r3, r4, r5, r6⟩
end
section
variable {y k : Nat} {ls : ML} {r : List Value} {h : MH} {V L M T S : LT} {hp hk : Nat} {P K : Nat → LT}
theorem cpy_loop {a b at0 fr0 n : Nat} (hab : a ≠ b) (h1 : at0 + n ≤ msz a) (h2 : fr0 + n ≤ msz b) (hn : n < 2 ^ 20) : ∀ (d i : Nat), i + d = n → ∀ (h : MH) (V : LT), MdA h V → ∃ h' V', m_ev 121 2 [some (.ref a), some (.int (nI at0)), some (.ref b), some (.int (nI fr0)), some (.int (nI n)), some (.int (nI i))] [] h = some (none, h') ∧ MdA h' V' ∧ Sx a V V' ∧ (∀ j, V' a j = if at0 + i ≤ j ∧ j < at0 + n then V b (fr0 + (j - at0)) else V a j) ∧ Fr 72 89 h h' := by
  intro d
  induction d with
  | zero =>
    intro i hi h V e
    obtain rfl : i = n := by omega
    refine ⟨h, V, ?_, e, Sx.rf _ _, fun j => by rw [if_neg (by omega)], Fr.rf _ _ _⟩
    rw [b121_2, if_pos (nI_le (Nat.le_refl _) (by omega)), b121_17]
  | succ d ih =>
    intro i hi h V e
    obtain ⟨h3, q3, e3, f3⟩ := mdW e (V b (fr0 + i)) (c := a) (k := at0 + i) (by omega)
    have s3 := Sx.u a V (at0 + i) (V b (fr0 + i))
    obtain ⟨h4, V4, q4, e4, s4, v4, f4⟩ := ih (i + 1) (by omega) h3 _ e3
    refine ⟨h4, V4, ?_, e4, s3.tr s4, ?_, f3.tr f4⟩
    · rw [b121_2, if_neg (nI_ge (show i < n by omega) (by omega)), b121_5]
      simp only [nI_add, mdR e (show fr0 + i < msz b by omega), Option.bind_some, q3]
      exact q4
    · intro j
      rw [v4 j]
      by_cases hj : at0 + (i + 1) ≤ j ∧ j < at0 + n
      · rw [if_pos hj, if_pos (by omega), s3 b (Ne.symm hab)]
      · rw [if_neg hj]
        by_cases hji : j = at0 + i
        · subst hji
          rw [if_pos (by omega), uL_s, show at0 + i - at0 = i by omega]
        · rw [if_neg (by omega), uL_k _ _ _ hji]
theorem d_copies (e : MdA h V) {a b at0 fr0 n : Nat} (hab : a ≠ b) (h1 : at0 + n ≤ msz a) (h2 : fr0 + n ≤ msz b) (hn : n < 2 ^ 20) : ∃ h' V', m_call m_ev 121 y k [.ref a, .int (nI at0), .ref b, .int (nI fr0), .int (nI n)] ls r h = m_ev y k ls r h' ∧ MdA h' V' ∧ Sx a V V' ∧ (∀ j, V' a j = if at0 ≤ j ∧ j < at0 + n then V b (fr0 + (j - at0)) else V a j) ∧ Fr 72 89 h h' := by
  obtain ⟨h4, V4, q4, e4, s4, v4, f4⟩ := cpy_loop hab h1 h2 hn n 0 (by omega) h V e
  refine ⟨h4, V4, cl_0 ?_, e4, s4, v4, f4⟩
  show m_ev 121 0 [some (.ref a), some (.int (nI at0)), some (.ref b), some (.int (nI fr0)), some (.int (nI n)), none] [] h = _
  rw [b121_0]
  exact q4
theorem shf_loop : ∀ (d i : Nat), i + d = 84 → ∀ (h : MH) (V : LT), MdA h V → ∃ h' V', m_ev 131 6 [some (.ref 72), some (.int (nI i))] [] h = m_ev 131 21 [some (.ref 72), some (.int (nI 84))] [] h' ∧ MdA h' V' ∧ Sx 77 V V' ∧ (∀ j, i ≤ j → j < 84 → V' 77 j = V 77 (j + 12)) ∧ (∀ j, j < i → V' 77 j = V 77 j) ∧ Fr 72 89 h h' := by
  intro d
  induction d with
  | zero =>
    intro i hi h V e
    obtain rfl : i = 84 := by omega
    refine ⟨h, V, ?_, e, Sx.rf _ _, fun j h1 h2 => by omega, fun j _ => rfl, Fr.rf _ _ _⟩
    rw [b131_6, if_pos (nI_le (Nat.le_refl _) (by omega))]
  | succ d ih =>
    intro i hi h V e
    obtain ⟨h3, q3, e3, f3⟩ := mdW77 e (V 77 (i + 12)) (k := i) (by omega)
    obtain ⟨h4, V4, q4, e4, s4, v4, v5, f4⟩ := ih (i + 1) (by omega) h3 _ e3
    refine ⟨h4, V4, ?_, e4, (Sx.u 77 V _ _).tr s4, ?_, ?_, f3.tr f4⟩
    · rw [b131_6, if_neg (nI_ge (show i < 84 by omega) (by omega)), b131_9]
      simp (disch := omega) only [nI_add, mdF e, Option.bind_some, q3]
      exact q4
    · intro j h1 h2
      by_cases hji : j = i
      · subst hji; rw [v5 j (by omega), uL_s]
      · rw [v4 j (by omega) h2, uL_k _ _ _ (by omega)]
    · intro j hj
      rw [v5 j (by omega), uL_k _ _ _ (by omega)]
theorem d_remembers (e : MdA h V) (wf : WfH L) (rv : RV V L M T S hp P hk K) : ∃ h' V', m_call m_ev 131 y k [.ref 72] ls r h = m_ev y k ls r h' ∧ MdA h' V' ∧ RV V' L M T S (min (hp + 1) 8) (puS P M) hk K ∧ V' 86 = V 86 ∧ Fr 72 89 h h' := by
  have w12 := wf.2.2.2.2.2.2.2.2.2.2.2.1
  obtain ⟨r1, r2, r3, r4, r5, r6⟩ := rv
  obtain ⟨a0, a1, a2⟩ := r4
  by_cases h8 : hp = 8
  · subst h8
    obtain ⟨h2, V2, q2, e2, s2, v2, _, f2⟩ := shf_loop 84 0 rfl h V e
    obtain ⟨h3, q3, e3, f3⟩ := mdW0 e2 11 7 (by simp)
    obtain ⟨h4, V4, q4, e4, s4, v4, f4⟩ := d_copies (y := 131) (k := 38) (ls := [some (.ref 72), some (.int (nI 84))]) (r := []) e3 (a := 77) (b := 76) (at0 := 12 * 7) (fr0 := 0) (n := 12) (by omega) (by decide) (by decide) (by omega)
    obtain ⟨h5, q5, e5, f5⟩ := mdW0 e4 11 8 (by simp)
    have x11 : V2 0 11 = 8 := by rw [s2 0 (by omega)]; exact a0
    have y11 : (uL V2 0 11 7) 0 11 = 7 := uL_s _ _ _ _
    have z11 : V4 0 11 = 7 := by rw [s4 0 (by omega)]; exact y11
    have row : ∀ q, q ≠ 0 → q ≠ 77 → (uL V4 0 11 8) q = V q := fun q h1 h2 => by rw [uL_row _ _ _ h1, s4 q h2, uL_row _ _ _ h1, s2 q h2]
    have fld : ∀ j, j ≠ 11 → (uL V4 0 11 8) 0 j = V 0 j := fun j hj => by rw [uL_k _ _ _ hj, s4 0 (by omega), uL_k _ _ _ hj, s2 0 (by omega)]
    have r77 : (uL V4 0 11 8) 77 = V4 77 := uL_row _ _ _ (by omega)
    have st76 : (uL V2 0 11 7) 76 = V 76 := by rw [uL_row _ _ _ (by omega), s2 76 (by omega)]
    refine ⟨h5, _, cl_0 ?_, e5, ⟨?_, ?_, r3.f (fld 18 (by omega)) (row 80 (by omega) (by omega)), ⟨uL_s _ _ _ _, by omega, ?_⟩, r5.f (fld 13 (by omega)) (row 78 (by omega) (by omega)), r6.f (fld 15 (by omega)) (row 79 (by omega) (by omega))⟩, row 86 (by omega) (by omega), ((f2.tr f3).tr f4).tr f5⟩
    · show m_ev 131 0 [some (.ref 72), none] [] h = _
      simp (disch := omega) only [b131_0, mdF e, Option.bind_some, a0, if_true, b131_4, q2]
      simp (disch := omega) only [b131_21, mdF e2, mdF e3, Option.bind_some, x11, nI_subN, q3, y11, nI_mulN]
      rw [q4]
      simp (disch := omega) only [b131_38, mdF e4, Option.bind_some, z11, nI_add, q5]
    · exact r1.f (fun j hj => fld j (by omega)) (row 73 (by omega) (by omega)) (row 74 (by omega) (by omega)) (row 75 (by omega) (by omega))
    · rw [row 76 (by omega) (by omega)]; exact r2
    · intro j hj
      rw [r77]
      by_cases hj0 : j = 0
      · subst hj0
        refine StV.cp w12 r2 (fun i hi => ?_)
        rw [v4, if_pos (by omega), st76]
        congr 1; omega
      · have hp1 : puS P M j = P (j - 1) := by simp [puS, hj0]
        rw [hp1]
        refine StV.cp w12 (a2 (j - 1) (by omega)) (fun i hi => ?_)
        rw [v4, if_neg (by omega), uL_row _ _ _ (by omega), v2 _ (by omega) (by omega)]
        congr 1; omega
  · obtain ⟨h4, V4, q4, e4, s4, v4, f4⟩ := d_copies (y := 131) (k := 38) (ls := [some (.ref 72), none]) (r := []) e (a := 77) (b := 76) (at0 := 12 * hp) (fr0 := 0) (n := 12) (by omega) (by show 12 * hp + 12 ≤ 96; omega) (by decide) (by omega)
    obtain ⟨h5, q5, e5, f5⟩ := mdW0 e4 11 (hp + 1) (by simp)
    have z11 : V4 0 11 = hp := by rw [s4 0 (by omega)]; exact a0
    have row : ∀ q, q ≠ 0 → q ≠ 77 → (uL V4 0 11 (hp + 1)) q = V q := fun q h1 h2 => by rw [uL_row _ _ _ h1, s4 q h2]
    have fld : ∀ j, j ≠ 11 → (uL V4 0 11 (hp + 1)) 0 j = V 0 j := fun j hj => by rw [uL_k _ _ _ hj, s4 0 (by omega)]
    have r77 : (uL V4 0 11 (hp + 1)) 77 = V4 77 := uL_row _ _ _ (by omega)
    have hm : min (hp + 1) 8 = hp + 1 := by omega
    rw [hm]
    refine ⟨h5, _, cl_0 ?_, e5, ⟨?_, ?_, r3.f (fld 18 (by omega)) (row 80 (by omega) (by omega)), ⟨uL_s _ _ _ _, by omega, ?_⟩, r5.f (fld 13 (by omega)) (row 78 (by omega) (by omega)), r6.f (fld 15 (by omega)) (row 79 (by omega) (by omega))⟩, row 86 (by omega) (by omega), f4.tr f5⟩
    · show m_ev 131 0 [some (.ref 72), none] [] h = _
      have n8 : ¬ nI hp = nI 8 := by rw [nI_eq (by omega) (by omega)]; exact h8
      simp (disch := omega) only [b131_0, mdF e, Option.bind_some, a0, n8, if_false, b131_27, nI_mulN]
      rw [q4]
      simp (disch := omega) only [b131_38, mdF e4, Option.bind_some, z11, nI_add, q5]
    · exact r1.f (fun j hj => fld j (by omega)) (row 73 (by omega) (by omega)) (row 74 (by omega) (by omega)) (row 75 (by omega) (by omega))
    · rw [row 76 (by omega) (by omega)]; exact r2
    · intro j hj
      rw [r77]
      by_cases hj0 : j = 0
      · subst hj0
        refine StV.cp w12 r2 (fun i hi => ?_)
        rw [v4, if_pos (by omega)]
        congr 1; omega
      · have hp1 : puS P M j = P (j - 1) := by simp [puS, hj0]
        rw [hp1]
        refine StV.cp w12 (a2 (j - 1) (by omega)) (fun i hi => ?_)
        rw [v4, if_neg (by omega)]
        congr 1; omega
-- an hour
theorem goes_loop {n : Nat} (hn : n ≤ 4) : ∀ (d i : Nat), i + d = n → ∀ (h : MH) (V : LT), MdA h V → V 0 8 = n → (∀ a, a < n → V 76 (8 + a) < 2 ^ 30) → ∃ h' V', m_ev 132 51 [some (.ref 72), some (.int (nI i))] [] h = some (none, h') ∧ MdA h' V' ∧ Sx 76 V V' ∧ (∀ j, V' 76 j = if 8 + i ≤ j ∧ j < 8 + n then V 76 j - 1 else V 76 j) ∧ Fr 72 89 h h' := by
  intro d
  induction d with
  | zero =>
    intro i hi h V e v8 hb
    obtain rfl : i = n := by omega
    refine ⟨h, V, ?_, e, Sx.rf _ _, fun j => by rw [if_neg (by omega)], Fr.rf _ _ _⟩
    rw [b132_51]
    simp (disch := omega) only [mdF e, Option.bind_some, v8, nI_leI, Nat.le_refl, if_true, b132_76]
  | succ d ih =>
    intro i hi h V e v8 hb
    have hbi := hb i (by omega)
    obtain ⟨h3, q3, e3, f3⟩ := mdW76 e (V 76 (8 + i) - 1) (k := 8 + i) (by omega)
    have s3 := Sx.u 76 V (8 + i) (V 76 (8 + i) - 1)
    obtain ⟨h4, V4, q4, e4, s4, v4, f4⟩ := ih (i + 1) (by omega) h3 _ e3 (by rw [s3 0 (by omega)]; exact v8) (by
      intro a ha
      by_cases hai : a = i
      · subst hai; rw [uL_s]; omega
      · rw [uL_k _ _ _ (by omega)]; exact hb a ha)
    refine ⟨h4, V4, ?_, e4, s3.tr s4, ?_, f3.tr f4⟩
    · rw [b132_51]
      simp (disch := omega) only [mdF e, Option.bind_some, v8, nI_leI, show ¬ n ≤ i by omega, if_false, b132_55, nI_add]
      by_cases h0 : V 76 (8 + i) ≤ 0
      · rw [if_pos h0, b132_71, nI_subN (by omega), show V 76 (8 + i) - 0 = V 76 (8 + i) - 1 by omega, q3]
        simp only [Option.bind_some, nI_add]
        exact q4
      · rw [if_neg h0, b132_69, nI_subN (by omega), q3]
        simp only [Option.bind_some, nI_add]
        exact q4
    · intro j
      rw [v4 j]
      by_cases hj : 8 + (i + 1) ≤ j ∧ j < 8 + n
      · rw [if_pos hj, if_pos (by omega), uL_k _ _ _ (by omega)]
      · rw [if_neg hj]
        by_cases hji : j = 8 + i
        · subst hji; rw [if_pos (by omega), uL_s]
        · rw [if_neg (by omega), uL_k _ _ _ hji]
theorem d_goes (e : MdA h V) (rh : RH V L) (st : StV (V 76) 0 L M) (wf : WfH L) (wm : WfM L M 30000) : ∃ h' V', m_call m_ev 132 y k [.ref 72] ls r h = m_ev y k ls r h' ∧ MdA h' V' ∧ Sx 76 V V' ∧ StV (V' 76) 0 L (goL L M 1) ∧ Fr 72 89 h h' := by
  obtain ⟨s0, s1, s2, s3, s4, s8⟩ := stF st
  have wf0 := wf
  obtain ⟨w1, w2, w3, w4, w5, w6, w7, w8, w9, w10, w11, w12, w13⟩ := wf0
  obtain ⟨m1, m2, m3, m4, m5⟩ := wm
  have r0 := rh.1
  have r2 := rh.2.1
  have r3 := rh.2.2.1
  have r4 := rh.2.2.2.1
  have r8 := rh.2.2.2.2.2.2.1
  have hsp := spot_s L M (L 7 1) (L 7 2) 0 w5
  rw [spot_0 L M _ _ m2] at hsp
  have hlt := spotL_lt wf M (L 7 1) (L 7 2) 1
  obtain ⟨h3, q3, e3, f3⟩ := mdW76 e (spotL L M (L 7 1) (L 7 2) 1) (k := 1) (by omega)
  obtain ⟨h4, q4, e4, f4⟩ := mdW76 e3 (M 2 0 + 1) (k := 0) (by omega)
  obtain ⟨h5, q5, e5, f5⟩ := mdW76 e4 (M 2 2 - 1) (k := 2) (by omega)
  have x3 := Sx.u 76 V 1 (spotL L M (L 7 1) (L 7 2) 1)
  have x4 := x3.tr (Sx.u 76 _ 0 (M 2 0 + 1))
  have x5 := x4.tr (Sx.u 76 _ 2 (M 2 2 - 1))
  have v0 : (uL V 76 1 (spotL L M (L 7 1) (L 7 2) 1)) 76 0 = M 2 0 := by rw [uL_k _ _ _ (by omega)]; exact s0
  have v2 : (uL (uL V 76 1 (spotL L M (L 7 1) (L 7 2) 1)) 76 0 (M 2 0 + 1)) 76 2 = M 2 2 := by rw [uL_k _ _ _ (by omega), uL_k _ _ _ (by omega)]; exact s2
  have rest : ∀ j, 3 ≤ j → (uL (uL (uL V 76 1 (spotL L M (L 7 1) (L 7 2) 1)) 76 0 (M 2 0 + 1)) 76 2 (M 2 2 - 1)) 76 j = V 76 j := fun j hj => by rw [uL_k _ _ _ (by omega), uL_k _ _ _ (by omega), uL_k _ _ _ (by omega)]
  obtain ⟨h6, V6, q6, e6, x6, v6, f6⟩ := goes_loop (n := L 7 6) w12 (L 7 6) 0 (by omega) h5 _ e5 (by rw [x5 0 (by omega)]; exact r8) (by
    intro a ha
    rw [rest _ (by omega), s8 a ha]
    have := (m5 a ha).2
    omega)
  refine ⟨h6, V6, cl_0 ?_, e6, x5.tr x6, ⟨?_, ?_, ?_, ?_, ?_⟩, ((f3.tr f4).tr f5).tr f6⟩
  · show m_ev 132 0 [some (.ref 72), none] [] h = _
    have n0 : ¬ nI (L 7 0) = nI 0 := by rw [nI_eq (by omega) (by omega)]; omega
    have tb := d_turnsBy (y := 132) (k := 21) (ls := [some (.ref 72), none]) (r := [.int (nI (M 2 1)), .int (nI 1), .ref 76]) e (a := M 2 0) (s := L 7 1) (ev := L 7 2) (f := nI (M 2 2)) (by omega) w5 (by omega)
    have hif : (if nI (M 2 2) ≤ nI 0 then (if (M 2 0 + 1) % L 7 2 = 0 then L 7 1 + V 0 4 else L 7 1) else 0) = (if ¬ 0 < M 2 2 then (if (M 2 0 + 0 + 1) % L 7 2 = 0 then L 7 1 + L 7 3 else L 7 1) else 0) := by
      rw [r4, Nat.add_zero]
      by_cases hc : 0 < M 2 2
      · rw [if_neg (by rw [nI_leI (by omega) (by omega)]; omega), if_neg (fun z => z hc)]
      · rw [if_pos (by rw [nI_leI (by omega) (by omega)]; omega), if_pos hc]
    rw [hif] at tb
    simp (disch := omega) only [b132_0, mdF e, Option.bind_some, s0, s1, s2, r2, r3, if_true, tb, b132_21, r0, n0, if_false, nI_add]
    generalize hg : (if ¬ 0 < M 2 2 then if (M 2 0 + 0 + 1) % L 7 2 = 0 then L 7 1 + L 7 3 else L 7 1 else 0) = t at *
    have ht : t ≤ 100 := by rw [← hg]; split <;> (try split) <;> omega
    rw [nI_remN (by omega) (by omega) (by omega), ← hsp, q3]
    simp (disch := omega) only [Option.bind_some, mdF e3, v0, nI_add, q4, mdF e4, v2, nI_leI]
    by_cases h0 : M 2 2 ≤ 0
    · rw [if_pos h0, b132_46, nI_subN (by omega), show M 2 2 - 0 = M 2 2 - 1 by omega, q5]
      exact q6
    · rw [if_neg h0, b132_44, nI_subN (by omega), q5]
      exact q6
  · rw [v6, if_neg (by omega), uL_k _ _ _ (by omega), uL_s]; rfl
  · rw [v6, if_neg (by omega), uL_k _ _ _ (by omega), uL_k _ _ _ (by omega), uL_s]; rfl
  · rw [v6, if_neg (by omega), uL_s]; rfl
  · rw [v6, if_neg (by omega), rest _ (by omega), s3]; rfl
  · intro a ha
    rw [Nat.zero_add, Nat.zero_add]
    constructor
    · rw [v6, if_neg (by omega), rest _ (by omega), s4 a ha]; rfl
    · rw [v6, if_pos (by omega), rest _ (by omega), s8 a ha]
      show M 1 a - 1 = if a < 4 then M 1 a - 1 else M 1 a
      rw [if_pos (by omega)]
theorem goL_s (wf : WfH L) (M : LT) (n : Nat) : goL L (goL L M n) 1 = goL L M (n + 1) := by
  have h2 : 1 ≤ L 7 2 := wf.2.2.2.2.1
  have hsp : spotL L (goL L M n) (L 7 1) (L 7 2) 1 = spotL L M (L 7 1) (L 7 2) (n + 1) := by
    have e0 : spotL L (goL L M n) (L 7 1) (L 7 2) 1 = _ := spot_s L (goL L M n) (L 7 1) (L 7 2) 0 h2
    rw [e0, spot_s L M _ _ n h2, spot_0 L (goL L M n) _ _ (spotL_lt wf M _ _ _)]
    have e1 : (goL L M n) 2 0 = M 2 0 + n := rfl
    have e2 : (goL L M n) 2 2 = M 2 2 - n := rfl
    have e3 : (goL L M n) 2 1 = spotL L M (L 7 1) (L 7 2) n := rfl
    rw [e1, e2, e3, Nat.add_zero]
    have : (0 < M 2 2 - n) = (n < M 2 2) := by apply propext; omega
    simp only [this]
  funext q i
  have ex : ∀ (M : LT) n, goL L M n q i = if q = 2 then (if i = 0 then M 2 0 + n else if i = 1 then spotL L M (L 7 1) (L 7 2) n else if i = 2 then M 2 2 - n else M 2 i) else if q = 1 then (if i < 4 then M 1 i - n else M 1 i) else M q i := fun _ _ => rfl
  rw [ex (goL L M n) 1, ex M (n + 1)]
  by_cases hq : q = 2
  · subst hq
    rw [if_pos rfl, if_pos rfl]
    by_cases h0 : i = 0
    · rw [if_pos h0, if_pos h0]; show M 2 0 + n + 1 = _; omega
    · rw [if_neg h0, if_neg h0]
      by_cases h1 : i = 1
      · rw [if_pos h1, if_pos h1, hsp]
      · rw [if_neg h1, if_neg h1]
        by_cases h2 : i = 2
        · rw [if_pos h2, if_pos h2]; show M 2 2 - n - 1 = _; omega
        · rw [if_neg h2, if_neg h2]
          show (if i = 0 then _ else if i = 1 then _ else if i = 2 then _ else M 2 i) = _
          rw [if_neg h0, if_neg h1, if_neg h2]
  · rw [if_neg hq, if_neg hq]
    by_cases h1 : q = 1
    · subst h1
      rw [if_pos rfl, if_pos rfl]
      by_cases h4 : i < 4
      · rw [if_pos h4, if_pos h4]
        show (if i < 4 then M 1 i - n else M 1 i) - 1 = _
        rw [if_pos h4]; omega
      · rw [if_neg h4, if_neg h4]
        show (if i < 4 then M 1 i - n else M 1 i) = _
        rw [if_neg h4]
    · rw [if_neg h1, if_neg h1]
      show (if q = 2 then _ else if q = 1 then _ else M q i) = _
      rw [if_neg hq, if_neg h1]
end
