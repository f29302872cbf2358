/-! the calls: grazing, year -/
def wtF (x : Nat) : Nat → (Nat → Nat)
  | 0 => fun g => if g = 0 then 1 else 0
  | n + 1 => fun g => if g = 0 then wtF x n 0 * (10 - x) else wtF x n g * (10 - x) + wtF x n (g - 1) * x
def abL (P : Nat → Bool) (f : Nat → Nat) : Nat → Nat → Nat → Nat
  | 0, _, acc => acc
  | d + 1, g, acc => abL P f d (g + 1) (if P g = true then acc + f g else acc)
def gcL : Nat → Nat → Nat → Nat
  | 0, a, _ => a
  | k + 1, a, b => if b = 0 then a else gcL k b (a % b)
def abvF (L M : LT) (w n x : Nat) : Nat := abL (fun g => L 0 ((spotL L M (L 7 1) (L 7 2) n + g) % L 7 0) == w) (wtF x n) (n + 1) 0 0
def graF (L M : LT) (w n x part : Nat) : Int32 := if gcL 64 (10 ^ n) (abvF L M w n x) < 1 then -1 else nI ((if part = 0 then abvF L M w n x else 10 ^ n) / gcL 64 (10 ^ n) (abvF L M w n x))
theorem wtF_le {x : Nat} (hx : x ≤ 10) : ∀ n g, wtF x n g ≤ 10 ^ n := by
  intro n
  induction n with
  | zero => intro g; unfold wtF; split <;> omega
  | succ n ih =>
    intro g
    have h1 := ih 0
    have h2 := ih g
    have h3 := ih (g - 1)
    have hp : 10 ^ (n + 1) = 10 ^ n * (10 - x) + 10 ^ n * x := by rw [← Nat.mul_add, Nat.pow_succ]; congr 1; omega
    unfold wtF
    split
    · have := Nat.mul_le_mul_right (10 - x) h1
      omega
    · have a1 := Nat.mul_le_mul_right (10 - x) h2
      have a2 := Nat.mul_le_mul_right x h3
      omega
theorem abL_le (P : Nat → Bool) (f : Nat → Nat) {c : Nat} (hf : ∀ g, f g ≤ c) : ∀ d g acc, abL P f d g acc ≤ acc + d * c := by
  intro d
  induction d with
  | zero => intro g acc; unfold abL; omega
  | succ d ih =>
    intro g acc
    unfold abL
    refine Nat.le_trans (ih _ _) ?_
    have := hf g
    have e : (d + 1) * c = d * c + c := Nat.succ_mul d c
    split <;> omega
section
variable {y k : Nat} {ls : ML} {r : List Value} {h h' : MH} {hl sp hp hk B o : Nat} {L M T S X : LT} {P K : Nat → LT} {f : Nat → Nat}
theorem chF (e : h[71]? = some (kI 9 (fun i => nI (f i)))) : m_al h 71 = some (nI 9) ∧ ∀ k, k < 9 → m_ai h 71 0 (nI k) = some (nI (f k)) := ⟨al_e e (by decide), fun k hk => ai_e e hk (by decide)⟩
theorem chW (e : h[71]? = some (kI 9 (fun i => nI (f i)))) {k : Nat} (x : Nat) (hk : k < 9) : ∃ h', m_pi h 71 0 (nI k) (nI x) = some h' ∧ h'[71]? = some (kI 9 (fun i => nI (if i = k then x else f i))) ∧ Fr 71 72 h h' := by
  refine ⟨_, pi_e e hk (by decide), ?_, Fr.st (by omega) (by omega)⟩
  rw [st_eq e, upd_nI]
theorem wt_init {n x : Nat} : ∀ (d g : Nat), g + d = 9 → ∀ (h : MH) (f : Nat → Nat), h[0]? = some (kO hl sp) → h[71]? = some (kI 9 (fun i => nI (f i))) → (∀ j, j < g → f j = wtF x 0 j) → ∃ (h' : MH) (f' : Nat → Nat), m_ev 92 4 [some (.ref 0), some (.int (nI n)), some (.int (nI x)), some (.int (nI 1)), some (.int (nI g)), none] [] h = m_ev 92 22 [some (.ref 0), some (.int (nI n)), some (.int (nI x)), some (.int (nI 1)), some (.int (nI 0)), none] [] h' ∧ h'[71]? = some (kI 9 (fun i => nI (f' i))) ∧ (∀ j, j < 9 → f' j = wtF x 0 j) ∧ Fr 71 72 h h' := by
  intro d
  induction d with
  | zero =>
    intro g hg h f o e hf
    obtain rfl : g = 9 := by omega
    refine ⟨h, f, ?_, e, hf, Fr.rf _ _ _⟩
    rw [b92_4]
    simp (disch := omega) only [oF o, Option.bind_some, chF e, nI_leI, Nat.le_refl, if_true, b92_20]
  | succ d ih =>
    intro g hg h f o e hf
    have hng : ¬ 9 ≤ g := by omega
    obtain ⟨h1, q1, e1, f1⟩ := chW e (wtF x 0 g) (k := g) (by omega)
    obtain ⟨h2, f2, q2, e2, hf2, fr2⟩ := ih (g + 1) (by omega) h1 _ (f1.at (by omega) o) e1 (by
      intro j hj
      by_cases hjg : j = g
      · subst hjg; simp
      · simp [hjg]; exact hf j (by omega))
    refine ⟨h2, f2, ?_, e2, hf2, f1.tr fr2⟩
    rw [b92_4]
    by_cases h0 : g = 0
    · subst h0
      have q1' : m_pi h 71 0 (nI 0) (nI 1) = some h1 := q1
      simp (disch := omega) only [oF o, Option.bind_some, chF e, nI_leI, hng, if_false, b92_9, if_true, b92_14, q1', nI_add]
      exact q2
    · have hw : wtF x 0 g = 0 := by simp [wtF, h0]
      rw [hw] at q1
      have h0' : ¬ nI g = nI 0 := by rw [nI_eq (by omega) (by omega)]; exact h0
      simp (disch := omega) only [oF o, Option.bind_some, chF e, nI_leI, hng, if_false, b92_9, h0', b92_16, q1, nI_add]
      exact q2
theorem wt_inner {n x i s : Nat} (hx : x ≤ 10) (f0 : Nat → Nat) : ∀ (g : Nat), g ≤ 8 → ∀ (h : MH) (f : Nat → Nat), h[0]? = some (kO hl sp) → h[71]? = some (kI 9 (fun i => nI (f i))) → (∀ j, j ≤ g → f j = f0 j) → (∀ j, g < j → j < 9 → f j = f0 j * (10 - x) + f0 (j - 1) * x) → ∃ (h' : MH) (f' : Nat → Nat), m_ev 92 31 [some (.ref 0), some (.int (nI n)), some (.int (nI x)), some (.int (nI s)), some (.int (nI i)), some (.int (nI g))] [] h = m_ev 92 22 [some (.ref 0), some (.int (nI n)), some (.int (nI x)), some (.int (nI (s * 10))), some (.int (nI (i + 1))), some (.int (nI 0))] [] h' ∧ h'[71]? = some (kI 9 (fun i => nI (f' i))) ∧ (∀ j, j < 9 → f' j = if j = 0 then f0 0 * (10 - x) else f0 j * (10 - x) + f0 (j - 1) * x) ∧ Fr 71 72 h h' := by
  intro g
  induction g with
  | zero =>
    intro _ h f o e hf hf2
    obtain ⟨h1, q1, e1, f1⟩ := chW e (f 0 * (10 - x)) (k := 0) (by omega)
    refine ⟨h1, _, ?_, e1, ?_, f1⟩
    · rw [b92_31]
      simp (disch := omega) only [nI_leI, Nat.le_refl, if_true, b92_56, oF o, Option.bind_some, chF e, nI_subN, nI_mulN, q1, nI_add]
    · intro j hj
      by_cases h0 : j = 0
      · subst h0; simp; rw [hf 0 (by omega)]
      · simp only [if_neg h0]; exact hf2 j (by omega) hj
  | succ g ih =>
    intro hg h f o e hf hf2
    obtain ⟨h1, q1, e1, f1⟩ := chW e (f (g + 1) * (10 - x) + f g * x) (k := g + 1) (by omega)
    obtain ⟨h2, f2, q2, e2, hf3, fr2⟩ := ih (by omega) h1 _ (f1.at (by omega) o) e1 (by
      intro j hj
      rw [if_neg (by omega)]; exact hf j (by omega)) (by
      intro j hj hj9
      by_cases hjg : j = g + 1
      · subst hjg
        rw [if_pos rfl, hf (g + 1) (by omega), hf g (by omega)]; rfl
      · rw [if_neg hjg]; exact hf2 j (by omega) hj9)
    refine ⟨h2, f2, ?_, e2, hf3, f1.tr fr2⟩
    have hs1 : nI (g + 1) - nI 1 = nI g := by rw [nI_subN (by omega)]; rfl
    have hm1 : (-1 : Int32) = -nI 1 := by decide
    have hs2 : nI (g + 1) + (-1) = nI g := by rw [hm1, ← Int32.sub_eq_add_neg, hs1]
    rw [b92_31]
    simp (disch := omega) only [nI_leI, if_neg (show ¬ g + 1 ≤ 0 by omega), b92_33, oF o, Option.bind_some, chF e, hs1, nI_subN, nI_mulN, nI_add, q1, hs2]
    exact q2
theorem wt_loop {n x : Nat} (hx : x ≤ 10) (hn : n ≤ 8) : ∀ (d i : Nat), i + d = n → ∀ (h : MH) (f : Nat → Nat) (d5 : Option Value), h[0]? = some (kO hl sp) → h[71]? = some (kI 9 (fun i => nI (f i))) → (∀ j, j < 9 → f j = wtF x i j) → ∃ (h' : MH) (f' : Nat → Nat), m_ev 92 22 [some (.ref 0), some (.int (nI n)), some (.int (nI x)), some (.int (nI (10 ^ i))), some (.int (nI i)), d5] [] h = some (some (.int (nI (10 ^ n))), h') ∧ h'[71]? = some (kI 9 (fun i => nI (f' i))) ∧ (∀ j, j < 9 → f' j = wtF x n j) ∧ Fr 71 72 h h' := by
  intro d
  induction d with
  | zero =>
    intro i hi h f d5 o e hf
    obtain rfl : i = n := by omega
    refine ⟨h, f, ?_, e, hf, Fr.rf _ _ _⟩
    rw [b92_22]
    simp (disch := omega) only [nI_leI, Nat.le_refl, if_true, b92_72]
  | succ d ih =>
    intro i hi h f d5 o e hf
    have hni : ¬ n ≤ i := by omega
    obtain ⟨h1, f1, q1, e1, hf1, fr1⟩ := wt_inner (n := n) (i := i) (s := 10 ^ i) hx f 8 (by omega) h f o e (fun _ _ => rfl) (fun j h1 h2 => by omega)
    obtain ⟨h2, f2, q2, e2, hf2, fr2⟩ := ih (i + 1) (by omega) h1 f1 (some (.int (nI 0))) (fr1.at (by omega) o) e1 (by
      intro j hj
      rw [hf1 j hj]
      by_cases h0 : j = 0
      · subst h0; simp [wtF, hf 0 (by omega)]
      · simp [wtF, h0, hf j hj, hf (j - 1) (by omega)])
    refine ⟨h2, f2, ?_, e2, hf2, fr1.tr fr2⟩
    have h81 : nI 9 - nI 1 = nI 8 := by decide
    rw [b92_22]
    simp (disch := omega) only [nI_leI, hni, if_false, b92_25, oF o, Option.bind_some, chF e, h81]
    rw [q1]
    exact q2
theorem c_weighTurns {n x : Nat} (hx : x ≤ 10) (hn : n ≤ 8) (o : h[0]? = some (kO hl sp)) (e : h[71]? = some (kI 9 (fun i => nI (f i)))) : ∃ (h' : MH) (f' : Nat → Nat), m_call m_ev 92 y k [.ref 0, .int (nI n), .int (nI x)] ls r h = m_ev y k ls (.int (nI (10 ^ n)) :: r) h' ∧ h'[71]? = some (kI 9 (fun i => nI (f' i))) ∧ (∀ j, j < 9 → f' j = wtF x n j) ∧ Fr 71 72 h h' := by
  obtain ⟨h1, f1, q1, e1, hf1, fr1⟩ := wt_init (n := n) (x := x) 9 0 rfl h f o e (fun j hj => by omega)
  obtain ⟨h2, f2, q2, e2, hf2, fr2⟩ := wt_loop hx hn n 0 (by omega) h1 f1 none (fr1.at (by omega) o) e1 hf1
  refine ⟨h2, f2, cl_v ?_, e2, hf2, fr1.tr fr2⟩
  show m_ev 92 0 [some (.ref 0), some (.int (nI n)), some (.int (nI x)), none, none, none] [] h = _
  rw [b92_0, q1]
  exact q2
theorem gc_loop : ∀ (d i a b : Nat), i + d = 64 → a < 2 ^ 31 → b < 2 ^ 31 → ∀ (d3 : Option Value), m_ev 93 2 [some (.int (nI a)), some (.int (nI b)), some (.int (nI i)), d3] [] h = some (some (.int (nI (gcL d a b))), h) := by
  intro d
  induction d with
  | zero =>
    intro i a b hi ha hb d3
    obtain rfl : i = 64 := by omega
    rw [b93_2]
    simp (disch := omega) only [nI_leI, Nat.le_refl, if_true, b93_17, gcL]
  | succ d ih =>
    intro i a b hi ha hb d3
    have hni : ¬ 64 ≤ i := by omega
    rw [b93_2]
    simp (disch := omega) only [nI_leI, hni, if_false, b93_5, nI_eq, gcL]
    by_cases h0 : b = 0
    · rw [if_pos h0, if_pos h0, b93_17]
    · have hm : a % b < b := Nat.mod_lt _ (by omega)
      rw [if_neg h0, if_neg h0, b93_7, if_neg (by rw [nI_eq (by omega) (by omega)]; exact h0), nI_remN ha (by omega) hb, nI_add]
      exact ih (i + 1) b (a % b) (by omega) hb (by omega) _
theorem c_commonDivisor {a b : Nat} (ha : a < 2 ^ 31) (hb : b < 2 ^ 31) : m_call m_ev 93 y k [.int (nI a), .int (nI b)] ls r h = m_ev y k ls (.int (nI (gcL 64 a b)) :: r) h := by
  refine cl_v ?_
  show m_ev 93 0 [some (.int (nI a)), some (.int (nI b)), none, none] [] h = _
  rw [b93_0]
  exact gc_loop 64 0 a b rfl ha hb none
theorem gcL_le : ∀ (d a b c : Nat), a ≤ c → b ≤ c → gcL d a b ≤ c := by
  intro d
  induction d with
  | zero => intro a b c h1 _; exact h1
  | succ d ih =>
    intro a b c h1 h2
    unfold gcL
    split
    · exact h1
    · exact ih b (a % b) c h2 (Nat.le_trans (Nat.mod_le _ _) h1)
theorem above_loop (o : h[0]? = some (kO hl sp)) (u : HiA h hl L) (wf : WfH L) (e : h[71]? = some (kI 9 (fun i => nI (f i)))) {w n x part s b : Nat} (hw : w ≤ 3) (hn : n ≤ 8) (hs : s < L 7 0) : ∀ (d g acc : Nat), g + d = n + 1 → m_ev 82 42 [some (.ref 0), some (.int (nI w)), some (.int (nI n)), some (.int (nI x)), some (.int (nI part)), some (.int (nI b)), some (.int (nI acc)), some (.int (nI s)), some (.int (nI g))] [] h = m_ev 82 70 [some (.ref 0), some (.int (nI w)), some (.int (nI n)), some (.int (nI x)), some (.int (nI part)), some (.int (nI b)), some (.int (nI (abL (fun g => L 0 ((s + g) % L 7 0) == w) f d g acc))), some (.int (nI s)), some (.int (nI (n + 1)))] [] h := by
  have w1 := wf.1
  have w2 := wf.2.1
  intro d
  induction d with
  | zero =>
    intro g acc hg
    obtain rfl : g = n + 1 := by omega
    rw [b82_42]
    simp (disch := omega) only [nI_ltI, if_pos (show n < n + 1 by omega), abL]
  | succ d ih =>
    intro g acc hg
    have hng : ¬ n < g := by omega
    have hng9 : ¬ 9 ≤ g := by omega
    have hm : (s + g) % L 7 0 < L 7 0 := Nat.mod_lt _ (by omega)
    have hl4 := wf.2.2.1 _ hm
    rw [b82_42]
    simp (disch := omega) only [nI_ltI, hng, if_false, b82_45, oF o, Option.bind_some, chF e, nI_leI, hng9, b82_50, hiF u, if_true, nI_add, c_spotAround u (show 1 ≤ L 7 0 ∧ L 7 0 ≤ 12 by omega), b82_58, c_wordAt u w2 hm, b82_59, nI_eq, b82_61, b82_68, abL, beq_iff_eq]
    by_cases hc : L 0 ((s + g) % L 7 0) = w
    · rw [if_pos hc, if_pos hc]; exact ih (g + 1) _ (by omega)
    · rw [if_neg hc, if_neg hc]; exact ih (g + 1) _ (by omega)
theorem abL_cg {P : Nat → Bool} {f f' : Nat → Nat} : ∀ (d g acc : Nat), (∀ j, g ≤ j → j < g + d → f j = f' j) → abL P f d g acc = abL P f' d g acc := by
  intro d
  induction d with
  | zero => intro g acc _; rfl
  | succ d ih =>
    intro g acc h
    unfold abL
    rw [h g (by omega) (by omega)]
    exact ih (g + 1) _ (fun j h1 h2 => h j (by omega) (by omega))
theorem a_grazing_bad {x1 x2 x3 x4 : Int32} (hx : x1 < nI 0 ∨ nI 4 ≤ x1) : AN 82 [.ref 0, .int x1, .int x2, .int x3, .int x4] h (-1) h := by
  refine ⟨?_, Fr.rf _ _ _⟩
  show m_ev 82 0 [some (.ref 0), some (.int x1), some (.int x2), some (.int x3), some (.int x4), none, none, none, none] [] h = _
  simp only [b82_0, c_isWord_no hx, b82_2, if_true, b82_18]
theorem a_grazing_bad2 {x2 x3 x4 : Int32} {w : Nat} (hw : w ≤ 3) (hx : (x2 < nI 0 ∨ nI 9 ≤ x2) ∨ (x3 < nI 0 ∨ nI 11 ≤ x3) ∨ (x4 < nI 0 ∨ nI 2 ≤ x4)) : AN 82 [.ref 0, .int (nI w), .int x2, .int x3, .int x4] h (-1) h := by
  refine ⟨?_, Fr.rf _ _ _⟩
  have n1 : ¬ nI 1 = nI 0 := by decide
  show m_ev 82 0 [some (.ref 0), some (.int (nI w)), some (.int x2), some (.int x3), some (.int x4), none, none, none, none] [] h = _
  simp (disch := omega) only [b82_0, c_isWord, if_pos hw, b82_2, n1, if_false, b82_3, b82_5, b82_8, b82_10, b82_13, b82_15, b82_18]
  have d2 := fun q => bad_c (x := x2) q rfl (show 0 ≤ 9 by omega) (by omega)
  have d3 := fun q => bad_c (x := x3) q rfl (show 0 ≤ 11 by omega) (by omega)
  have d4 := fun q => bad_c (x := x4) q rfl (show 0 ≤ 2 by omega) (by omega)
  rcases hx with q | q | q
  · rcases d2 q with p | ⟨p1, p2, p3⟩
    · rw [if_pos p]
    · rw [if_neg p1, if_pos p3]
  · rcases d3 q with p | ⟨p1, p2, p3⟩
    · rw [if_pos p]; (repeat' split) <;> rfl
    · rw [if_neg p1, if_pos p3]; (repeat' split) <;> rfl
  · rcases d4 q with p | ⟨p1, p2, p3⟩
    · rw [if_pos p]; (repeat' split) <;> rfl
    · rw [if_neg p1, if_neg p2]; (repeat' split) <;> rfl
theorem a_grazing (e : CA h hl sp L M T S hp P hk K) (wf : WfH L) (wm : WfM L M 30000) {w n x part : Nat} (hw : w ≤ 3) (hn : n ≤ 8) (hx : x ≤ 10) (hpt : part ≤ 1) : ∃ h', AN 82 [.ref 0, .int (nI w), .int (nI n), .int (nI x), .int (nI part)] h (graF L M w n x part) h' ∧ CA h' hl sp L M T S hp P hk K := by
  have e' := e
  obtain ⟨c_sw, c_o, c_hi, c_spa, c_tx, c_sc, c_mo, c_tri, c_sh, c_ke, c_se, c_ou, ⟨f0, c_ch⟩⟩ := e'
  have n1 : ¬ nI 1 = nI 0 := by decide
  obtain ⟨h1, f1, q1, e1, hf1, fr1⟩ := c_weighTurns (y := 82) (k := 24) (ls := [some (.ref 0), some (.int (nI w)), some (.int (nI n)), some (.int (nI x)), some (.int (nI part)), none, none, none, none]) (r := []) hx hn c_o c_ch
  have ca1 := e.chX e1 fr1
  have c_mo1 := ca1.2.2.2.2.2.2.1
  have hsp := spotL_lt wf M (L 7 1) (L 7 2) n
  have wf0 := wf
  obtain ⟨w1, w2, w3, w4, w5, w6, _⟩ := wf0
  refine ⟨h1, ⟨?_, fr1.wd (by omega) (by omega)⟩, ca1⟩
  have hab : abL (fun g => L 0 ((spotL L M (L 7 1) (L 7 2) n + g) % L 7 0) == w) f1 (n + 1) 0 0 = abvF L M w n x := abL_cg _ _ _ (fun j _ hj => hf1 j (by omega))
  have h10 : 10 ^ n ≤ 10 ^ 8 := Nat.pow_le_pow_right (by omega) hn
  have h10' : 0 < 10 ^ n := Nat.pow_pos (by omega)
  have hle : abvF L M w n x ≤ 9 * 10 ^ 8 := by
    refine Nat.le_trans (abL_le _ _ (fun g => wtF_le hx n g) (n + 1) 0 0) ?_
    have := Nat.mul_le_mul (show n + 1 ≤ 9 by omega) h10
    omega
  have hgc := gcL_le 64 (10 ^ n) (abvF L M w n x) (9 * 10 ^ 8) (by omega) hle
  have hsp2 : nI 0 = nI 0 := rfl
  show m_ev 82 0 [some (.ref 0), some (.int (nI w)), some (.int (nI n)), some (.int (nI x)), some (.int (nI part)), none, none, none, none] [] h = _
  simp (disch := omega) only [b82_0, c_isWord, if_pos hw, b82_2, n1, if_false, b82_3, nI_ltI, nI_leI, Nat.not_lt_zero, b82_5, if_neg (show ¬ 8 < n by omega), b82_8, b82_10, if_neg (show ¬ 10 < x by omega), b82_13, b82_15, if_pos hpt, b82_20, oF c_o, if_true, q1, b82_24, oF ca1.2.1, Option.bind_some, hiF ca1.2.2.1, moF c_mo1, c_spotIn ca1.2.2.1 c_mo1 wf wm (show L 7 1 ≤ 11 by omega) (show 1 ≤ L 7 2 ∧ L 7 2 ≤ 24 by omega), b82_39]
  rw [above_loop ca1.2.1 ca1.2.2.1 wf e1 hw hn hsp (n + 1) 0 0 (by omega), hab]
  simp (disch := omega) only [b82_70, c_commonDivisor, b82_73, nI_leI]
  unfold graF
  by_cases hg1 : gcL 64 (10 ^ n) (abvF L M w n x) < 1
  · rw [if_neg (show ¬ 1 ≤ gcL 64 (10 ^ n) (abvF L M w n x) by omega), if_pos hg1, b82_77]
  · have h0 : ¬ nI (gcL 64 (10 ^ n) (abvF L M w n x)) = nI 0 := by rw [nI_eq (by omega) (by omega)]; omega
    rw [if_pos (show 1 ≤ gcL 64 (10 ^ n) (abvF L M w n x) by omega), if_neg hg1]
    simp (disch := omega) only [b82_79, b82_81, b82_83, h0, if_false, nI_eq, nI_divN]
    by_cases hp0 : part = 0
    · rw [if_pos hp0, if_pos hp0]
    · rw [if_neg hp0, if_neg hp0]
end
