/-! the model: GRAZING -/
def smL (f : Nat → Nat) : Nat → Nat
  | 0 => 0
  | n + 1 => smL f n + f n
theorem smL_cg {f g : Nat → Nat} : ∀ n, (∀ i, i < n → f i = g i) → smL f n = smL g n := by
  intro n
  induction n with
  | zero => intro _; rfl
  | succ n ih => intro h; unfold smL; rw [ih (fun i hi => h i (by omega)), h n (by omega)]
theorem smL_add (f g : Nat → Nat) : ∀ n, smL (fun i => f i + g i) n = smL f n + smL g n := by
  intro n
  induction n with
  | zero => rfl
  | succ n ih => unfold smL; rw [ih]; omega
theorem smL_mul (f : Nat → Nat) (c : Nat) : ∀ n, smL (fun i => f i * c) n = smL f n * c := by
  intro n
  induction n with
  | zero => simp [smL]
  | succ n ih => unfold smL; rw [ih, Nat.add_mul]
theorem smL_head (f : Nat → Nat) : ∀ n, smL f (n + 1) = f 0 + smL (fun i => f (i + 1)) n := by
  intro n
  induction n with
  | zero => simp [smL]
  | succ n ih => rw [smL, ih, smL]; omega
theorem smL_app (f : Nat → Nat) (a : Nat) : ∀ b, smL f (a + b) = smL f a + smL (fun i => f (a + i)) b := by
  intro b
  induction b with
  | zero => simp [smL]
  | succ b ih => rw [← Nat.add_assoc, smL, ih, smL]; omega
def wgM (x st : Nat) : Nat → Nat
  | 0 => 1
  | k + 1 => wgM x st k * (if st.testBit k = true then x else 10 - x)
def byM (st : Nat) : Nat → Nat
  | 0 => 0
  | k + 1 => byM st k + (if st.testBit k = true then 1 else 0)
def gsM (P : Nat → Bool) (x n : Nat) (st : Nat) : Nat := if P (byM st n) = true then wgM x st n else 0
theorem wg_cg {x a b : Nat} : ∀ k, (∀ i, i < k → a.testBit i = b.testBit i) → wgM x a k = wgM x b k ∧ byM a k = byM b k := by
  intro k
  induction k with
  | zero => intro _; exact ⟨rfl, rfl⟩
  | succ k ih =>
    intro h
    obtain ⟨i1, i2⟩ := ih (fun i hi => h i (by omega))
    unfold wgM byM
    rw [i1, i2, h k (by omega)]
    exact ⟨rfl, rfl⟩
theorem tb_hi {n i : Nat} (hi : i < 2 ^ n) : i.testBit n = false := Nat.testBit_lt_two_pow hi
theorem tb_add {n i : Nat} (hi : i < 2 ^ n) : (2 ^ n + i).testBit n = true ∧ ∀ k, k < n → (2 ^ n + i).testBit k = i.testBit k := by
  constructor
  · rw [Nat.testBit_two_pow_add_eq, tb_hi hi]; rfl
  · intro k hk
    exact Nat.testBit_two_pow_add_gt hk i
theorem gs_s (P : Nat → Bool) (x n : Nat) : smL (gsM P x (n + 1)) (2 ^ (n + 1)) = smL (gsM P x n) (2 ^ n) * (10 - x) + smL (gsM (fun g => P (g + 1)) x n) (2 ^ n) * x := by
  rw [Nat.pow_succ, Nat.mul_two, smL_app, ← smL_mul, ← smL_mul]
  congr 1
  · refine smL_cg _ (fun i hi => ?_)
    show (if P (byM i n + (if i.testBit n = true then 1 else 0)) = true then wgM x i n * (if i.testBit n = true then x else 10 - x) else 0) = (if P (byM i n) = true then wgM x i n else 0) * (10 - x)
    simp only [tb_hi hi, Bool.false_eq_true, if_false, Nat.add_zero]
    split <;> simp
  · refine smL_cg _ (fun i hi => ?_)
    obtain ⟨t1, t2⟩ := tb_add hi
    obtain ⟨e1, e2⟩ := wg_cg (x := x) n t2
    show (if P (byM (2 ^ n + i) n + (if (2 ^ n + i).testBit n = true then 1 else 0)) = true then wgM x (2 ^ n + i) n * (if (2 ^ n + i).testBit n = true then x else 10 - x) else 0) = (if P (byM i n + 1) = true then wgM x i n else 0) * x
    simp only [t1, if_true, e1, e2]
    split <;> simp
theorem wt_0 (x : Nat) : ∀ n g, n < g → wtF x n g = 0 := by
  intro n
  induction n with
  | zero => intro g hg; unfold wtF; rw [if_neg (by omega)]
  | succ n ih =>
    intro g hg
    unfold wtF
    rw [if_neg (by omega), ih g (by omega), ih (g - 1) (by omega)]; simp
def gtM (P : Nat → Bool) (x n : Nat) (g : Nat) : Nat := if P g = true then wtF x n g else 0
theorem gt_s (P : Nat → Bool) (x n : Nat) : smL (gtM P x (n + 1)) (n + 2) = smL (gtM P x n) (n + 1) * (10 - x) + smL (gtM (fun g => P (g + 1)) x n) (n + 1) * x := by
  have e1 : smL (gtM P x (n + 1)) (n + 2) = smL (fun g => gtM P x n g * (10 - x) + (if g = 0 then 0 else gtM (fun g => P (g + 1)) x n (g - 1) * x)) (n + 2) := by
    refine smL_cg _ (fun g _ => ?_)
    show (if P g = true then (if g = 0 then wtF x n 0 * (10 - x) else wtF x n g * (10 - x) + wtF x n (g - 1) * x) else 0) = (if P g = true then wtF x n g else 0) * (10 - x) + (if g = 0 then 0 else (if P (g - 1 + 1) = true then wtF x n (g - 1) else 0) * x)
    by_cases h0 : g = 0
    · subst h0
      rw [if_pos rfl, if_pos rfl]
      split <;> simp
    · have hg : g - 1 + 1 = g := by omega
      rw [if_neg h0, if_neg h0]
      simp only [hg]
      split <;> simp
  rw [e1, smL_add, smL_mul, smL_head (fun g => if g = 0 then 0 else gtM (fun g => P (g + 1)) x n (g - 1) * x)]
  have e2 : smL (gtM P x n) (n + 2) = smL (gtM P x n) (n + 1) := by
    show smL (gtM P x n) (n + 1) + gtM P x n (n + 1) = _
    have : gtM P x n (n + 1) = 0 := by unfold gtM; rw [wt_0 x n (n + 1) (by omega)]; split <;> rfl
    rw [this, Nat.add_zero]
  rw [e2, if_pos rfl, Nat.zero_add]
  congr 1
  rw [← smL_mul]
  refine smL_cg _ (fun g _ => ?_)
  rw [if_neg (by omega), Nat.add_sub_cancel]
theorem gs_gt (x : Nat) : ∀ n (P : Nat → Bool), smL (gsM P x n) (2 ^ n) = smL (gtM P x n) (n + 1) := by
  intro n
  induction n with
  | zero =>
    intro P
    show 0 + gsM P x 0 0 = 0 + gtM P x 0 0
    rfl
  | succ n ih =>
    intro P
    rw [gs_s, gt_s, ih, ih]
theorem abL_sm (P : Nat → Bool) (f : Nat → Nat) : ∀ d g acc, abL P f d g acc = acc + smL (fun i => if P (g + i) = true then f (g + i) else 0) d := by
  intro d
  induction d with
  | zero => intro g acc; rfl
  | succ d ih =>
    intro g acc
    rw [abL, ih, smL_head]
    have : smL (fun i => if P (g + 1 + i) = true then f (g + 1 + i) else 0) d = smL (fun i => if P (g + (i + 1)) = true then f (g + (i + 1)) else 0) d := smL_cg _ (fun i _ => by rw [show g + 1 + i = g + (i + 1) by omega])
    rw [this, Nat.add_zero]
    split <;> omega
def PG (L M : LT) (w n : Nat) (g : Nat) : Bool := L 0 ((spotL L M (L 7 1) (L 7 2) n + g) % L 7 0) == w
theorem abv_gs (L M : LT) (w n x : Nat) : abvF L M w n x = smL (gsM (PG L M w n) x n) (2 ^ n) := by
  rw [gs_gt]
  unfold abvF
  rw [abL_sm, Nat.zero_add]
  refine smL_cg _ (fun i _ => ?_)
  rw [Nat.zero_add]
  rfl
-- greatest common divisors
theorem gcL_gcd : ∀ (m k a b : Nat), 2 * m + 1 ≤ k → b < 2 ^ m → gcL k a b = Nat.gcd b a := by
  intro m
  induction m with
  | zero =>
    intro k a b hk hb
    obtain ⟨k', rfl⟩ : ∃ k', k = k' + 1 := ⟨k - 1, by omega⟩
    have : b = 0 := by simpa using hb
    subst this
    rw [gcL, if_pos rfl, Nat.gcd_zero_left]
  | succ m ih =>
    intro k a b hk hb
    obtain ⟨k', rfl⟩ : ∃ k', k = k' + 2 := ⟨k - 2, by omega⟩
    rw [gcL]
    by_cases h0 : b = 0
    · rw [if_pos h0, h0, Nat.gcd_zero_left]
    · rw [if_neg h0, gcL, Nat.gcd_rec b a]
      by_cases h1 : a % b = 0
      · rw [if_pos h1, h1, Nat.gcd_zero_left]
      · have hr : a % b < b := Nat.mod_lt _ (by omega)
        have hr2 : b % (a % b) < a % b := Nat.mod_lt _ (by omega)
        have hr3 : b % (a % b) ≤ b - a % b := by
          rw [Nat.mod_eq_sub_mod (show a % b ≤ b by omega)]
          exact Nat.mod_le _ _
        rw [if_neg h1, ih k' (a % b) (b % (a % b)) (by omega) (by rw [Nat.pow_succ] at hb; omega), Nat.gcd_rec (a % b) b]
theorem graF_eq {L M : LT} {w n x part : Nat} (hx : x ≤ 10) (hn : n ≤ 8) : graF L M w n x part = nI ((if part = 0 then abvF L M w n x else 10 ^ n) / Nat.gcd (10 ^ n) (abvF L M w n x)) ∧ abvF L M w n x ≤ 9 * 10 ^ 8 ∧ 0 < 10 ^ n ∧ 10 ^ n ≤ 10 ^ 8 := by
  have h10 : 10 ^ n ≤ 10 ^ 8 := Nat.pow_le_pow_right (by omega) hn
  have h10' : 0 < 10 ^ n := Nat.pow_pos (by omega)
  have hle : abvF L M w n x ≤ 9 * 10 ^ 8 := by
    refine Nat.le_trans (abL_le _ _ (fun g => wtF_le hx n g) (n + 1) 0 0) ?_
    have := Nat.mul_le_mul (show n + 1 ≤ 9 by omega) h10
    omega
  have hg : gcL 64 (10 ^ n) (abvF L M w n x) = Nat.gcd (10 ^ n) (abvF L M w n x) := by
    rw [gcL_gcd 31 64 _ _ (by omega) (by omega), Nat.gcd_comm]
  have hp : 0 < Nat.gcd (10 ^ n) (abvF L M w n x) := Nat.gcd_pos_of_pos_left _ h10'
  refine ⟨?_, hle, h10', h10⟩
  unfold graF
  rw [hg, if_neg (by omega)]
section
variable {y k : Nat} {ls : ML} {r : List Value} {h : MH} {V L M T S : LT} {hp hk B : Nat} {P K : Nat → LT}
theorem gr_in {w n x part s : Nat} {x5 x6 : Int32} (hx : x ≤ 10) (hn : n ≤ 8) (hs : s < 2 ^ 31) : ∀ (d i : Nat), i + d = n → m_ev 155 48 [some (.ref 72), some (.int (nI w)), some (.int (nI n)), some (.int (nI x)), some (.int (nI part)), some (.int x5), some (.int x6), some (.int (nI s)), some (.int (nI (wgM x s i))), some (.int (nI (byM s i))), some (.int (nI i))] [] h = m_ev 155 73 [some (.ref 72), some (.int (nI w)), some (.int (nI n)), some (.int (nI x)), some (.int (nI part)), some (.int x5), some (.int x6), some (.int (nI s)), some (.int (nI (wgM x s n))), some (.int (nI (byM s n))), some (.int (nI n))] [] h := by
  have n1 : ¬ nI 1 = nI 0 := by decide
  intro d
  induction d with
  | zero =>
    intro i hi
    obtain rfl : i = n := by omega
    rw [b155_48, if_pos (nI_le (Nat.le_refl _) (by omega))]
  | succ d ih =>
    intro i hi
    have hsh : nI s >>> (nI i &&& 31) = nI (s / 2 ^ i) := pk_shrN hs _ i (sh_k i (by omega))
    have hd : s / 2 ^ i ≤ s := Nat.div_le_self _ _
    have ha : nI (s / 2 ^ i) &&& nI 1 = nI (s / 2 ^ i % 2) := pk_andN (by omega) 1 (by decide)
    have hih := ih (i + 1) (by omega)
    rw [wgM, byM] at hih
    rw [b155_48, if_neg (nI_ge (show i < n by omega) (by omega)), b155_51, d_has hs (by omega), b155_55]
    have hm : s / 2 ^ i % 2 = if s.testBit i = true then 1 else 0 := by
      simp only [Nat.testBit_eq_decide_div_mod_eq, decide_eq_true_eq]
      have := Nat.mod_lt (s / 2 ^ i) (show 0 < 2 by omega)
      split <;> omega
    cases hb : s.testBit i with
    | true =>
      rw [hb, if_pos rfl] at hm
      rw [hb, if_pos rfl, if_pos rfl] at hih
      simp only [b01_t, n1, if_false, b155_56, hsh, ha, hm, nI_mulN, nI_add]
      exact hih
    | false =>
      rw [hb, if_neg (by simp)] at hm
      rw [hb, if_neg (by simp), if_neg (by simp)] at hih
      simp only [b01_f, if_true, b155_58, hsh, ha, hm, nI_subN hx, nI_mulN, nI_add]
      exact hih
theorem by_le (s : Nat) : ∀ n, byM s n ≤ n := by
  intro n
  induction n with
  | zero => exact Nat.le_refl _
  | succ n ih => unfold byM; split <;> omega
theorem gr_out (e : MdA h V) (rh : RH V L) (wf : WfH L) {w n x part : Nat} {x6 : Int32} (hw : w ≤ 3) (hx : x ≤ 10) (hn : n ≤ 8) (u : V 86 n = spotL L M (L 7 1) (L 7 2) n) : ∀ (d s : Nat), s + d = 2 ^ n → ∀ (d8 d9 d10 : Option Value), ∃ d8' d9' d10', m_ev 155 37 [some (.ref 72), some (.int (nI w)), some (.int (nI n)), some (.int (nI x)), some (.int (nI part)), some (.int (nI (smL (gsM (PG L M w n) x n) s))), some (.int x6), some (.int (nI s)), d8, d9, d10] [] h = m_ev 155 95 [some (.ref 72), some (.int (nI w)), some (.int (nI n)), some (.int (nI x)), some (.int (nI part)), some (.int (nI (smL (gsM (PG L M w n) x n) (2 ^ n)))), some (.int x6), some (.int (nI (2 ^ n))), d8', d9', d10'] [] h := by
  have w1 := wf.1
  have w2 := wf.2.1
  have w3 := wf.2.2.1
  have r0 := rh.1
  have r73 := rh.2.2.2.2.2.2.2.1
  have h2n : 2 ^ n ≤ 2 ^ 8 := Nat.pow_le_pow_right (by omega) hn
  have hsl := spotL_lt wf M (L 7 1) (L 7 2) n
  have hsh : nI 1 <<< (nI n &&& 31) = nI (2 ^ n) := one_shl (by omega)
  intro d
  induction d with
  | zero =>
    intro s hs d8 d9 d10
    have : s = 2 ^ n := by omega
    subst this
    refine ⟨d8, d9, d10, ?_⟩
    rw [b155_37, hsh, if_pos (nI_le (Nat.le_refl _) (by omega))]
  | succ d ih =>
    intro s hs d8 d9 d10
    have hb := by_le s n
    have hlt : (spotL L M (L 7 1) (L 7 2) n + byM s n) % L 7 0 < L 7 0 := Nat.mod_lt _ (by omega)
    have h7 := r73 _ hlt
    have h4 := w3 _ hlt
    have n0 : ¬ nI (L 7 0) = nI 0 := by rw [nI_eq (by omega) (by omega)]; omega
    have hin := gr_in (h := h) (w := w) (x := x) (part := part) (s := s) (x5 := nI (smL (gsM (PG L M w n) x n) s)) (x6 := x6) hx hn (show s < 2 ^ 31 by omega) n 0 (by omega)
    have pre : m_ev 155 37 [some (.ref 72), some (.int (nI w)), some (.int (nI n)), some (.int (nI x)), some (.int (nI part)), some (.int (nI (smL (gsM (PG L M w n) x n) s))), some (.int x6), some (.int (nI s)), d8, d9, d10] [] h = m_ev 155 73 [some (.ref 72), some (.int (nI w)), some (.int (nI n)), some (.int (nI x)), some (.int (nI part)), some (.int (nI (smL (gsM (PG L M w n) x n) s))), some (.int x6), some (.int (nI s)), some (.int (nI (wgM x s n))), some (.int (nI (byM s n))), some (.int (nI n))] [] h := by
      rw [b155_37, hsh, if_neg (nI_ge (show s < 2 ^ n by omega) (by omega)), b155_42]
      exact hin
    obtain ⟨a8, a9, a10, q⟩ := ih (s + 1) (by omega) (some (.int (nI (wgM x s n)))) (some (.int (nI (byM s n)))) (some (.int (nI n)))
    refine ⟨a8, a9, a10, ?_⟩
    rw [pre, b155_73, ← q, smL]
    simp (disch := omega) only [mdF e, Option.bind_some, u, r0, n0, if_false, nI_add, nI_remN, h7, nI_eq]
    by_cases hc : L 0 ((spotL L M (L 7 1) (L 7 2) n + byM s n) % L 7 0) = w
    · have hp : gsM (PG L M w n) x n s = wgM x s n := by unfold gsM PG; rw [if_pos (by rw [beq_iff_eq]; exact hc)]
      rw [if_pos hc, b155_88, nI_add, nI_add, hp]
    · have hp : gsM (PG L M w n) x n s = 0 := by unfold gsM PG; rw [if_neg (by rw [beq_iff_eq]; exact hc)]
      rw [if_neg hc, b155_90, nI_add, nI_add, hp]
theorem gr_ten {w n x part : Nat} {x5 : Int32} {d8 d9 d10 : Option Value} (hn : n ≤ 8) : ∀ (d i : Nat), i + d = n → m_ev 155 97 [some (.ref 72), some (.int (nI w)), some (.int (nI n)), some (.int (nI x)), some (.int (nI part)), some (.int x5), some (.int (nI (10 ^ i))), some (.int (nI i)), d8, d9, d10] [] h = m_ev 155 110 [some (.ref 72), some (.int (nI w)), some (.int (nI n)), some (.int (nI x)), some (.int (nI part)), some (.int x5), some (.int (nI (10 ^ n))), some (.int x5), some (.int (nI (10 ^ n))), d9, d10] [] h := by
  intro d
  induction d with
  | zero =>
    intro i hi
    obtain rfl : i = n := by omega
    rw [b155_97, if_pos (nI_le (Nat.le_refl _) (by omega)), b155_106]
  | succ d ih =>
    intro i hi
    rw [b155_97, if_neg (nI_ge (show i < n by omega) (by omega)), b155_100, nI_mulN, nI_add, ← Nat.pow_succ]
    exact ih (i + 1) (by omega)
theorem gr_gcd {w n x part a b : Nat} (ha : a < 2 ^ 31) (hb : b < 2 ^ 31) (hpt : part ≤ 1) : ∀ (f z yy : Nat), z < f → yy < 2 ^ 31 → z < 2 ^ 31 → 0 < Nat.gcd z yy → Nat.gcd z yy < 2 ^ 31 → ∀ (d9 d10 : Option Value), m_ev 155 110 [some (.ref 72), some (.int (nI w)), some (.int (nI n)), some (.int (nI x)), some (.int (nI part)), some (.int (nI a)), some (.int (nI b)), some (.int (nI yy)), some (.int (nI z)), d9, d10] [] h = some (some (.int (nI ((if part = 0 then a else b) / Nat.gcd z yy))), h) := by
  intro f
  induction f with
  | zero => intro z yy hz; omega
  | succ f ih =>
    intro z yy hz hy hz2 hg hg2 d9 d10
    rw [b155_110]
    by_cases h0 : z = 0
    · subst h0
      rw [Nat.gcd_zero_left] at hg hg2 ⊢
      have n0 : ¬ nI yy = nI 0 := by rw [nI_eq (by omega) (by omega)]; omega
      simp (disch := omega) only [nI_leI, Nat.le_refl, if_true, b155_121, nI_eq, b155_123, b155_125, n0, if_false, nI_divN]
      split <;> rfl
    · have n0 : ¬ nI z = nI 0 := by rw [nI_eq (by omega) (by omega)]; exact h0
      have hm : yy % z < z := Nat.mod_lt _ (by omega)
      have hgr := Nat.gcd_rec z yy
      rw [hgr] at hg hg2 ⊢
      simp (disch := omega) only [nI_leI, show ¬ z ≤ 0 by omega, if_false, b155_112, n0, nI_remN]
      exact ih (yy % z) z (by omega) hz2 (by omega) hg hg2 _ _
theorem e_grazing_bad {x1 x2 x3 x4 : Int32} (hx : x1 < nI 0 ∨ nI 4 ≤ x1) : AM 155 [.ref 72, .int x1, .int x2, .int x3, .int x4] h (-1) h := by
  refine ⟨?_, Fr.rf _ _ _⟩
  show m_ev 155 0 [some (.ref 72), some (.int x1), some (.int x2), some (.int x3), some (.int x4), none, none, none, none, none, none] [] h = _
  simp only [b155_0, d_isWord0 hx, b155_2, if_true, b155_18]
theorem d_in_any {x : Int32} {a b : Nat} (hb : b < 2 ^ 31) (hab : a ≤ b) : m_call m_ev 100 y k [.int x, .int (nI a), .int (nI b)] ls r h = m_ev y k ls (.int (nI (b01 (decide (¬ (x < nI a ∨ nI b < x))))) :: r) h := by
  refine cl_v ?_
  show m_ev 100 0 [some (.int x), some (.int (nI a)), some (.int (nI b))] [] h = _
  by_cases h1 : x < nI a
  · rw [b100_0, if_pos h1, b100_8, decide_eq_false (fun z => z (Or.inl h1))]; rfl
  · by_cases h2 : nI b < x
    · rw [b100_0, if_neg h1, b100_3, if_pos h2, b100_8, decide_eq_false (fun z => z (Or.inr h2))]; rfl
    · have hd : ¬ (x < nI a ∨ nI b < x) := fun z => z.elim h1 h2
      rw [b100_0, if_neg h1, b100_3, if_neg h2, b100_6, decide_eq_true hd]; rfl
theorem bad_lt {x : Int32} {a b c : Nat} (hx : x < nI a ∨ nI b ≤ x) (hb : b = c + 1) (hc : b < 2 ^ 31) : x < nI a ∨ nI c < x := by
  rcases hx with q | q
  · exact Or.inl q
  · exact Or.inr (Int32.lt_of_lt_of_le (by rw [nI_ltI (by omega) (by omega)]; omega) q)
theorem e_grazing_bad2 {x2 x3 x4 : Int32} {w : Nat} (hw : w ≤ 3) (hx : (x2 < nI 0 ∨ nI 9 ≤ x2) ∨ (x3 < nI 0 ∨ nI 11 ≤ x3) ∨ (x4 < nI 0 ∨ nI 2 ≤ x4)) : AM 155 [.ref 72, .int (nI w), .int x2, .int x3, .int x4] h (-1) h := by
  refine ⟨?_, Fr.rf _ _ _⟩
  have n1 : ¬ nI 1 = nI 0 := by decide
  have c2 := fun q => bad_lt (x := x2) (a := 0) (b := 9) (c := 8) q rfl (by omega)
  have c3 := fun q => bad_lt (x := x3) (a := 0) (b := 11) (c := 10) q rfl (by omega)
  have c4 := fun q => bad_lt (x := x4) (a := 0) (b := 2) (c := 1) q rfl (by omega)
  show m_ev 155 0 [some (.ref 72), some (.int (nI w)), some (.int x2), some (.int x3), some (.int x4), none, none, none, none, none, none] [] h = _
  simp only [b155_0, d_isWord hw, b155_2, n1, if_false, b155_3, d_in_any (show 8 < 2 ^ 31 by omega) (show 0 ≤ 8 by omega), b155_7]
  by_cases g2 : x2 < nI 0 ∨ nI 8 < x2
  · simp only [decide_eq_false (fun z : ¬ (x2 < nI 0 ∨ nI 8 < x2) => z g2), b01_f, if_true, b155_18]
  · simp only [decide_eq_true g2, b01_t, n1, if_false, b155_8, d_in_any (show 10 < 2 ^ 31 by omega) (show 0 ≤ 10 by omega), b155_12]
    by_cases g3 : x3 < nI 0 ∨ nI 10 < x3
    · simp only [decide_eq_false (fun z : ¬ (x3 < nI 0 ∨ nI 10 < x3) => z g3), b01_f, if_true, b155_18]
    · simp only [decide_eq_true g3, b01_t, n1, if_false, b155_13, d_in_any (show 1 < 2 ^ 31 by omega) (show 0 ≤ 1 by omega), b155_17]
      by_cases g4 : x4 < nI 0 ∨ nI 1 < x4
      · simp only [decide_eq_false (fun z : ¬ (x4 < nI 0 ∨ nI 1 < x4) => z g4), b01_f, if_true, b155_18]
      · rcases hx with q | q | q
        · exact (g2 (c2 q)).elim
        · exact (g3 (c3 q)).elim
        · exact (g4 (c4 q)).elim
theorem e_grazing (e : MdA h V) (rv : RV V L M T S hp P hk K) (wf : WfH L) (wm : WfM L M 30000) {w n x part : Nat} (hw : w ≤ 3) (hn : n ≤ 8) (hx : x ≤ 10) (hpt : part ≤ 1) : ∃ h' V', AM 155 [.ref 72, .int (nI w), .int (nI n), .int (nI x), .int (nI part)] h (graF L M w n x part) h' ∧ MdA h' V' ∧ Sk V V' := by
  obtain ⟨s0, s1, s2, s3, s4, s8⟩ := stF rv.2.1
  have rh := rv.1
  have r2 := rh.2.1
  have r3 := rh.2.2.1
  have wf0 := wf
  obtain ⟨w1, w2, w3, w4, w5, w6, w7, w8, w9, w10, w11, w12, w13⟩ := wf0
  obtain ⟨m1, m2, m3, m4, m5⟩ := wm
  have n1 : ¬ nI 1 = nI 0 := by decide
  obtain ⟨gq, hab, h10, h108⟩ := graF_eq (L := L) (M := M) (w := w) (part := part) hx hn
  obtain ⟨h3, V3, q3, e3, x3, u3, f3⟩ := d_findUps (M := M) (y := 155) (k := 31) (ls := [some (.ref 72), some (.int (nI w)), some (.int (nI n)), some (.int (nI x)), some (.int (nI part)), none, none, none, none, none, none]) (r := []) e rh wf (n := n) (by omega) w4 w5 w6 m1 m3 m2 s0 s1
  obtain ⟨a8, a9, a10, q4⟩ := gr_out (h := h3) (part := part) (x6 := nI 1) e3 (rh.sx x3 (by omega)) wf hw hx hn (u3 n (Nat.le_refl _)) (2 ^ n) 0 (by omega) none none none
  have hgp : 0 < Nat.gcd (10 ^ n) (abvF L M w n x) := Nat.gcd_pos_of_pos_left _ h10
  have hgl : Nat.gcd (10 ^ n) (abvF L M w n x) ≤ 10 ^ n := Nat.gcd_le_left _ h10
  refine ⟨h3, V3, ⟨?_, f3⟩, e3, x3.sk (by omega)⟩
  show m_ev 155 0 [some (.ref 72), some (.int (nI w)), some (.int (nI n)), some (.int (nI x)), some (.int (nI part)), none, none, none, none, none, none] [] h = _
  simp (disch := omega) only [b155_0, d_isWord hw, b155_2, n1, if_false, b155_3, d_in1 (show 0 ≤ n by omega) hn (show 8 < 2 ^ 31 by omega), b155_7, b155_8, d_in1 (show 0 ≤ x by omega) hx (show 10 < 2 ^ 31 by omega), b155_12, b155_13, d_in1 (show 0 ≤ part by omega) hpt (show 1 < 2 ^ 31 by omega), b155_17, b155_20, mdF e, Option.bind_some, s2, r2, r3, if_true, q3, b155_31]
  rw [show (nI 0) = nI (smL (gsM (PG L M w n) x n) 0) from rfl] at q4
  have q4' := q4
  rw [show smL (gsM (PG L M w n) x n) 0 = 0 from rfl] at q4'
  rw [q4', b155_95, ← abv_gs]
  have ht := gr_ten (h := h3) (w := w) (x := x) (part := part) (x5 := nI (abvF L M w n x)) (d8 := a8) (d9 := a9) (d10 := a10) hn n 0 (by omega)
  rw [show (10 : Nat) ^ 0 = 1 from rfl] at ht
  rw [ht, gr_gcd (by omega) (by omega) hpt (10 ^ n + 1) (10 ^ n) (abvF L M w n x) (by omega) (by omega) (by omega) hgp (by omega), gq]
end
