/-! the whole object -/
def OuB (X : LT) : Prop := BB (X 1) ∧ ∀ i, X 0 i < 4
def CA (h : MH) (hl sp : Nat) (L M T S : LT) (hp : Nat) (P : Nat → LT) (hk : Nat) (K : Nat → LT) : Prop := ((hl = 3 ∧ sp = 13) ∨ (hl = 13 ∧ sp = 3)) ∧ h[0]? = some (kO hl sp) ∧ HiA h hl L ∧ (∃ L', HiA h sp L') ∧ TxA h 21 T ∧ (∃ C, ScA h 23 21 C) ∧ MoA h 25 M ∧ (∃ M', MoA h 28 M') ∧ (∃ nx, ShA h 31 8 nx hp P) ∧ (∃ nx, ShA h 57 2 nx hk K) ∧ SeA h 65 S ∧ (∃ X, OuA h 68 X ∧ OuB X) ∧ (∃ f : Nat → Nat, h[71]? = some (kI 9 (fun i => nI (f i))))
theorem oF {h : MH} {hl sp : Nat} (e : h[0]? = some (kO hl sp)) : m_cls h 0 = some 7 ∧ m_fr h 0 7 0 = some 21 ∧ m_fr h 0 7 1 = some 23 ∧ m_fr h 0 7 2 = some 25 ∧ m_fr h 0 7 3 = some 28 ∧ m_fr h 0 7 4 = some 31 ∧ m_fr h 0 7 5 = some 57 ∧ m_fr h 0 7 6 = some 65 ∧ m_fr h 0 7 7 = some 68 ∧ m_fr h 0 7 8 = some 71 ∧ m_fr h 0 7 9 = some hl ∧ m_fr h 0 7 10 = some sp := ⟨cls_e e, fr_e e rfl, fr_e e rfl, fr_e e rfl, fr_e e rfl, fr_e e rfl, fr_e e rfl, fr_e e rfl, fr_e e rfl, fr_e e rfl, fr_e e rfl, fr_e e rfl⟩
section
variable {y k : Nat} {ls : ML} {r : List Value} {h h' : MH} {hl sp hp hk : Nat} {L M T S : LT} {P K : Nat → LT}
theorem Fr.chn {lo hi : Nat} {f : Nat → Nat} (q : Fr lo hi h h') (hb : 72 ≤ lo ∨ hi ≤ 71) (e : h[71]? = some (kI 9 (fun i => nI (f i)))) : h'[71]? = some (kI 9 (fun i => nI (f i))) := q.at (by omega) e
theorem CA.rest (e : CA h hl sp L M T S hp P hk K)  (f : Fr 72 89 h h') : CA h' hl sp L M T S hp P hk K := by
  obtain ⟨c_sw, c_o, c_hi, c_spa, c_tx, c_sc, c_mo, c_tri, c_sh, c_ke, c_se, c_ou, c_ch⟩ := e
  exact ⟨c_sw, f.at (by omega) c_o, f.hi (by omega) c_hi, ⟨_, f.hi (by omega) c_spa.choose_spec⟩, f.tx (by omega) c_tx, ⟨_, f.sc (by omega) c_sc.choose_spec⟩, f.mo (by omega) c_mo, ⟨_, f.mo (by omega) c_tri.choose_spec⟩, ⟨_, f.sh (by omega) c_sh.choose_spec⟩, ⟨_, f.sh (by omega) c_ke.choose_spec⟩, f.se (by omega) c_se, ⟨_, f.ou (by omega) c_ou.choose_spec.1, c_ou.choose_spec.2⟩, ⟨_, f.chn (by omega) c_ch.choose_spec⟩⟩
theorem CA.ouX (e : CA h hl sp L M T S hp P hk K) {X : LT} (x : OuA h' 68 X) (b : OuB X) (f : Fr 68 71 h h') : CA h' hl sp L M T S hp P hk K := by
  obtain ⟨c_sw, c_o, c_hi, c_spa, c_tx, c_sc, c_mo, c_tri, c_sh, c_ke, c_se, c_ou, c_ch⟩ := e
  exact ⟨c_sw, f.at (by omega) c_o, f.hi (by omega) c_hi, ⟨_, f.hi (by omega) c_spa.choose_spec⟩, f.tx (by omega) c_tx, ⟨_, f.sc (by omega) c_sc.choose_spec⟩, f.mo (by omega) c_mo, ⟨_, f.mo (by omega) c_tri.choose_spec⟩, ⟨_, f.sh (by omega) c_sh.choose_spec⟩, ⟨_, f.sh (by omega) c_ke.choose_spec⟩, f.se (by omega) c_se, ⟨_, x, b⟩, ⟨_, f.chn (by omega) c_ch.choose_spec⟩⟩
theorem CA.moX (e : CA h hl sp L M T S hp P hk K) {M' : LT} (x : MoA h' 25 M') (f : Fr 25 28 h h') : CA h' hl sp L M' T S hp P hk K := by
  obtain ⟨c_sw, c_o, c_hi, c_spa, c_tx, c_sc, c_mo, c_tri, c_sh, c_ke, c_se, c_ou, c_ch⟩ := e
  exact ⟨c_sw, f.at (by omega) c_o, f.hi (by omega) c_hi, ⟨_, f.hi (by omega) c_spa.choose_spec⟩, f.tx (by omega) c_tx, ⟨_, f.sc (by omega) c_sc.choose_spec⟩, x, ⟨_, f.mo (by omega) c_tri.choose_spec⟩, ⟨_, f.sh (by omega) c_sh.choose_spec⟩, ⟨_, f.sh (by omega) c_ke.choose_spec⟩, f.se (by omega) c_se, ⟨_, f.ou (by omega) c_ou.choose_spec.1, c_ou.choose_spec.2⟩, ⟨_, f.chn (by omega) c_ch.choose_spec⟩⟩
theorem CA.trX (e : CA h hl sp L M T S hp P hk K) {M' : LT} (x : MoA h' 28 M') (f : Fr 28 31 h h') : CA h' hl sp L M T S hp P hk K := by
  obtain ⟨c_sw, c_o, c_hi, c_spa, c_tx, c_sc, c_mo, c_tri, c_sh, c_ke, c_se, c_ou, c_ch⟩ := e
  exact ⟨c_sw, f.at (by omega) c_o, f.hi (by omega) c_hi, ⟨_, f.hi (by omega) c_spa.choose_spec⟩, f.tx (by omega) c_tx, ⟨_, f.sc (by omega) c_sc.choose_spec⟩, f.mo (by omega) c_mo, ⟨_, x⟩, ⟨_, f.sh (by omega) c_sh.choose_spec⟩, ⟨_, f.sh (by omega) c_ke.choose_spec⟩, f.se (by omega) c_se, ⟨_, f.ou (by omega) c_ou.choose_spec.1, c_ou.choose_spec.2⟩, ⟨_, f.chn (by omega) c_ch.choose_spec⟩⟩
theorem CA.shX (e : CA h hl sp L M T S hp P hk K) {nx' hp' : Nat} {P' : Nat → LT} (x : ShA h' 31 8 nx' hp' P') (f : Fr 31 57 h h') : CA h' hl sp L M T S hp' P' hk K := by
  obtain ⟨c_sw, c_o, c_hi, c_spa, c_tx, c_sc, c_mo, c_tri, c_sh, c_ke, c_se, c_ou, c_ch⟩ := e
  exact ⟨c_sw, f.at (by omega) c_o, f.hi (by omega) c_hi, ⟨_, f.hi (by omega) c_spa.choose_spec⟩, f.tx (by omega) c_tx, ⟨_, f.sc (by omega) c_sc.choose_spec⟩, f.mo (by omega) c_mo, ⟨_, f.mo (by omega) c_tri.choose_spec⟩, ⟨_, x⟩, ⟨_, f.sh (by omega) c_ke.choose_spec⟩, f.se (by omega) c_se, ⟨_, f.ou (by omega) c_ou.choose_spec.1, c_ou.choose_spec.2⟩, ⟨_, f.chn (by omega) c_ch.choose_spec⟩⟩
theorem CA.keX (e : CA h hl sp L M T S hp P hk K) {nx' hk' : Nat} {K' : Nat → LT} (x : ShA h' 57 2 nx' hk' K') (f : Fr 57 65 h h') : CA h' hl sp L M T S hp P hk' K' := by
  obtain ⟨c_sw, c_o, c_hi, c_spa, c_tx, c_sc, c_mo, c_tri, c_sh, c_ke, c_se, c_ou, c_ch⟩ := e
  exact ⟨c_sw, f.at (by omega) c_o, f.hi (by omega) c_hi, ⟨_, f.hi (by omega) c_spa.choose_spec⟩, f.tx (by omega) c_tx, ⟨_, f.sc (by omega) c_sc.choose_spec⟩, f.mo (by omega) c_mo, ⟨_, f.mo (by omega) c_tri.choose_spec⟩, ⟨_, f.sh (by omega) c_sh.choose_spec⟩, ⟨_, x⟩, f.se (by omega) c_se, ⟨_, f.ou (by omega) c_ou.choose_spec.1, c_ou.choose_spec.2⟩, ⟨_, f.chn (by omega) c_ch.choose_spec⟩⟩
theorem CA.seX (e : CA h hl sp L M T S hp P hk K) {S' : LT} (x : SeA h' 65 S') (f : Fr 65 68 h h') : CA h' hl sp L M T S' hp P hk K := by
  obtain ⟨c_sw, c_o, c_hi, c_spa, c_tx, c_sc, c_mo, c_tri, c_sh, c_ke, c_se, c_ou, c_ch⟩ := e
  exact ⟨c_sw, f.at (by omega) c_o, f.hi (by omega) c_hi, ⟨_, f.hi (by omega) c_spa.choose_spec⟩, f.tx (by omega) c_tx, ⟨_, f.sc (by omega) c_sc.choose_spec⟩, f.mo (by omega) c_mo, ⟨_, f.mo (by omega) c_tri.choose_spec⟩, ⟨_, f.sh (by omega) c_sh.choose_spec⟩, ⟨_, f.sh (by omega) c_ke.choose_spec⟩, x, ⟨_, f.ou (by omega) c_ou.choose_spec.1, c_ou.choose_spec.2⟩, ⟨_, f.chn (by omega) c_ch.choose_spec⟩⟩
theorem CA.chX (e : CA h hl sp L M T S hp P hk K) {c : Nat → Nat} (x : h'[71]? = some (kI 9 (fun i => nI (c i)))) (f : Fr 71 72 h h') : CA h' hl sp L M T S hp P hk K := by
  obtain ⟨c_sw, c_o, c_hi, c_spa, c_tx, c_sc, c_mo, c_tri, c_sh, c_ke, c_se, c_ou, c_ch⟩ := e
  exact ⟨c_sw, f.at (by omega) c_o, f.hi (by omega) c_hi, ⟨_, f.hi (by omega) c_spa.choose_spec⟩, f.tx (by omega) c_tx, ⟨_, f.sc (by omega) c_sc.choose_spec⟩, f.mo (by omega) c_mo, ⟨_, f.mo (by omega) c_tri.choose_spec⟩, ⟨_, f.sh (by omega) c_sh.choose_spec⟩, ⟨_, f.sh (by omega) c_ke.choose_spec⟩, f.se (by omega) c_se, ⟨_, f.ou (by omega) c_ou.choose_spec.1, c_ou.choose_spec.2⟩, ⟨_, x⟩⟩
theorem CA.txX (e : CA h hl sp L M T S hp P hk K) {T' : LT} (x : TxA h' 21 T') (f : Fr 21 23 h h') : CA h' hl sp L M T' S hp P hk K := by
  obtain ⟨c_sw, c_o, c_hi, c_spa, c_tx, c_sc, c_mo, c_tri, c_sh, c_ke, c_se, c_ou, c_ch⟩ := e
  exact ⟨c_sw, f.at (by omega) c_o, f.hi (by omega) c_hi, ⟨_, f.hi (by omega) c_spa.choose_spec⟩, x, ⟨_, f.sc (by omega) c_sc.choose_spec⟩, f.mo (by omega) c_mo, ⟨_, f.mo (by omega) c_tri.choose_spec⟩, ⟨_, f.sh (by omega) c_sh.choose_spec⟩, ⟨_, f.sh (by omega) c_ke.choose_spec⟩, f.se (by omega) c_se, ⟨_, f.ou (by omega) c_ou.choose_spec.1, c_ou.choose_spec.2⟩, ⟨_, f.chn (by omega) c_ch.choose_spec⟩⟩
theorem Fr2.fr {lo hi lo2 hi2 : Nat} (f : Fr2 lo hi lo2 hi2 h h') : ∀ b (x : va_E), (b < lo ∨ hi ≤ b) → (b < lo2 ∨ hi2 ≤ b) → h[b]? = some x → h'[b]? = some x := fun _ _ h1 h2 e => f.at h1 h2 e
theorem Fr2.spl {p q p2 q2 : Nat} (f : Fr2 p q p2 q2 h h') : ∃ h1, Fr p q h h1 ∧ Fr p2 q2 h1 h' := by
  refine ⟨(List.range h.length).map (fun i => if p2 ≤ i ∧ i < q2 ∧ ¬ (p ≤ i ∧ i < q) then h.getD i (.inl (0, 0, .inl fun _ => 0)) else h'.getD i (.inl (0, 0, .inl fun _ => 0))), ⟨by simp, fun b hb => ?_⟩, ⟨by simp [f.1], fun b hb => ?_⟩⟩
  · by_cases hl : b < h.length
    · have hl' : b < h'.length := by rw [f.1]; exact hl
      simp only [List.getElem?_map, List.getElem?_range hl, Option.map_some]
      by_cases h2 : p2 ≤ b ∧ b < q2
      · rw [if_pos ⟨h2.1, h2.2, by omega⟩]; simp [hl]
      · rw [if_neg (by omega)]
        have := f.2 b hb (by omega)
        simp [List.getD, this, hl]
    · rw [List.getElem?_eq_none (by simpa using hl), List.getElem?_eq_none (by omega)]
  · by_cases hl : b < h.length
    · have hl' : b < h'.length := by rw [f.1]; exact hl
      simp only [List.getElem?_map, List.getElem?_range hl, Option.map_some]
      rw [if_neg (by omega)]
      simp [List.getD, hl']
    · rw [List.getElem?_eq_none (by rw [f.1]; omega), List.getElem?_eq_none (by simpa using hl)]
theorem CA.scX (e : CA h hl sp L M T S hp P hk K) {C L' : LT} (x : ScA h' 23 21 C) (u : HiA h' sp L') (f : Fr2 23 25 sp (sp + 8) h h') : CA h' hl sp L M T S hp P hk K := by
  obtain ⟨h1, f1, f2⟩ := f.spl
  obtain ⟨c_sw, c_o, c_hi, c_spa, c_tx, c_sc, c_mo, c_tri, c_sh, c_ke, c_se, c_ou, c_ch⟩ := e
  exact ⟨c_sw, f2.at (by omega) (f1.at (by omega) c_o), f2.hi (by omega) (f1.hi (by omega) c_hi), ⟨_, u⟩, f2.tx (by omega) (f1.tx (by omega) c_tx), ⟨_, x⟩, f2.mo (by omega) (f1.mo (by omega) c_mo), ⟨_, f2.mo (by omega) (f1.mo (by omega) c_tri.choose_spec)⟩, ⟨_, f2.sh (by omega) (f1.sh (by omega) c_sh.choose_spec)⟩, ⟨_, f2.sh (by omega) (f1.sh (by omega) c_ke.choose_spec)⟩, f2.se (by omega) (f1.se (by omega) c_se), ⟨_, f2.ou (by omega) (f1.ou (by omega) c_ou.choose_spec.1), c_ou.choose_spec.2⟩, ⟨_, f2.chn (by omega) (f1.chn (by omega) c_ch.choose_spec)⟩⟩
def WfN (L M : LT) (B : Nat) : Prop := WfM L M B ∧ ∀ a, a < 4 → M 1 a ≤ 24
def CW (L M T S : LT) (hp : Nat) (P : Nat → LT) (hk : Nat) (K : Nat → LT) (B : Nat) : Prop := WfH L ∧ WfT T ∧ WfN L M B ∧ (∀ j, j < hp → WfN L (P j) B) ∧ (∀ j, j < hk → WfN L (K j) B) ∧ S 2 0 ≤ 6 ∧ ∀ i, i < S 2 0 → S 0 i ≤ 3 ∧ S 1 i ≤ 99
theorem WfM.up {B B' : Nat} (hb : B ≤ B') (w : WfM L M B) : WfM L M B' := ⟨by have := w.1; omega, w.2⟩
end
