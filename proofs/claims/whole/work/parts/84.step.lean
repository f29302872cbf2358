/-! the step of the induction: every instruction; then the theorem for every number of steps -/
theorem m_nI_int {v : Nat} (h : v < 2147483648) : (nI v).toInt = (v : Int) := nI_toInt (by omega)
theorem m_eq_nI {x : Int32} {v : Nat} (h : v < 2147483648) : x = nI v ↔ x.toInt = (v : Int) := by
  constructor
  · intro e; rw [e]; exact m_nI_int h
  · intro e; exact Int32.toInt_inj.mp (by rw [e, m_nI_int h])
theorem m_swL_ok {y pc : Nat} {x : Int32} {d : Nat} {f : Nat → MR} {r : Option Value × MH} {dflt : Int} (hd : (pc : Int) + dflt = ((m_pcN y d : Nat) : Int)) : ∀ (os : List (Int × Int)) (ps : List Nat), m_swL y pc os ps = true → m_sw x d f ps = some r → ∃ t, f t = some r ∧ (pc : Int) + Op.lookupswitch.offset os dflt x.toInt = ((m_pcN y t : Nat) : Int) := by
  intro os
  induction os with
  | nil =>
    intro ps h hr
    match ps, h with
    | [], _ => exact ⟨d, hr, hd⟩
    | _ :: _, h => cases h
  | cons o os ih =>
    intro ps h hr
    match ps, h with
    | [], h => cases h
    | [_], h => cases h
    | v :: t :: q, h =>
      unfold m_swL at h
      simp only [Bool.and_eq_true] at h
      obtain ⟨⟨⟨h1, h2⟩, h3⟩, h4⟩ := h
      have h1 := of_decide_eq_true h1
      have h2 := of_decide_eq_true h2
      have h3 := m_pcZ_N h3
      obtain ⟨oa, ob⟩ := o
      dsimp only at h1 h3
      rw [Op.lookupswitch.offset_cons]
      unfold m_sw at hr
      by_cases hx : x = nI v
      · rw [if_pos hx] at hr
        refine ⟨t, hr, ?_⟩
        rw [if_pos (by rw [(m_eq_nI h2).mp hx]; exact h1.symm)]
        exact h3
      · rw [if_neg hx] at hr
        rw [if_neg (fun e => hx ((m_eq_nI h2).mpr (by rw [← e]; exact h1.symm)))]
        exact ih q h4 hr
theorem m_swT_ok {y pc : Nat} {x : Int32} {d : Nat} {f : Nat → MR} {r : Option Value × MH} {lo : Int} (hlo : 0 ≤ lo) : ∀ (os : List Int) (ps : List Nat) (j : Nat), m_swT y pc lo j os ps = true → lo + (j : Int) + (os.length : Int) < 2147483648 → m_sw x d f ps = some r →
    (∃ (t i : Nat) (o : Int), f t = some r ∧ os[i]? = some o ∧ x.toInt = lo + (j : Int) + (i : Int) ∧ (pc : Int) + o = ((m_pcN y t : Nat) : Int)) ∨ (f d = some r ∧ (x.toInt < lo + (j : Int) ∨ lo + (j : Int) + (os.length : Int) ≤ x.toInt)) := by
  intro os
  induction os with
  | nil =>
    intro ps j h hb hr
    match ps, h with
    | [], _ =>
      refine Or.inr ⟨hr, ?_⟩
      simp
      omega
    | _ :: _, h => cases h
  | cons o os ih =>
    intro ps j h hb hr
    match ps, h with
    | [], h => cases h
    | [_], h => cases h
    | v :: t :: q, h =>
      unfold m_swT at h
      simp only [Bool.and_eq_true] at h
      obtain ⟨⟨h1, h3⟩, h4⟩ := h
      have h1 := of_decide_eq_true h1
      have h3 := m_pcZ_N h3
      simp only [List.length_cons] at hb
      have hv : v < 2147483648 := by omega
      unfold m_sw at hr
      by_cases hx : x = nI v
      · rw [if_pos hx] at hr
        exact Or.inl ⟨t, 0, o, hr, rfl, by rw [(m_eq_nI hv).mp hx]; omega, h3⟩
      · rw [if_neg hx] at hr
        have hx' : x.toInt ≠ (v : Int) := fun e => hx ((m_eq_nI hv).mpr e)
        rcases ih q (j + 1) h4 (by omega) hr with ⟨t', i, o', g1, g2, g3, g4⟩ | ⟨g1, g2⟩
        · exact Or.inl ⟨t', i + 1, o', g1, by simpa using g2, by omega, g4⟩
        · refine Or.inr ⟨g1, ?_⟩
          simp only [List.length_cons]
          omega
theorem m_blt {a b : Nat} (h : Nat.blt a b = true) : a < b := by rwa [Nat.blt_eq] at h
theorem m_ble {a b : Nat} (h : Nat.ble a b = true) : a ≤ b := Nat.le_of_ble_eq_true h
theorem m_beq {a b : Nat} (h : Nat.beq a b = true) : a = b := Nat.eq_of_beq_eq_true h
theorem m_def_len : ∀ c, c < 9 → (m_def c).length = (m_C c).2.2 := by decide +kernel
theorem m_pc8 (y : Nat) (h : m_own y = RX3) : m_own y = RX3 := h
section MSTEP
variable {p : Program} {l : Launch} {e : Env} {R : Room} {s : State} {m : MethodId} {args : Array Value} {below : List Frame} {meth : Method} {c : Code} {Q : State → Prop} {G : m_GT} {y : Nat}
/-- a call of a method of ours, of any of the three kinds, out of its run -/
theorem m_callgo {n : Nat} (ih : m_Snd n G l) {z k : Nat} {as : List Value} {ls : ML} {r : List Value} {h hF : MH} {rv : Option Value} (hst : m_call (m_run n) z y k as ls r h = some (rv, hF)) : ∃ (rv1 : Option Value) (h1 : MH), m_run n z 0 (m_ent (m_maxL z) as) [] h = some (rv1, h1) ∧ m_run n y k ls (rv1.toList ++ r) h1 = some (rv, hF) ∧ m_le h h1 ∧ m_le h1 hF := by
  unfold m_call at hst
  obtain ⟨⟨rv1, h1⟩, hq, hst⟩ := Option.bind_eq_some_iff.mp hst
  exact ⟨rv1, h1, hq, hst, m_grow _ _ _ _ _ _ _ _ hq, m_grow _ _ _ _ _ _ _ _ hst⟩
theorem m_okM_d {z : Nat} (hz : z < 164) : (m_w (m_pInst z) (bif m_stat z then .static (m_name z) else .instanceMethod (m_name z)) = true ∧ m_w (m_pIni z) (.initialized (m_own z)) = true) ∧ (m_name z).cls = m_own z ∧ (m_rc z = 9 ∨ m_own z = (m_C (m_rc z)).1) ∧ (parseMethodDescriptor (m_name z).desc).map (fun d => d.parameters.length) = some (m_np z) ∧ m_own z ≠ "java/lang/invoke/MethodHandle" ∧ m_own z ≠ "java/lang/invoke/VarHandle" := by
  have hM := m_okP_0 z hz
  simp only [m_okM, Bool.and_eq_true] at hM
  obtain ⟨⟨⟨⟨⟨⟨⟨⟨hM1, hM2⟩, hM3⟩, hM4⟩, hM5⟩, hM6⟩, hM7⟩, hM8⟩, hM9⟩ := hM
  refine ⟨⟨hM1, hM2⟩, of_decide_eq_true hM3, ?_, of_decide_eq_true hM6, of_decide_eq_true hM8, of_decide_eq_true hM9⟩
  rcases Bool.or_eq_true _ _ ▸ hM4 with q | q
  · exact Or.inl (m_beq q)
  · exact Or.inr (of_decide_eq_true q)
set_option maxHeartbeats 8000000 in
set_option maxRecDepth 100000 in
theorem m_snd_step {n : Nat} (ih : m_Snd n G l) : m_Snd (n + 1) G l := by
  intro y k ls st h rv hF hr p e R s m args below meth c Q F ret H locs lsA cells slots hR hS hc hL hcl hsl
  have nx : ∀ (k' : Nat) (ls' : ML) (st' : List Value) (h' : MH), m_run n y k' ls' st' h' = some (rv, hF) → ∀ (H1 : Heap) (locs1 : List Loc) (lsA1 : Array Slot) (cells1 slots1 : Nat), m_Rel G h' H1 → va_S (m_A G) s.heap H1 locs1 → s.heap.size + cells1 = H1.size → m_L G lsA1 (m_maxL y) ls' → cells1 + (hF.length - h'.length) ≤ R.cells → slots1 + (m_sz hF - m_sz h') ≤ R.slots → W p l e R s m args below meth c H1 locs1 cells1 slots1 Q (F0 m (m_pcN y k') lsA1 (st'.map (m_tv G))) := fun k' ls' st' h' hr' => ih y k' ls' st' h' rv hF hr' F ret
  have gr : ∀ (k' : Nat) (ls' : ML) (st' : List Value) (h' : MH), m_run n y k' ls' st' h' = some (rv, hF) → m_le h' hF := fun k' ls' st' h' hr' => m_grow _ _ _ _ _ _ _ _ hr'
  have hst : m_step (m_run n) y k ls st h = some (rv, hF) := hr
  obtain ⟨hx, hb, hml, hrt, hlocks, hnm, hown, hts, hK, hbase, hfr, hlo⟩ := id F
  unfold m_step at hst
  cases hcode : m_code y k with
  | none => rw [hcode] at hst; cases hst
  | some en =>
  rw [hcode] at hst
  have hok := m_okE_of hcode
  have hyM := (m_okM_of hcode).1
  have hpc : m_pcN y k = en.1 := by unfold m_pcN; rw [hcode]
  rw [hpc]
  obtain ⟨pc, i, len, a, c0⟩ := en
  simp only [m_okE, Bool.and_eq_true] at hok
  obtain ⟨⟨⟨hd, hlen⟩, hnx⟩, hI⟩ := hok
  replace hd := of_decide_eq_true hd
  dsimp only at hst hd hlen hnx hI
  have hlen' : m_sws i = false → len = m_lenOf i := by
    intro q
    rw [q] at hlen
    exact m_beq hlen
  have hnx' : m_on i = true → m_pcN y (k + 1) = pc + len := by
    intro q
    rw [q] at hnx
    exact m_pcAt_N hnx
  have hfle : h.length ≤ hF.length := (m_grow _ _ _ _ _ _ _ _ hr).1
  split at hst
  · -- getfield
    rename_i idx
    obtain rfl := hlen' rfl
    have hn := hnx' rfl
    split at hst
    · rename_i o r ci f t
      simp only [m_okI, Bool.and_eq_true] at hI
      obtain ⟨⟨h1, h2⟩, h3⟩ := hI
      have h4 := m_in (m_w_mem h3) rfl
      cases ht : Nat.beq t 2 with
      | true =>
        rw [ht] at hst
        obtain ⟨x, hq, hst⟩ := Option.bind_eq_some_iff.mp hst
        obtain ⟨fs, he, hv⟩ := m_fr_inv hq
        have := nx _ _ _ _ hst H locs lsA cells slots hR hS hc hL hcl hsl
        rw [hn] at this
        exact m_Wget hx hb hts hown hK hR he hv (m_blt h1) (m_blt h2) h4 hd this
      | false =>
        rw [ht] at hst
        obtain ⟨x, hq, hst⟩ := Option.bind_eq_some_iff.mp hst
        obtain ⟨fs, he, hv⟩ := m_fi_inv hq
        have := nx _ _ _ _ hst H locs lsA cells slots hR hS hc hL hcl hsl
        rw [hn] at this
        exact m_Wget hx hb hts hown hK hR he hv (m_blt h1) (m_blt h2) h4 hd this
    · cases hst
  · -- putfield
    rename_i idx
    obtain rfl := hlen' rfl
    have hn := hnx' rfl
    have put : ∀ (v : Value) (o : Nat) (r : List Value) (ci f t : Nat) (h' : MH), st = v :: .ref o :: r → a = [ci, f, t] → m_pf h o ci f v = some h' → m_run n y (k + 1) ls r h' = some (rv, hF) → (∀ T : FieldType, m_fty t T = true → narrow T (m_tv G v) = m_tv G v ∧ fits T (m_tv G v) = true) → W p l e R s m args below meth c H locs cells slots Q (F0 m pc lsA (st.map (m_tv G))) := by
      intro v o r ci f t h' hst0 ha hq hst2 hT
      subst hst0
      subst ha
      simp only [m_okI, Bool.and_eq_true] at hI
      obtain ⟨⟨⟨⟨h1, h2⟩, h3⟩, h5⟩, h6⟩ := hI
      have h4 := m_in (m_w_mem h3) rfl
      obtain ⟨hn1, hn2⟩ := hT _ h5
      have hle := m_le_pf hq
      have hle2 := gr _ _ _ _ hst2
      obtain ⟨fs0, g1, g2, g3⟩ := m_pf_inv hq
      have hlen1 : h'.length = h.length := by rw [g3]; simp
      have hsz1 : m_sz h' = m_sz h := by rw [g3]; exact m_sz_set g1 rfl
      refine m_Wput hx hb hts hown hK hR hS hc hq (m_blt h1) (m_blt h2) h4 ?_ hn1 hn2 hd fun H1 locs1 hR1 hS1 hc1 => ?_
      · cases hfin : ((m_C ci).2.1 f).2.2.2 with
        | false => exact Or.inl rfl
        | true =>
          rw [hfin] at h6
          have h6 : (decide ((m_name y).name = "<init>") && decide (((m_C ci).2.1 f).1 = m_own y)) = true := h6
          simp only [Bool.and_eq_true] at h6
          exact Or.inr ⟨rfl, by rw [hnm]; exact of_decide_eq_true h6.1, of_decide_eq_true h6.2⟩
      · have := nx _ _ _ _ hst2 H1 locs1 lsA cells slots hR1 hS1 hc1 hL (by rw [hlen1]; exact hcl) (by rw [hsz1]; exact hsl)
        rw [hn] at this
        exact this
    split at hst
    · rename_i x o r ci f t
      cases ht : Nat.beq t 0 with
      | true =>
        rw [ht] at hst
        obtain ⟨h', hq, hst⟩ := Option.bind_eq_some_iff.mp hst
        refine put _ _ _ _ _ _ _ rfl rfl hq hst fun T hT => ?_
        obtain rfl := m_beq ht
        cases T <;> first | (exact ⟨rfl, rfl⟩) | cases hT
      | false =>
        rw [ht] at hst
        cases ht1 : Nat.beq t 1 with
        | true =>
          rw [ht1] at hst
          simp only [cond_false, cond_true] at hst
          split at hst
          · rename_i hx01
            obtain ⟨h', hq, hst⟩ := Option.bind_eq_some_iff.mp hst
            refine put _ _ _ _ _ _ _ rfl rfl hq hst fun T hT => ?_
            obtain rfl := m_beq ht1
            cases T <;> first | (rcases hx01 with rfl | rfl <;> exact ⟨rfl, rfl⟩) | cases hT
          · cases hst
        | false => rw [ht1] at hst; cases hst
    · rename_i x o r ci f t
      cases ht : Nat.beq t 2 with
      | true =>
        rw [ht] at hst
        obtain ⟨h', hq, hst⟩ := Option.bind_eq_some_iff.mp hst
        refine put _ _ _ _ _ _ _ rfl rfl hq hst fun T hT => ?_
        obtain rfl := m_beq ht
        cases T <;> first | (exact ⟨rfl, rfl⟩) | cases hT
      | false => rw [ht] at hst; cases hst
    · cases hst
  · -- iaload
    obtain rfl := hlen' rfl
    have hn := hnx' rfl
    split at hst
    · rename_i j o r
      obtain ⟨x, hq, hst⟩ := Option.bind_eq_some_iff.mp hst
      have := nx _ _ _ _ hst H locs lsA cells slots hR hS hc hL hcl hsl
      rw [hn] at this
      exact m_Wiald hx hb hK hR hq hd this
    · cases hst
  · -- caload
    obtain rfl := hlen' rfl
    have hn := hnx' rfl
    split at hst
    · rename_i j o r
      obtain ⟨x, hq, hst⟩ := Option.bind_eq_some_iff.mp hst
      have := nx _ _ _ _ hst H locs lsA cells slots hR hS hc hL hcl hsl
      rw [hn] at this
      exact m_Wcald hx hb hK hR hq hd this
    · cases hst
  · -- aaload
    obtain rfl := hlen' rfl
    have hn := hnx' rfl
    split at hst
    · rename_i j o r
      obtain ⟨x, hq, hst⟩ := Option.bind_eq_some_iff.mp hst
      have := nx _ _ _ _ hst H locs lsA cells slots hR hS hc hL hcl hsl
      rw [hn] at this
      exact m_Waald hx hb hK hR hq hd this
    · cases hst
  · -- iastore
    obtain rfl := hlen' rfl
    have hn := hnx' rfl
    split at hst
    · rename_i x j o r
      obtain ⟨h', hq, hst⟩ := Option.bind_eq_some_iff.mp hst
      obtain ⟨n0, f0, g1, g2, g3⟩ := m_pi_inv hq
      have hlen1 : h'.length = h.length := by rw [g3]; simp
      have hsz1 : m_sz h' = m_sz h := by rw [g3]; exact m_sz_set g1 rfl
      refine m_Wiast hx hb hK hR hS hc hq hd fun H1 locs1 hR1 hS1 hc1 => ?_
      have := nx _ _ _ _ hst H1 locs1 lsA cells slots hR1 hS1 hc1 hL (by rw [hlen1]; exact hcl) (by rw [hsz1]; exact hsl)
      rw [hn] at this
      exact this
    · cases hst
  · -- castore
    obtain rfl := hlen' rfl
    have hn := hnx' rfl
    split at hst
    · rename_i x j o r
      obtain ⟨h', hq, hst⟩ := Option.bind_eq_some_iff.mp hst
      obtain ⟨n0, f0, g1, g2, g3⟩ := m_pi_inv hq
      have hlen1 : h'.length = h.length := by rw [g3]; simp
      have hsz1 : m_sz h' = m_sz h := by rw [g3]; exact m_sz_set g1 rfl
      refine m_Wcast hx hb hK hR hS hc hq hd fun H1 locs1 hR1 hS1 hc1 => ?_
      have := nx _ _ _ _ hst H1 locs1 lsA cells slots hR1 hS1 hc1 hL (by rw [hlen1]; exact hcl) (by rw [hsz1]; exact hsl)
      rw [hn] at this
      exact this
    · cases hst
  · -- aastore
    obtain rfl := hlen' rfl
    have hn := hnx' rfl
    split at hst
    · rename_i x j o r
      obtain ⟨h', hq, hst⟩ := Option.bind_eq_some_iff.mp hst
      obtain ⟨n0, f0, g1, g2, gx, g3⟩ := m_pr_inv hq
      have hlen1 : h'.length = h.length := by rw [g3]; simp
      have hsz1 : m_sz h' = m_sz h := by rw [g3]; exact m_sz_set g1 rfl
      refine m_Waast hx hb hK hR hS hc hq hd fun H1 locs1 hR1 hS1 hc1 => ?_
      have := nx _ _ _ _ hst H1 locs1 lsA cells slots hR1 hS1 hc1 hL (by rw [hlen1]; exact hcl) (by rw [hsz1]; exact hsl)
      rw [hn] at this
      exact this
    · cases hst
  · -- arraylength
    obtain rfl := hlen' rfl
    have hn := hnx' rfl
    split at hst
    · rename_i o r
      obtain ⟨x, hq, hst⟩ := Option.bind_eq_some_iff.mp hst
      have := nx _ _ _ _ hst H locs lsA cells slots hR hS hc hL hcl hsl
      rw [hn] at this
      exact m_Walen hx hb hK hR hq hd this
    · cases hst
  · -- idiv
    obtain rfl := hlen' rfl
    have hn := hnx' rfl
    split at hst
    · rename_i y' x r
      split at hst
      · cases hst
      · rename_i hy0
        have := nx _ _ _ _ hst H locs lsA cells slots hR hS hc hL hcl hsl
        rw [hn] at this
        exact lv_idiv hx hb hd hy0 this
    · cases hst
  · -- irem
    obtain rfl := hlen' rfl
    have hn := hnx' rfl
    split at hst
    · rename_i y' x r
      split at hst
      · cases hst
      · rename_i hy0
        have := nx _ _ _ _ hst H locs lsA cells slots hR hS hc hL hcl hsl
        rw [hn] at this
        exact lv_irem hx hb hd hy0 this
    · cases hst
  · -- lrem
    obtain rfl := hlen' rfl
    have hn := hnx' rfl
    split at hst
    · rename_i y' x r
      split at hst
      · cases hst
      · rename_i hy0
        have := nx _ _ _ _ hst H locs lsA cells slots hR hS hc hL hcl hsl
        rw [hn] at this
        exact lv_lrem hx hb hd hy0 this
    · cases hst
  · -- ifCond
    rename_i cd off
    obtain rfl := hlen' rfl
    have hn := hnx' rfl
    have htg := m_one (P := fun a => m_okI y pc (.ifCond cd off) a c0) (Q := fun t => (pc : Int) + off = ((m_pcN y t : Nat) : Int)) hI rfl (fun _ _ _ => rfl) (fun v hv => m_pcZ_N hv)
    split at hst
    · rename_i x r
      have A : m_run n y (m_a0 a) ls r h = some (rv, hF) → W p l e R s m args below meth c H locs cells slots Q (F0 m (m_pcN y (m_a0 a)) lsA (r.map (m_tv G))) := fun q => nx _ _ _ _ q H locs lsA cells slots hR hS hc hL hcl hsl
      have B : m_run n y (k + 1) ls r h = some (rv, hF) → W p l e R s m args below meth c H locs cells slots Q (F0 m (pc + 3) lsA (r.map (m_tv G))) := fun q => by
        have := nx _ _ _ _ q H locs lsA cells slots hR hS hc hL hcl hsl
        rw [hn] at this
        exact this
      cases cd with
      | eq => exact lv_if_eq hx hb hd htg (fun q => A (by simpa [m_br, show x = nI 0 from q] using hst)) (fun q => B (by have q' : ¬ x = nI 0 := q; simpa [m_br, q'] using hst))
      | ne => exact lv_if_ne hx hb hd htg (fun q => A (by have q' : ¬ x = nI 0 := q; simpa [m_br, q'] using hst)) (fun q => B (by simpa [m_br, show x = nI 0 from q] using hst))
      | lt => exact lv_if_lt hx hb hd htg (fun q => A (by have q' : x < nI 0 := q; simpa only [m_br, q', if_true] using hst)) (fun q => B (by have q' : ¬ x < nI 0 := q; simpa only [m_br, q', if_false] using hst))
      | ge => exact lv_if_ge hx hb hd htg (fun q => A (by have q' : nI 0 ≤ x := q; simpa only [m_br, q', if_true] using hst)) (fun q => B (by have q' : ¬ nI 0 ≤ x := q; simpa only [m_br, q', if_false] using hst))
      | gt => exact lv_if_gt hx hb hd htg (fun q => A (by have q' : nI 0 < x := q; simpa only [m_br, q', if_true] using hst)) (fun q => B (by have q' : ¬ nI 0 < x := q; simpa only [m_br, q', if_false] using hst))
      | le => exact lv_if_le hx hb hd htg (fun q => A (by have q' : x ≤ nI 0 := q; simpa only [m_br, q', if_true] using hst)) (fun q => B (by have q' : ¬ x ≤ nI 0 := q; simpa only [m_br, q', if_false] using hst))
    · cases hst
  · -- if_icmp
    rename_i cd off
    obtain rfl := hlen' rfl
    have hn := hnx' rfl
    have htg := m_one (P := fun a => m_okI y pc (.if_icmp cd off) a c0) (Q := fun t => (pc : Int) + off = ((m_pcN y t : Nat) : Int)) hI rfl (fun _ _ _ => rfl) (fun v hv => m_pcZ_N hv)
    split at hst
    · rename_i z x r
      have A : m_run n y (m_a0 a) ls r h = some (rv, hF) → W p l e R s m args below meth c H locs cells slots Q (F0 m (m_pcN y (m_a0 a)) lsA (r.map (m_tv G))) := fun q => nx _ _ _ _ q H locs lsA cells slots hR hS hc hL hcl hsl
      have B : m_run n y (k + 1) ls r h = some (rv, hF) → W p l e R s m args below meth c H locs cells slots Q (F0 m (pc + 3) lsA (r.map (m_tv G))) := fun q => by
        have := nx _ _ _ _ q H locs lsA cells slots hR hS hc hL hcl hsl
        rw [hn] at this
        exact this
      cases cd with
      | eq => exact lv_icmp_eq hx hb hd htg (fun q => A (by simpa only [m_br, if_pos q] using hst)) (fun q => B (by simpa only [m_br, if_neg q] using hst))
      | ne => exact lv_icmp_ne hx hb hd htg (fun q => A (by simpa only [m_br, if_neg q] using hst)) (fun q => B (by simpa only [m_br, if_pos q] using hst))
      | lt => exact lv_icmp_lt hx hb hd htg (fun q => A (by simpa only [m_br, if_pos q] using hst)) (fun q => B (by simpa only [m_br, if_neg q] using hst))
      | ge => exact lv_icmp_ge hx hb hd htg (fun q => A (by simpa only [m_br, if_pos q] using hst)) (fun q => B (by simpa only [m_br, if_neg q] using hst))
      | gt => exact lv_icmp_gt hx hb hd htg (fun q => A (by simpa only [m_br, if_pos q] using hst)) (fun q => B (by simpa only [m_br, if_neg q] using hst))
      | le => exact lv_icmp_le hx hb hd htg (fun q => A (by simpa only [m_br, if_pos q] using hst)) (fun q => B (by simpa only [m_br, if_neg q] using hst))
    · cases hst
  · -- goto
    rename_i off
    obtain rfl := hlen' rfl
    have htg := m_one (P := fun a => m_okI y pc (.goto off) a c0) (Q := fun t => (pc : Int) + off = ((m_pcN y t : Nat) : Int)) hI rfl (fun _ _ _ => rfl) (fun v hv => m_pcZ_N hv)
    exact lv_goto hx hb hd htg (nx _ _ _ _ hst H locs lsA cells slots hR hS hc hL hcl hsl)
  · -- tableswitch
    rename_i dflt lo hi offs
    split at hst
    · rename_i x r
      match a, hI, hst with
      | [], hI, _ => cases hI
      | t0 :: ps, hI, hst =>
        simp only [m_okI, Bool.and_eq_true] at hI
        obtain ⟨⟨⟨⟨h1, h2⟩, h3⟩, h4⟩, h5⟩ := hI
        have h1 := m_pcZ_N h1
        have h2 := of_decide_eq_true h2
        have h3 := of_decide_eq_true h3
        have h4 := of_decide_eq_true h4
        have hsz : offs.toList.length = offs.size := Array.length_toList
        rcases m_swT_ok h2 offs.toList ps 0 h5 (by rw [hsz]; omega) hst with ⟨t, i, o, g1, g2, g3, g4⟩ | ⟨g1, g2⟩
        · have hi2 : i < offs.toList.length := (List.getElem?_eq_some_iff.mp g2).1
          refine lv_tableIn hx hb hd (off := o) (tgt := m_pcN y t) (by omega) (by omega) ?_ g4 (nx _ _ _ _ g1 H locs lsA cells slots hR hS hc hL hcl hsl)
          rw [show (x.toInt - lo).toNat = i by omega, ← Array.getElem?_toList]
          exact g2
        · exact lv_tableOut hx hb hd (tgt := m_pcN y t0) (by rw [hsz] at g2; omega) h1 (nx _ _ _ _ g1 H locs lsA cells slots hR hS hc hL hcl hsl)
    · cases hst
  · -- lookupswitch
    rename_i dflt prs
    split at hst
    · rename_i x r
      match a, hI, hst with
      | [], hI, _ => cases hI
      | t0 :: ps, hI, hst =>
        simp only [m_okI, Bool.and_eq_true] at hI
        obtain ⟨⟨h1, h2⟩, h3⟩ := hI
        obtain ⟨t, g1, g2⟩ := m_swL_ok (m_pcZ_N h1) prs.toList ps h3 hst
        exact lv_lookup hx hb hd h2 rfl g2 (nx _ _ _ _ g1 H locs lsA cells slots hR hS hc hL hcl hsl)
    · cases hst
  · -- invokevirtual
    rename_i idx
    obtain rfl := hlen' rfl
    have hn := hnx' rfl
    split at hst
    · rename_i z na
      simp only [m_okI] at hI
      split at hst
      · rename_i o as r harg
        cases hz9 : Nat.blt z 900 with
        | false => rw [hz9] at hst; cases hst
        | true =>
          rw [hz9] at hst hI
          simp only [cond_true] at hst hI
          cases hokc : m_okc as r with
          | false => rw [hokc] at hst; cases hst
          | true =>
          rw [hokc] at hst
          simp only [cond_true] at hst
          split at hst
          · rename_i hcls
            simp only [Bool.and_eq_true, Bool.not_eq_true'] at hI
            obtain ⟨⟨⟨⟨⟨⟨⟨⟨h1, h2⟩, h3⟩, h4⟩, h5⟩, h6⟩, h7⟩, h8⟩, h9⟩ := hI
            have hz := m_blt h1
            obtain ⟨⟨hw1, hw2⟩, hcl1, hcl2, hnp, hmh, hvh⟩ := m_okM_d hz
            rw [h4] at hw1
            simp only [m_okc, Bool.and_eq_true] at hokc
            obtain ⟨hlen0, hst0⟩ := m_args_st harg
            obtain ⟨rv1, h1', hq, hst, hle1, hle2⟩ := m_callgo ih hst
            have hcats : m_cats (.ref o :: as) = true := by simp [m_cats, m_cat, hokc.2]
            have hM := m_met ih hz hq hcats (by rw [hlen0]; exact m_ble h3)
            obtain ⟨fs, hof⟩ := m_cls_inv hcls
            have hrc := m_blt h7
            have hnamec : m_own z = (m_C (m_rc z)).1 := by
              rcases hcl2 with q | q
              · omega
              · exact q
            rw [hst0]
            have hstk : ((Value.ref o :: as).reverse ++ r).map (m_tv G) = (as.map (m_tv G)).reverse ++ Value.ref (G.1 + o) :: r.map (m_tv G) := by
              simp [List.map_reverse, m_tv]
            rw [hstk]
            refine m_Wback (z := z) hS hc hR hle1.1 (va_runV (As := as.map (m_tv G)) (b := G.1 + o) (C := m_own z) (own := m_own y) (n := m_np z) (index := idx) (bytes := m_bytes z) (maxL := m_maxL z) (ret := m_retT z) (Ts := m_tbl) ⟨hx, hb, hml, hown, hts⟩ hM
              (cwV (m_np z) hts ?_ rfl rfl rfl ⟨hcl1, by rw [hcl1]; exact hmh, by rw [hcl1]; exact hvh, hnp⟩ ⟨Nat.le_trans (m_ble h8) hfr, by have := m_ble h9; show 8 + (m_maxL z + 11) + m_loc z ≤ R.locals; omega⟩)
              ⟨m_Pz_blind, ?_, fun U hU hW => ⟨by simp [m_tv], by rw [hU]; exact hR, m_KS.warm hW hK, by rw [hU, hR.1]; omega⟩⟩ rfl (by have := m_beq h2; rw [List.length_cons, this] at hlen0; simpa using hlen0) hL.1 rfl (lv_room (m_okr_le G hokc.1)) hd ⟨?_, ?_⟩) ?_
            · intro w hw
              unfold wsV at hw
              rcases List.mem_append.mp hw with hw | hw
              · simp only [List.mem_cons, List.not_mem_nil, or_false] at hw
                rcases hw with rfl | rfl | rfl | rfl
                · exact ⟨m_in (m_w_mem h5) rfl, Or.inl rfl⟩
                · exact ⟨m_in (m_w_mem hw1) rfl, Or.inl rfl⟩
                · exact ⟨m_in (m_w_mem h6) rfl, Or.inl rfl⟩
                · exact ⟨m_in (m_w_mem hw2) rfl, Or.inl rfl⟩
              · exact m_good_wz hz w hw
            · have hrecv := va_recv hK.1 hR.2.1 (m_clAt _ hrc) (m_ws_at hof)
              rw [hnamec]
              exact hrecv
            · have := hle2.1; omega
            · have h9a := hle1.2.1; have h9b := hle2.2.1; omega
            · intro H1 locs1 hR1 hS1 hc1
              have := nx _ _ _ _ hst H1 locs1 lsA (cells + (h1'.length - h.length)) (slots + (m_sz h1' - m_sz h)) hR1 hS1 hc1 hL (by have h9a := hle1.1; have h9b := hle2.1; omega) (by have h9a := hle1.2.1; have h9b := hle2.2.1; omega)
              rw [hn, List.map_append] at this
              exact this
          · cases hst
      · rename_i j as r harg
        cases hz9 : Nat.blt 999 z with
        | false => rw [hz9] at hst; cases hst
        | true =>
          rw [hz9] at hst
          simp only [cond_true] at hst
          have hz' := m_blt hz9
          have hz8 : Nat.blt z 900 = false := Bool.eq_false_iff.mpr (fun q => by have := m_blt q; omega)
          rw [hz8] at hI
          simp only [cond_false, Bool.and_eq_true] at hI
          obtain ⟨⟨⟨⟨h1, h2⟩, h3⟩, h4⟩, h5⟩ := hI
          cases hokc : m_okc as r with
          | false => rw [hokc] at hst; cases hst
          | true =>
          rw [hokc] at hst
          simp only [cond_true] at hst
          simp only [m_okc, Bool.and_eq_true] at hokc
          obtain ⟨x, hq, hst⟩ := Option.bind_eq_some_iff.mp hst
          obtain ⟨hlen0, hst0⟩ := m_args_st harg
          rw [hst0]
          have hstk : ((Value.retAddr j :: as).reverse ++ r).map (m_tv G) = (as.map (m_tv G)).reverse ++ Value.ref (G.2.1 j) :: r.map (m_tv G) := by
            simp [List.map_reverse, m_tv]
          rw [hstk]
          have hj : j < 2 := by
            unfold m_str at hq
            cases hb2 : Nat.blt j 2 with
            | true => exact m_blt hb2
            | false => rw [hb2] at hq; cases hq
          · have := nx _ _ _ _ hst H locs lsA cells slots hR hS hc hL hcl hsl
            rw [hn] at this
            have hna : as.length + 1 = (bif Nat.beq z 1000 then 1 else 2) := by
              rw [List.length_cons] at hlen0
              rw [hlen0]
              exact m_beq h3
            exact m_Wstr F hK.2.2.2.2.2.2.2.2 hR hS hL.1 hq hj ⟨by omega, m_blt h2⟩ hna (m_in (m_w_mem h1) rfl) (m_okr_le G hokc.1) (m_ble h4) (m_ble h5) hd this (by omega) (by omega)
      · cases hst
    · cases hst
  · -- invokestatic
    rename_i idx
    obtain rfl := hlen' rfl
    have hn := hnx' rfl
    split at hst
    · rename_i z na
      simp only [m_okI] at hI
      split at hst
      · rename_i as r harg
        cases hokc : m_okc as r with
        | false => rw [hokc] at hst; cases hst
        | true =>
        rw [hokc] at hst
        simp only [cond_true] at hst
        simp only [Bool.and_eq_true] at hI
        obtain ⟨⟨⟨⟨⟨⟨h1, h2⟩, h3⟩, h4⟩, h5⟩, h6⟩, h7⟩ := hI
        have hz := m_blt h1
        obtain ⟨⟨hw1, hw2⟩, hcl1, hcl2, hnp, hmh, hvh⟩ := m_okM_d hz
        rw [h4] at hw1
        simp only [m_okc, Bool.and_eq_true] at hokc
        obtain ⟨hlen0, hst0⟩ := m_args_st harg
        obtain ⟨rv1, h1', hq, hst, hle1, hle2⟩ := m_callgo ih hst
        have hM := m_met ih hz hq hokc.2 (by rw [hlen0]; exact m_ble h3)
        have hini := m_in (m_w_mem hw2) rfl
        have hstat := m_in (m_w_mem hw1) rfl
        rw [hst0]
        have hstk : (as.reverse ++ r).map (m_tv G) = (as.map (m_tv G)).reverse ++ r.map (m_tv G) := by
          simp [List.map_reverse]
        rw [hstk]
        have fin : ∀ (H1 : Heap) (locs1 : List Loc), m_Rel G h1' H1 → va_S (m_A G) s.heap H1 locs1 → s.heap.size + (cells + (h1'.length - h.length)) = H1.size → W p l e R s m args below meth c H1 locs1 (cells + (h1'.length - h.length)) (slots + (m_sz h1' - m_sz h)) Q (F0 m (pc + 3) lsA (rv1.toList.map (m_tv G) ++ r.map (m_tv G))) := by
          intro H1 locs1 hR1 hS1 hc1
          have := nx _ _ _ _ hst H1 locs1 lsA (cells + (h1'.length - h.length)) (slots + (m_sz h1' - m_sz h)) hR1 hS1 hc1 hL (by have h9a := hle1.1; have h9b := hle2.1; omega) (by have h9a := hle1.2.1; have h9b := hle2.2.1; omega)
          rw [hn, List.map_append] at this
          exact this
        have hpre : PreS s H (m_Pz G h as) (as.map (m_tv G)) := ⟨m_Pz_blind, fun U hU hW => ⟨rfl, by rw [hU]; exact hR, m_KS.warm hW hK, by rw [hU, hR.1]; omega⟩⟩
        have hnn : (as.map (m_tv G)).length = m_np z := by rw [List.length_map, hlen0]; exact m_beq h2
        have hrm : (m_rm z h h1').frames + 1 ≤ R.frames ∧ 8 + (m_maxL z + 11) + (m_rm z h h1').locals ≤ R.locals := ⟨Nat.le_trans (m_ble h6) hfr, by have := m_ble h7; show 8 + (m_maxL z + 11) + m_loc z ≤ R.locals; omega⟩
        have hroom : cells + (h1'.length - h.length) ≤ R.cells ∧ slots + (m_sz h1' - m_sz h) ≤ R.slots := ⟨by have := hle2.1; omega, by have h9a := hle1.2.1; have h9b := hle2.2.1; omega⟩
        rcases Bool.or_eq_true _ _ ▸ h5 with h5 | h5
        · refine m_Wback (z := z) hS hc hR hle1.1 (va_runS (As := as.map (m_tv G)) (own := m_own y) (n := m_np z) (index := idx) (bytes := m_bytes z) (maxL := m_maxL z) (ret := m_retT z) (Ts := m_tbl) ⟨hx, hb, hml, hown, hts⟩ hM
            (va_cwS (m_np z) hts ?_ rfl rfl rfl ⟨by rw [hcl1]; exact hmh, by rw [hcl1]; exact hvh, hnp⟩ hrm) hpre rfl hnn hL.1 rfl (lv_room (m_okr_le G hokc.1)) hd hroom) fin
          intro w hw
          unfold va_wsS at hw
          rcases List.mem_append.mp hw with hw | hw
          · simp only [List.mem_cons, List.not_mem_nil, or_false] at hw
            rcases hw with rfl | rfl | rfl
            · exact ⟨m_in (m_w_mem h5) rfl, Or.inl rfl⟩
            · exact ⟨hstat, Or.inl rfl⟩
            · rw [hcl1]; exact ⟨hini, Or.inl rfl⟩
          · exact m_good_wz hz w hw
        · simp only [Bool.and_eq_true] at h5
          obtain ⟨⟨g1, g2⟩, g3⟩ := h5
          have g3 := of_decide_eq_true g3
          obtain rfl := m_beq g1
          obtain rfl := m_beq g2
          refine m_Wback (z := 88) hS hc hR hle1.1 (va_runSN (As := as.map (m_tv G)) (own := m_own y) (host := RX7) (n := m_np 88) (index := 104) (bytes := m_bytes 88) (maxL := m_maxL 88) (ret := m_retT 88) (Ts := m_tbl) ⟨hx, hb, hml, hown, hts⟩ hM
            ⟨va_cnB (m_np 88) hts (m_good_wz hz) rfl rfl rfl (by rw [g3]; exact hK.2.2.2.2.2.1) (by rw [hcl1]; exact hts _ hini) ⟨by rw [hcl1]; exact hmh, by rw [hcl1]; exact hvh, hnp⟩ hrm, hts _ hstat, trivial⟩ hpre rfl hnn hL.1 rfl (lv_room (m_okr_le G hokc.1)) hd hroom) fin
      · cases hst
    · cases hst
  · -- invokespecial
    rename_i idx
    obtain rfl := hlen' rfl
    have hn := hnx' rfl
    split at hst
    · rename_i z0
      simp only [m_okI, Bool.and_eq_true] at hI
      obtain ⟨⟨h1, h2⟩, h3⟩ := hI
      split at hst
      · rename_i o r
        cases hokr : m_okr r with
        | false => rw [hokr] at hst; cases hst
        | true =>
        rw [hokr] at hst
        simp only [cond_true] at hst
        have hsum := m_okr_le G hokr
        have := nx _ _ _ _ hst H locs lsA cells slots hR hS hc hL hcl hsl
        rw [hn] at this
        have h2' := m_ble h2
        have h3' := m_ble h3
        exact W.objInit hx hb hown (hts _ (m_in (m_w_mem h1) rfl)) (hts _ (m_in m_mem_oi rfl)) (hts _ (m_in m_mem_oc rfl)) (g := F0 m pc lsA (.ref (G.1 + o) :: r.map (m_tv G))) rfl (by show lsA.size = c.maxLocals; rw [hml]; exact hL.1) rfl hd (by omega) (by show 2 * 0 + _ + 12 ≤ _; omega) this
      · cases hst
    · rename_i z na
      simp only [m_okI] at hI
      split at hst
      · rename_i o as r harg
        cases hokc : m_okc as r with
        | false => rw [hokc] at hst; cases hst
        | true =>
        rw [hokc] at hst
        simp only [cond_true] at hst
        simp only [Bool.and_eq_true, Bool.not_eq_true'] at hI
        obtain ⟨⟨⟨⟨⟨⟨⟨⟨h1, h2⟩, h3⟩, h4⟩, h5⟩, h6⟩, h7⟩, h8⟩, h9⟩ := hI
        have hz := m_blt h1
        have h6 := of_decide_eq_true h6
        have h7 := of_decide_eq_true h7
        obtain ⟨⟨hw1, hw2⟩, hcl1, hcl2, hnp, hmh, hvh⟩ := m_okM_d hz
        rw [h4] at hw1
        simp only [m_okc, Bool.and_eq_true] at hokc
        obtain ⟨hlen0, hst0⟩ := m_args_st harg
        obtain ⟨rv1, h1', hq, hst, hle1, hle2⟩ := m_callgo ih hst
        have hcats : m_cats (.ref o :: as) = true := by simp [m_cats, m_cat, hokc.2]
        have hM := m_met ih hz hq hcats (by rw [hlen0]; exact m_ble h3)
        rw [hst0]
        have hstk : ((Value.ref o :: as).reverse ++ r).map (m_tv G) = (as.map (m_tv G)).reverse ++ Value.ref (G.1 + o) :: r.map (m_tv G) := by
          simp [List.map_reverse, m_tv]
        rw [hstk]
        have hpre : PreS s H (m_Pz G h (.ref o :: as)) (.ref (G.1 + o) :: as.map (m_tv G)) := ⟨m_Pz_blind, fun U hU hW => ⟨rfl, by rw [hU]; exact hR, m_KS.warm hW hK, by rw [hU, hR.1]; omega⟩⟩
        have hrm : (m_rm z h h1').frames + 1 ≤ R.frames ∧ 8 + (m_maxL z + 11) + (m_rm z h h1').locals ≤ R.locals := ⟨Nat.le_trans (m_ble h8) hfr, by have := m_ble h9; show 8 + (m_maxL z + 11) + m_loc z ≤ R.locals; omega⟩
        refine m_Wback (z := z) hS hc hR hle1.1 (va_runI (As := as.map (m_tv G)) (b := G.1 + o) (own := m_own y) (n := m_np z) (index := idx) (bytes := m_bytes z) (maxL := m_maxL z) (Ts := m_tbl) ⟨hx, hb, hml, hown, hts⟩ hM
          (cwI (m_np z) hts (m_good_wz hz) (by rw [m_wz, h7]) rfl rfl (by rw [hcl1]; exact hts _ (m_in (m_w_mem hw2) rfl)) (hts _ (m_in (m_w_mem h5) rfl)) (hts _ (m_in (m_w_mem hw1) rfl)) h6 ⟨by rw [hcl1]; exact hmh, by rw [hcl1]; exact hvh, hnp⟩ hrm) hpre rfl (by have := m_beq h2; rw [List.length_cons, this] at hlen0; simpa using hlen0) hL.1 rfl (lv_room (m_okr_le G hokc.1)) hd ⟨by have := hle2.1; omega, by have h9a := hle1.2.1; have h9b := hle2.2.1; omega⟩) ?_
        intro H1 locs1 hR1 hS1 hc1
        have := nx _ _ _ _ hst H1 locs1 lsA (cells + (h1'.length - h.length)) (slots + (m_sz h1' - m_sz h)) hR1 hS1 hc1 hL (by have h9a := hle1.1; have h9b := hle2.1; omega) (by have h9a := hle1.2.1; have h9b := hle2.2.1; omega)
        rw [hn, List.map_append] at this
        exact this
      · cases hst
    · cases hst
  · -- return_
    obtain rfl := hlen' rfl
    split at hst
    · cases hst
      exact ret H locs lsA cells slots pc hR hS hc (by omega) (by omega) ⟨hd, of_decide_eq_true hI⟩
    · cases hst
  · -- ireturn
    obtain rfl := hlen' rfl
    split at hst
    · rename_i x
      have hI : m_retT y = some (bif Nat.beq (m_rt y) 0 then .int else bif Nat.beq (m_rt y) 1 then .boolean else .char) := of_decide_eq_true hI
      cases h0 : Nat.beq (m_rt y) 0 with
      | true =>
        rw [h0] at hst hI
        cases hst
        exact ret H locs lsA cells slots pc hR hS hc (by omega) (by omega) ⟨hd, .int, hI, rfl⟩
      | false =>
        rw [h0] at hst hI
        simp only [cond_false] at hst hI
        cases h1 : Nat.beq (m_rt y) 1 with
        | true =>
          rw [h1] at hst hI
          simp only [cond_true] at hst hI
          split at hst
          · rename_i hx01
            cases hst
            exact ret H locs lsA cells slots pc hR hS hc (by omega) (by omega) ⟨hd, .boolean, hI, by rcases hx01 with rfl | rfl <;> rfl⟩
          · cases hst
        | false =>
          rw [h1] at hst hI
          simp only [cond_false] at hst hI
          split at hst
          · rename_i hx01
            cases hst
            refine ret H locs lsA cells slots pc hR hS hc (by omega) (by omega) ⟨hd, .char, hI, ?_⟩
            rw [show narrow .char (.int x) = .int (vp_nar .char x) from rfl, hx01]
          · cases hst
    · cases hst
  · -- areturn
    obtain rfl := hlen' rfl
    split at hst
    · cases hst
      exact ret H locs lsA cells slots pc hR hS hc (by omega) (by omega) ⟨hd, of_decide_eq_true hI⟩
    · cases hst
  · -- new
    rename_i idx
    obtain rfl := hlen' rfl
    have hn := hnx' rfl
    have hIn := m_one (P := fun a => m_okI y pc (.new idx) a c0) (Q := fun t => t < 9 ∧ m_w (m_pLn (m_rc y) idx) (.classLink (m_own y) idx (m_C t).1) = true) hI rfl (fun _ _ _ => rfl) (fun v hv => by
      have hv : (Nat.blt v 9 && m_w (m_pLn (m_rc y) idx) (.classLink (m_own y) idx (m_C v).1)) = true := hv
      simp only [Bool.and_eq_true] at hv
      exact ⟨m_blt hv.1, hv.2⟩)
    have hle := gr _ _ _ _ hst
    have hl1 : (h ++ [Sum.inr (m_a0 a, m_def (m_a0 a))] : MH).length = h.length + 1 := by simp
    have hz1 : m_sz (h ++ [.inr (m_a0 a, m_def (m_a0 a))]) = m_sz h + (m_C (m_a0 a)).2.2 := by rw [m_sz_push, ← m_def_len _ hIn.1]; rfl
    have hle1 := hle.1
    have hle2 := hle.2.1
    rw [hl1] at hle1
    rw [hz1] at hle2
    refine m_Wnew hx hb hts hown hK hR hS hbase hc hIn.1 (m_in (m_w_mem hIn.2) rfl) (by omega) (by omega) hd fun H1 locs1 hR1 hS1 hc1 => ?_
    have := nx _ _ _ _ hst H1 locs1 lsA (cells + 1) (slots + (m_C (m_a0 a)).2.2) hR1 hS1 hc1 hL (by rw [hl1]; omega) (by rw [hz1]; omega)
    rw [hn] at this
    exact this
  · -- newarray
    rename_i at0
    obtain rfl := hlen' rfl
    have hn := hnx' rfl
    split at hst
    · rename_i z r
      split at hst
      · cases hst
      · rename_i hzn
        have hle := gr _ _ _ _ hst
        have hl1 : (h ++ [Sum.inl (m_a0 a, z.toNatClampNeg, Sum.inl fun _ => 0)] : MH).length = h.length + 1 := by simp
        have hz1 : m_sz (h ++ [.inl (m_a0 a, z.toNatClampNeg, .inl fun _ => 0)]) = m_sz h + z.toNatClampNeg := by rw [m_sz_push]; rfl
        have hle1 := hle.1
        have hle2 := hle.2.1
        rw [hl1] at hle1
        rw [hz1] at hle2
        have fin : ∀ (H1 : Heap) (locs1 : List Loc), m_Rel G (h ++ [.inl (m_a0 a, z.toNatClampNeg, .inl fun _ => 0)]) H1 → va_S (m_A G) s.heap H1 locs1 → s.heap.size + (cells + 1) = H1.size → W p l e R s m args below meth c H1 locs1 (cells + 1) (slots + z.toNatClampNeg) Q (F0 m (pc + 2) lsA (.ref (G.1 + h.length) :: r.map (m_tv G))) := by
          intro H1 locs1 hR1 hS1 hc1
          have := nx _ _ _ _ hst H1 locs1 lsA (cells + 1) (slots + z.toNatClampNeg) hR1 hS1 hc1 hL (by rw [hl1]; omega) (by rw [hz1]; omega)
          rw [hn] at this
          exact this
        cases at0 with
        | int =>
          have h0 := m_one (P := fun a => m_okI y pc (.newarray .int) a c0) (Q := fun t => t = 0) hI rfl (fun _ _ _ => rfl) (fun v hv => m_beq hv)
          rw [h0] at fin
          exact m_Wnewi hx hb hts hK hR hS hbase hc hzn (by omega) (by omega) hd fin
        | char =>
          have h0 := m_one (P := fun a => m_okI y pc (.newarray .char) a c0) (Q := fun t => t = 1) hI rfl (fun _ _ _ => rfl) (fun v hv => m_beq hv)
          rw [h0] at fin
          exact m_Wnewc hx hb hts hK hR hS hbase hc hzn (by omega) (by omega) hd fin
        | _ => cases hI
    · cases hst
  · -- anewarray
    rename_i idx
    obtain rfl := hlen' rfl
    have hn := hnx' rfl
    split at hst
    · rename_i z r
      split at hst
      · cases hst
      · rename_i hzn
        have hle := gr _ _ _ _ hst
        have hl1 : (h ++ [Sum.inl (2, z.toNatClampNeg, Sum.inr (Sum.inr (Sum.inr (Sum.inr fun _ => none))))] : MH).length = h.length + 1 := by simp
        have hz1 : m_sz (h ++ [.inl (2, z.toNatClampNeg, .inr (.inr (.inr (.inr fun _ => none))))]) = m_sz h + z.toNatClampNeg := by rw [m_sz_push]; rfl
        have hle1 := hle.1
        have hle2 := hle.2.1
        rw [hl1] at hle1
        rw [hz1] at hle2
        have hI2 : m_w (m_pLn (m_rc y) idx) (.classLink (m_own y) idx RX1) = true := hI
        refine m_Wnewq hx hb hts hown hK hR hS hbase hc (m_in (m_w_mem hI2) rfl) hzn (by omega) (by omega) hd fun H1 locs1 hR1 hS1 hc1 => ?_
        have := nx _ _ _ _ hst H1 locs1 lsA (cells + 1) (slots + z.toNatClampNeg) hR1 hS1 hc1 hL (by rw [hl1]; omega) (by rw [hz1]; omega)
        rw [hn] at this
        exact this
    · cases hst
  · -- the pure ones
    split at hst
    · rename_i l' s' hp
      have hne : m_sws i = false ∧ m_on i = true := by
        unfold m_pure at hp
        split at hp <;> first | exact ⟨rfl, rfl⟩ | cases hp
      obtain rfl := hlen' hne.1
      have hn := hnx' hne.2
      refine m_snd_pure F hp hd rfl hI hL fun lsA' hL' => ?_
      have := nx _ _ _ _ hst H locs lsA' cells slots hR hS hc hL' hcl hsl
      rw [hn] at this
      exact this
    · cases hst
theorem m_snd (G : m_GT) (l : Launch) : ∀ n, m_Snd n G l := by
  intro n
  induction n with
  | zero => intro y k ls st h rv hF hr; cases hr
  | succ n ih => exact m_snd_step ih
end MSTEP
