/-! the law's walk -/
def lwX (xs : Nat → Int32) (i : Nat) : Nat → List Value
  | 0 => []
  | n + 1 => lwX xs i n ++ [.int (xs (i + n + 1))]
theorem lwX_len (xs : Nat → Int32) (i : Nat) : ∀ n, (lwX xs i n).length = n := by
  intro n
  induction n with
  | zero => rfl
  | succ n ih => rw [lwX, List.length_append, ih]; rfl
theorem lwX_tv (G : m_GT) (xs : Nat → Int32) (i : Nat) : ∀ n, (lwX xs i n).map (m_tv G) = lwX xs i n := by
  intro n
  induction n with
  | zero => rfl
  | succ n ih => rw [lwX, List.map_append, ih]; rfl
theorem lwX_mv (xs : Nat → Int32) (i : Nat) : ∀ n, (lwX xs i n).map mvV = lwX xs i n := by
  intro n
  induction n with
  | zero => rfl
  | succ n ih => rw [lwX, List.map_append, ih]; rfl
theorem m_cats_app : ∀ (a b : List Value), m_cats a = true → m_cats b = true → m_cats (a ++ b) = true := by
  intro a
  induction a with
  | nil => intro b _ h; exact h
  | cons v a ih =>
    intro b h1 h2
    simp only [m_cats, Bool.and_eq_true, List.cons_append] at h1 ⊢
    exact ⟨h1.1, ih b h1.2 h2⟩
theorem lwX_cat (xs : Nat → Int32) (i : Nat) : ∀ n, m_cats (lwX xs i n) = true := by
  intro n
  induction n with
  | zero => rfl
  | succ n ih => exact m_cats_app _ _ ih rfl
section LAWW
variable {p : Program} {l : Launch} {e : Env} {s : State} {m : MethodId} {below : List Frame} {meth : Method} {c : Code} {b L : Nat} {xs : Nat → Int32} {G : m_GT} {Q : State → Prop} {H : Heap} {locs : List Loc} {cells slots pc : Nat} {ls : Array Slot} {rest : List Value}
/-- a call of a method of either object, out of its run -/
theorem law_call (C0 : lw_At p s m meth c b L xs) (hG : G.1 = s.heap.size) (hK : m_KS G s) {z i n pos : Nat} (hI : lwCall z i n pos = true) {as : List Value} {o : Nat} {h h1 : MH} {v : Int32} (hof : m_cls h o = some (m_rc z)) (hq : m_ev z 0 (m_ent (m_maxL z) (.ref o :: as)) [] h = some (some (.int v), h1)) (has : as.length = n) (hcat : m_cats as = true) (hsz : ls.size = 4) (hrest : (rest.map fun v => v.category).sum ≤ 8) (hd : decode code pc = .ok (.invokevirtual i, 3))
    (hR : m_Rel G h H) (hS : va_S (m_A G) s.heap H locs) (hc : s.heap.size + cells = H.size) (hcl : cells + (h1.length - h.length) ≤ 600000) (hsl : slots + (m_sz h1 - m_sz h) ≤ 7302250)
    (kk : ∀ (H1 : Heap) (locs1 : List Loc), m_Rel G h1 H1 → va_S (m_A G) s.heap H1 locs1 → s.heap.size + (cells + (h1.length - h.length)) = H1.size → W p l e room_1 s m #[Value.ref b] below meth c H1 locs1 (cells + (h1.length - h.length)) (slots + (m_sz h1 - m_sz h)) Q (F0 m (pc + 3) ls (.int v :: rest))) :
    W p l e room_1 s m #[Value.ref b] below meth c H locs cells slots Q (F0 m pc ls ((as.map (m_tv G)).reverse ++ .ref (G.1 + o) :: rest)) := by
  obtain ⟨hx, hb, hr, hml, hown, hts0, hX, hbl, hlocks, hgv⟩ := C0
  have hts : ∀ w ∈ m_tbl, w.before #[Value.ref b] s = true := fun w hw => hts0 w (m_tbl_lw hw)
  simp only [lwCall, Bool.and_eq_true, Bool.not_eq_true'] at hI
  obtain ⟨⟨⟨⟨⟨⟨⟨⟨h1', h2⟩, h3⟩, h4⟩, h5⟩, h6⟩, h7⟩, h8⟩, h9⟩ := hI
  have hz := m_blt h1'
  obtain ⟨⟨hw1, hw2⟩, hcl1, hcl2, hnp, hmh, hvh⟩ := m_okM_d hz
  rw [h4] at hw1
  have h2' := m_beq h2
  have h3' := m_ble h3
  obtain ⟨nn, hrun⟩ := m_ev_run hq
  have hcats : m_cats (.ref o :: as) = true := by simp [m_cats, m_cat, hcat]
  have hM := m_met (m_snd G l nn) hz hrun hcats (by rw [List.length_cons, has]; exact h3')
  obtain ⟨fs, hof'⟩ := m_cls_inv hof
  have hrc := m_blt h7
  have hnamec : m_own z = (m_C (m_rc z)).1 := by
    rcases hcl2 with q | q
    · omega
    · exact q
  have hle := m_grow _ _ _ _ _ _ _ _ hrun
  have h8' := m_ble h8
  have h9' := m_ble h9
  refine m_Wback (z := z) hS hc hR hle.1 (va_runV (As := as.map (m_tv G)) (b := G.1 + o) (C := m_own z) (own := R_law) (n := m_np z) (index := i) (bytes := m_bytes z) (maxL := m_maxL z) (ret := m_retT z) (Ts := m_tbl) ⟨hx, hb, hml, hown, hts⟩ hM
    (cwV (m_np z) hts ?_ rfl rfl rfl ⟨hcl1, by rw [hcl1]; exact hmh, by rw [hcl1]; exact hvh, hnp⟩ ⟨h8', by show 8 + (m_maxL z + 11) + m_loc z ≤ 504; omega⟩)
    ⟨m_Pz_blind, ?_, fun U hU hW => ⟨by simp [m_tv], by rw [hU]; exact hR, m_KS.warm hW hK, by rw [hU, hR.1]; omega⟩⟩ rfl (by rw [List.length_map, has]; exact h2') hsz rfl (lv_room hrest) hd ⟨hcl, hsl⟩) ?_
  · intro w hw
    unfold wsV at hw
    rcases List.mem_append.mp hw with hw | hw
    · simp only [List.mem_cons, List.not_mem_nil, or_false] at hw
      rcases hw with rfl | rfl | rfl | rfl
      · exact ⟨m_in (m_w_mem h5) rfl, Or.inl rfl⟩
      · exact ⟨m_in (m_w_mem hw1) rfl, Or.inl rfl⟩
      · exact ⟨m_in (m_w_mem h6) rfl, Or.inl rfl⟩
      · exact ⟨m_in (m_w_mem hw2) rfl, Or.inl rfl⟩
    · exact m_good_wz hz w hw
  · have hrecv := va_recv hK.1 hR.2.1 (m_clAt _ hrc) (m_ws_at hof')
    rw [hnamec]
    exact hrecv
  · exact kk
/-- a constructor without numbers, out of its run -/
theorem law_new (C0 : lw_At p s m meth c b L xs) (hG : G.1 = s.heap.size) (hK : m_KS G s) {z i pos : Nat} (hI : lwNew z i pos = true) {o : Nat} {h h1 : MH} (hq : m_ev z 0 (m_ent (m_maxL z) [.ref o]) [] h = some (none, h1)) (hsz : ls.size = 4) (hrest : (rest.map fun v => v.category).sum ≤ 8) (hd : decode code pc = .ok (.invokespecial i, 3))
    (hR : m_Rel G h H) (hS : va_S (m_A G) s.heap H locs) (hc : s.heap.size + cells = H.size) (hcl : cells + (h1.length - h.length) ≤ 600000) (hsl : slots + (m_sz h1 - m_sz h) ≤ 7302250)
    (kk : ∀ (H1 : Heap) (locs1 : List Loc), m_Rel G h1 H1 → va_S (m_A G) s.heap H1 locs1 → s.heap.size + (cells + (h1.length - h.length)) = H1.size → W p l e room_1 s m #[Value.ref b] below meth c H1 locs1 (cells + (h1.length - h.length)) (slots + (m_sz h1 - m_sz h)) Q (F0 m (pc + 3) ls rest)) :
    W p l e room_1 s m #[Value.ref b] below meth c H locs cells slots Q (F0 m pc ls (.ref (G.1 + o) :: rest)) := by
  obtain ⟨hx, hb, hr, hml, hown, hts0, hX, hbl, hlocks, hgv⟩ := C0
  have hts : ∀ w ∈ m_tbl, w.before #[Value.ref b] s = true := fun w hw => hts0 w (m_tbl_lw hw)
  simp only [lwNew, Bool.and_eq_true, Bool.not_eq_true'] at hI
  obtain ⟨⟨⟨⟨⟨⟨⟨⟨h1', h2⟩, h3⟩, h4⟩, h5⟩, h6⟩, h7⟩, h8⟩, h9⟩ := hI
  have hz := m_blt h1'
  have h6 := of_decide_eq_true h6
  have h7 := of_decide_eq_true h7
  obtain ⟨⟨hw1, hw2⟩, hcl1, hcl2, hnp, hmh, hvh⟩ := m_okM_d hz
  rw [h4] at hw1
  have h2' := m_beq h2
  have h3' := m_ble h3
  obtain ⟨nn, hrun⟩ := m_ev_run hq
  have hM := m_met (m_snd G l nn) hz hrun rfl h3'
  have hle := m_grow _ _ _ _ _ _ _ _ hrun
  have h8' := m_ble h8
  have h9' := m_ble h9
  have hpre : PreS s H (m_Pz G h [.ref o]) (.ref (G.1 + o) :: []) := ⟨m_Pz_blind, fun U hU hW => ⟨rfl, by rw [hU]; exact hR, m_KS.warm hW hK, by rw [hU, hR.1]; omega⟩⟩
  refine m_Wback (z := z) hS hc hR hle.1 (va_runI (As := []) (b := G.1 + o) (own := R_law) (n := m_np z) (index := i) (bytes := m_bytes z) (maxL := m_maxL z) (Ts := m_tbl) ⟨hx, hb, hml, hown, hts⟩ hM
    (cwI (m_np z) hts (m_good_wz hz) (by rw [m_wz, h7]) rfl rfl (by rw [hcl1]; exact hts _ (m_in (m_w_mem hw2) rfl)) (hts _ (m_in (m_w_mem h5) rfl)) (hts _ (m_in (m_w_mem hw1) rfl)) h6 ⟨by rw [hcl1]; exact hmh, by rw [hcl1]; exact hvh, hnp⟩ ⟨h8', by show 8 + (m_maxL z + 11) + m_loc z ≤ 504; omega⟩) hpre rfl h2' hsz rfl (lv_room hrest) hd ⟨hcl, hsl⟩) ?_
  exact kk
/-- one number of the script onto the stack -/
theorem law_arg (C0 : lw_At p s m meth c b L xs) (hG : G.1 = s.heap.size) {i j a1 a2 : Nat} (hi : i + j + 1 < L) (hL : L ≤ 2560) (hS : va_S (m_A G) s.heap H locs) (hl : lv_has ls 4 [(0, .ref b), (1, .ref a1), (2, .ref a2), (3, .int (nI i))]) (hA : lwArg pc j = true)
    (kk : W p l e room_1 s m #[Value.ref b] below meth c H locs cells slots Q (F0 m (pc + 5) ls (.int (xs (i + j + 1)) :: rest))) : W p l e room_1 s m #[Value.ref b] below meth c H locs cells slots Q (F0 m pc ls rest) := by
  obtain ⟨hx, hb, hr, hml, hown, hts0, hX, hbl, hlocks, hgv⟩ := C0
  simp only [lwArg, Bool.and_eq_true] at hA
  obtain ⟨⟨⟨⟨d0, d1⟩, d2⟩, d3⟩, d4⟩ := hA
  have d0 := of_decide_eq_true d0
  have d1 := of_decide_eq_true d1
  have d2 := of_decide_eq_true d2
  have d3 := of_decide_eq_true d3
  have d4 := of_decide_eq_true d4
  refine lv_aload_n hx hb d0 rfl (lv_at hl 0 rfl) ?_
  refine lv_iload_n hx hb d1 rfl (lv_at hl 3 rfl) ?_
  refine lv_iconst (v := nI (j + 1)) hx hb d2 rfl ?_
  refine lv_iadd hx hb d3 ?_
  rw [nI_add, show i + (j + 1) = i + j + 1 by omega]
  have hbA : ¬ m_A G b := by unfold m_A; omega
  refine va_sld hx hb hX hbl hbA hS (vp_in_nI hi (by omega)) d4 ?_
  rw [nI_clamp (by omega)]
  exact kk
theorem law_args (C0 : lw_At p s m meth c b L xs) (hG : G.1 = s.heap.size) {i a1 a2 : Nat} (hi : i + 5 ≤ L) (hL : L ≤ 2560) (hS : va_S (m_A G) s.heap H locs) (hl : lv_has ls 4 [(0, .ref b), (1, .ref a1), (2, .ref a2), (3, .int (nI i))]) : ∀ n, n ≤ 4 → lwArgs pc n = true → W p l e room_1 s m #[Value.ref b] below meth c H locs cells slots Q (F0 m (pc + 5 * n) ls ((lwX xs i n).reverse ++ rest)) → W p l e room_1 s m #[Value.ref b] below meth c H locs cells slots Q (F0 m pc ls rest) := by
  intro n
  induction n with
  | zero => intro _ _ kk; exact kk
  | succ n ih =>
    intro hn hA kk
    rw [lwArgs, Bool.and_eq_true] at hA
    refine ih (by omega) hA.1 ?_
    refine law_arg C0 hG (i := i) (j := n) (by omega) hL hS hl hA.2 ?_
    rw [show pc + 5 * (n + 1) = pc + 5 * n + 5 by omega, lwX, List.reverse_append] at kk
    exact kk
/-- both called, the answers the same: behind the case -/
theorem law_case (C0 : lw_At p s m meth c b L xs) (hG : G.1 = s.heap.size) (hK : m_KS G s) {i k B : Nat} {h : MH} (hi : i + 5 ≤ L) (hL : L ≤ 2560) (hk : k < 28) (hn4 : lwN k ≤ 4) (one : OneT (lwZ k) (lwY k) (lwX xs i (lwN k)) h B) (h85 : h.length = 85) (hl : lv_has ls 4 [(0, .ref b), (1, .ref (G.1 + 0)), (2, .ref (G.1 + 68)), (3, .int (nI i))]) (hR : m_Rel G h H) (hS : va_S (m_A G) s.heap H locs) (hc : s.heap.size + cells = H.size) (hcl : cells ≤ 600000) (hsl : slots ≤ 7302250)
    (kk : ∀ (h2 : MH) (H1 : Heap) (locs1 : List Loc), CT h2 (B + 48) → m_Rel G h2 H1 → va_S (m_A G) s.heap H1 locs1 → s.heap.size + cells = H1.size → W p l e room_1 s m #[Value.ref b] below meth c H1 locs1 cells slots Q (F0 m 844 ls [])) :
    W p l e room_1 s m #[Value.ref b] below meth c H locs cells slots Q (F0 m (lwP k) ls []) := by
  have hB := lwBlk_all k hk
  simp only [lwBlk, Bool.and_eq_true] at hB
  obtain ⟨⟨⟨⟨⟨⟨b0, b1⟩, b2⟩, b3⟩, b4⟩, b5⟩, b6⟩ := hB
  have b0 := of_decide_eq_true b0
  have b2 := of_decide_eq_true b2
  have b3 := of_decide_eq_true b3
  have b5 := of_decide_eq_true b5
  have b6 := of_decide_eq_true b6
  have c1 := lwCall_1 k hk
  have c2 := lwCall_2 k hk
  rw [Bool.and_eq_true] at c1 c2
  have r1 : m_rc (lwZ k) = 7 := m_beq c1.2
  have r2 : m_rc (lwY k) = 8 := m_beq c2.2
  obtain ⟨v, h1, h2, k0, q1, k1, q2, cs2⟩ := one
  have g1 := m_ev_le q1
  have g2 := m_ev_le q2
  have l2 : h2.length = 85 := cs2.len
  have l1 : h1.length = h.length := by have := g1.1; have := g2.1; omega
  have z1 := m_le_same g1 l1
  have z2 := m_le_same g2 (by omega)
  have x1 : h1.length - h.length = 0 := by omega
  have x2 : h2.length - h1.length = 0 := by omega
  have y1 : m_sz h1 - m_sz h = 0 := by omega
  have y2 : m_sz h2 - m_sz h1 = 0 := by omega
  rw [← r1] at k0
  rw [← r2] at k1
  have hx := C0.1
  have hb := C0.2.1
  refine lv_aload_n hx hb b0 rfl (lv_at hl 1 rfl) ?_
  refine law_args C0 hG hi hL hS hl (lwN k) hn4 b1 ?_
  have e1 := law_call (rest := []) (Q := Q) (l := l) (e := e) (below := below) (locs := locs) (cells := cells) (slots := slots) C0 hG hK c1.1 k0 q1 (lwX_len xs i _) (lwX_cat xs i _) hl.1 (Nat.zero_le _) b2 hR hS hc (by omega) (by omega)
  rw [lwX_tv] at e1
  refine e1 ?_
  intro H1 locs1 hR1 hS1 hc1
  rw [x1, Nat.add_zero] at hc1 ⊢
  rw [y1, Nat.add_zero]
  rw [show lwP k + 1 + 5 * lwN k + 3 = lwP k + 4 + 5 * lwN k by omega]
  refine lv_aload_n hx hb b3 rfl (lv_at hl 2 rfl) ?_
  rw [show lwP k + 4 + 5 * lwN k + 1 = lwP k + 5 + 5 * lwN k by omega]
  refine law_args C0 hG hi hL hS1 hl (lwN k) hn4 b4 ?_
  rw [show lwP k + 5 + 5 * lwN k + 5 * lwN k = lwP k + 5 + 10 * lwN k by omega]
  have e2 := law_call (rest := [.int v]) (Q := Q) (l := l) (e := e) (below := below) (locs := locs1) (cells := cells) (slots := slots) C0 hG hK c2.1 k1 q2 (lwX_len xs i _) (lwX_cat xs i _) hl.1 (Nat.le_of_ble_eq_true rfl) b5 hR1 hS1 hc1 (by omega) (by omega)
  rw [lwX_tv] at e2
  refine e2 ?_
  intro H2 locs2 hR2 hS2 hc2
  rw [x2, Nat.add_zero] at hc2 ⊢
  rw [y2, Nat.add_zero]
  rw [show lwP k + 5 + 10 * lwN k + 3 = lwP k + 8 + 10 * lwN k by omega]
  refine lv_icmp_eq (tgt := 844) hx hb b6 (by omega) (fun _ => ?_) (fun hne => absurd rfl hne)
  exact kk h2 H2 locs2 cs2 hR2 hS2 hc2
theorem lw_oneC (xs : Nat → Int32) (i : Nat) {h : MH} {B : Nat} (cs : CS h B) (hB : B ≤ 29000) : ∀ k, k < 28 → OneC (lwZ k) (lwY k) (lwX xs i (lwN k)) h B := fun k hk => match k, hk with
  | 0, _ => s_write cs _
  | 1, _ => s_wipe cs
  | 2, _ => s_fault cs
  | 3, _ => s_lay cs
  | 4, _ => s_word cs _
  | 5, _ => s_way cs hB _ _
  | 6, _ => s_asker cs hB _ _
  | 7, _ => s_pass cs hB _
  | 8, _ => s_setOut cs hB _ _
  | 9, _ => s_foot cs hB _
  | 10, _ => s_graze cs hB
  | 11, _ => s_undo cs
  | 12, _ => s_upper cs hB _
  | 13, _ => s_round cs hB
  | 14, _ => s_top cs hB _
  | 15, _ => s_read cs hB _ _
  | 16, _ => s_both cs hB _ _ _
  | 17, _ => s_hold cs hB _
  | 18, _ => s_first cs hB _
  | 19, _ => s_see cs _ _
  | 20, _ => s_forget cs
  | 21, _ => s_laws cs hB _
  | 22, _ => s_from cs hB _ _
  | 23, _ => s_grazing cs hB _ _ _ _
  | 24, _ => s_year cs hB _ _ _
  | 25, _ => s_keep cs
  | 26, _ => s_back cs
  | 27, _ => s_count cs hB _
  | k + 28, h => absurd h (by omega)
theorem lw_one (xs : Nat → Int32) (i : Nat) {h : MH} {B : Nat} (ct : CT h B) (hB : B ≤ 29000) (k : Nat) (hk : k < 28) : OneT (lwZ k) (lwY k) (lwX xs i (lwN k)) h B := by
  obtain ⟨h0, cs, R⟩ := ct
  exact (lw_oneC xs i cs hB k hk).mv (lwX_mv xs i _) cs R
theorem lwN_le : ∀ k, k < 28 → lwN k ≤ 4 := by decide
theorem lwP_sw : ∀ k, k < 28 → (#[128, 151, 164, 177, 190, 213, 246, 279, 302, 335, 358, 371, 384, 407, 420, 443, 476, 519, 542, 565, 598, 611, 634, 667, 720, 763, 776, 789] : Array Int)[k]? = some (((lwP k : Nat) : Int) - 32) := by decide +kernel
theorem lw_len {L : Nat} (hL : L ≤ 2560) : (Int32.ofNat L - nI 5).toInt = (L : Int) - 5 := by
  have h1 : (Int32.ofNat L).toInt = (L : Int) := nI_toInt (n := L) (by omega)
  have h2 : (nI 5).toInt = 5 := by decide
  rw [Int32.toInt_sub, h1, h2]
  unfold Int.bmod
  simp only [show ((2 ^ 32 : Nat) : Int) = 4294967296 from rfl]
  omega
/-- THE LAW'S LOOP: at its head, with t calls done, one state of both -/
theorem law_loop (C0 : lw_At p s m meth c b L xs) (hG : G.1 = s.heap.size) (hK : m_KS G s) (hL : L ≤ 2560) (hcl : cells ≤ 600000) (hsl : slots ≤ 7302250) : ∀ (n t : Nat), L + 5 ≤ 5 * t + 5 * n → 5 * t ≤ L → ∀ (h : MH) (H : Heap) (locs : List Loc) (ls : Array Slot), CT h (48 * t) → m_Rel G h H → va_S (m_A G) s.heap H locs → s.heap.size + cells = H.size → lv_has ls 4 [(0, .ref b), (1, .ref (G.1 + 0)), (2, .ref (G.1 + 68)), (3, .int (nI (5 * t)))] → W p l e room_1 s m #[Value.ref b] below meth c H locs cells slots (lw_Z below #[Value.ref b] s) (F0 m 18 ls []) := by
  obtain ⟨hx, hb, hr, hml, hown, hts0, hX, hbl, hlocks, hgv⟩ := id C0
  intro n
  induction n with
  | zero => intro t h1 h2; omega
  | succ n ih =>
    intro t h1 h2 h H locs ls cs hR hS hc hl
    have hbA : ¬ m_A G b := by unfold m_A; omega
    refine lv_iload_n hx hb dL_law_18 rfl (lv_at hl 3 rfl) ?_
    refine lv_aload_n hx hb dL_law_19 rfl (lv_at hl 0 rfl) ?_
    refine va_slen hx hb hX hbl hbA hS dL_law_20 ?_
    refine lv_iconst (v := nI 5) hx hb dL_law_21 rfl ?_
    refine lv_isub hx hb dL_law_22 ?_
    refine lv_icmp_gt (tgt := 850) hx hb dL_law_23 (by decide) (fun _ => ?_) (fun hn => ?_)
    · refine lv_iconst (v := 1) hx hb dL_law_850 (by decide) ?_
      refine va_forget (fun q hq => by have := hS.2.2 q hq; unfold m_A at this; omega) ?_
      refine W.widen (k := 600000) (n := 7302250) hcl hsl ?_
      exact lw_ret hx hb hr hlocks dL_law_851
    · have hi : 5 * t + 5 ≤ L := by
        rw [Int32.lt_iff_toInt_lt, lw_len hL, nI_toInt (by omega)] at hn
        omega
      have next : ∀ (h2 : MH) (H1 : Heap) (locs1 : List Loc), CT h2 (48 * t + 48) → m_Rel G h2 H1 → va_S (m_A G) s.heap H1 locs1 → s.heap.size + cells = H1.size → W p l e room_1 s m #[Value.ref b] below meth c H1 locs1 cells slots (lw_Z below #[Value.ref b] s) (F0 m 844 ls []) := by
        intro h2 H1 locs1 cs2 hR1 hS1 hc1
        refine lv_iinc (v := nI (5 * (t + 1))) (lv' := [(3, .int (nI (5 * (t + 1)))), (0, .ref b), (1, .ref (G.1 + 0)), (2, .ref (G.1 + 68))]) hx hb dL_law_844 hl (k := 3) rfl (by show nI (5 * t) + nI 5 = _; rw [nI_add, show 5 * t + 5 = 5 * (t + 1) by omega]) (by decide) rfl (fun ls hl => ?_)
        refine lv_goto (tgt := 18) hx hb dL_law_847 (by decide) ?_
        refine ih (t + 1) (by omega) (by omega) h2 H1 locs1 ls ?_ hR1 hS1 hc1 (lv_sub hl [1, 2, 3, 0] rfl)
        rw [show 48 * (t + 1) = 48 * t + 48 by omega]
        exact cs2
      refine lv_aload_n hx hb dL_law_26 rfl (lv_at hl 0 rfl) ?_
      refine lv_iload_n hx hb dL_law_27 rfl (lv_at hl 3 rfl) ?_
      refine va_sld hx hb hX hbl hbA hS (vp_in_nI (show 5 * t < L by omega) (by omega)) dL_law_28 ?_
      refine lv_bipush (v := nI 31) hx hb dL_law_29 (by decide) ?_
      refine lv_iand hx hb dL_law_31 ?_
      obtain ⟨j, hj, ej⟩ := pk_andE (xs (nI (5 * t)).toNatClampNeg) (m := nI 31) 5 (by decide)
      rw [ej]
      by_cases hk : j < 28
      · refine lv_tableIn (off := ((lwP j : Nat) : Int) - 32) (tgt := lwP j) hx hb dL_law_32 ?_ ?_ ?_ (by omega) ?_
        · rw [nI_toInt (by omega)]; omega
        · rw [nI_toInt (by omega)]; omega
        · rw [nI_toInt (by omega), show (((j : Int) - 0).toNat) = j by omega]
          exact lwP_sw j hk
        · exact law_case C0 hG hK hi hL hk (lwN_le j hk) (lw_one xs (5 * t) cs (by omega) j hk) cs.len hl hR hS hc hcl hsl next
      · refine lv_tableOut (tgt := 844) hx hb dL_law_32 ?_ (by decide) ?_
        · right
          rw [nI_toInt (by omega)]
          omega
        · refine next h H locs ?_ hR hS hc
          exact cs.up (by omega)
end LAWW
set_option maxHeartbeats 4000000 in
set_option maxRecDepth 100000 in
/-- THE LAW, from its entry -/
theorem whole_start {p : Program} {e : Env} {s : State} {m : MethodId} {below : List Frame} {meth : Method} {c : Code} (l : Launch) (hflags : l.flags = flags0) {b L : Nat} {xs : Nat → Int32} (hL : L ≤ 2560) (C0 : lw_At p s m meth c b L xs) : W p l e room_1 s m #[Value.ref b] below meth c s.heap [] 0 0 (lw_Z below #[Value.ref b] s) (entryFrame m ([Value.ref b] : List Value).toArray 4) := by
  obtain ⟨G, hG, hGH, hK⟩ := law_KS C0
  obtain ⟨hx, hb, hr, hml, hown, hts0, hX, hbl, hlocks, hgv⟩ := id C0
  have hts : ∀ w ∈ m_tbl, w.before #[Value.ref b] s = true := fun w hw => hts0 w (m_tbl_lw hw)
  obtain ⟨h1, h2, q1, l1, q2, cs, zb⟩ := both_new2
  have g1 := m_ev_le q1
  have g2 := m_ev_le q2
  have l2 : h2.length = 85 := cs.len
  have hl := lv_entry ([.ref b]) (n := 4) (Nat.le_of_ble_eq_true rfl)
  rw [lg_entry_eq]
  generalize (lg_sl ([.ref b]) ++ List.replicate (4 - (lg_sl ([.ref b])).length) Slot.unset).toArray = ls at hl ⊢
  have hl : lv_has ls 4 [(0, .ref b)] := hl
  have hR0 : m_Rel G [] s.heap := ⟨by rw [hG]; rfl, fun k q h => by simp [m_ws] at h, fun q hq => by rw [hGH]⟩
  have hS0 : va_S (m_A G) s.heap s.heap [] := va_S.rf
  have s7 : m_sz [Sum.inr (7, m_def 7)] = 11 := rfl
  have sz1 : m_sz (h1 ++ [Sum.inr (8, m_def 8)]) = m_sz h1 + 36 := by rw [m_sz_push]; rfl
  have lz1 : (h1 ++ [Sum.inr (8, m_def 8)] : MH).length = 69 := by simp [l1]
  have g1b := g1.2.1
  have g2b := g2.2.1
  rw [s7] at g1b
  rw [sz1] at g2b
  refine m_Wnew (ci := 7) (own := R_law) hx hb hts hown hK hR0 hS0 (by omega) (by rw [Nat.add_zero]) (by omega) (m_in lw_cl1 rfl) (by show 0 + 1 ≤ 600000; omega) (by show 0 + 11 ≤ 7302250; omega) dL_law_0 fun H1 locs1 hR1 hS1 hc1 => ?_
  refine lv_dup hx hb dL_law_3 rfl ?_
  refine law_new (o := 0) C0 hG hK lwNew_1 (h := [] ++ [Sum.inr (7, m_def 7)]) (h1 := h1) q1 hl.1 (Nat.le_of_ble_eq_true rfl) dL_law_4 hR1 hS1 hc1 ?_ ?_ ?_
  · show 0 + 1 + (h1.length - 1) ≤ 600000
    omega
  · show 0 + 11 + (m_sz h1 - m_sz [Sum.inr (7, m_def 7)]) ≤ 7302250
    rw [s7]
    omega
  intro H2 locs2 hR2 hS2 hc2
  refine lv_astore_n (lv' := [(1, .ref (G.1 + 0)), (0, .ref b)]) hx hb dL_law_7 rfl hl (by decide) rfl (fun ls hl => ?_)
  refine m_Wnew (ci := 8) (own := R_law) hx hb hts hown hK hR2 hS2 (by omega) hc2 (by omega) (m_in lw_cl2 rfl) ?_ ?_ dL_law_8 fun H3 locs3 hR3 hS3 hc3 => ?_
  · show 0 + 1 + (h1.length - 1) + 1 ≤ 600000
    omega
  · show 0 + 11 + (m_sz h1 - m_sz [Sum.inr (7, m_def 7)]) + 36 ≤ 7302250
    rw [s7]
    omega
  rw [show G.1 + h1.length = G.1 + 68 by rw [l1]]
  refine lv_dup hx hb dL_law_11 rfl ?_
  refine law_new (o := 68) C0 hG hK lwNew_2 (h1 := h2) q2 hl.1 (Nat.le_of_ble_eq_true rfl) dL_law_12 hR3 hS3 hc3 ?_ ?_ ?_
  · show 0 + 1 + (h1.length - 1) + 1 + (h2.length - (h1 ++ [Sum.inr (8, m_def 8)] : MH).length) ≤ 600000
    omega
  · show 0 + 11 + (m_sz h1 - m_sz [Sum.inr (7, m_def 7)]) + 36 + (m_sz h2 - m_sz (h1 ++ [Sum.inr (8, m_def 8)])) ≤ 7302250
    rw [s7, sz1]
    omega
  intro H4 locs4 hR4 hS4 hc4
  refine lv_astore_n (lv' := [(2, .ref (G.1 + 68)), (1, .ref (G.1 + 0)), (0, .ref b)]) hx hb dL_law_15 rfl hl (by decide) rfl (fun ls hl => ?_)
  refine lv_iconst (v := nI 0) hx hb dL_law_16 (by decide) ?_
  refine lv_istore_n (lv' := [(3, .int (nI 0)), (2, .ref (G.1 + 68)), (1, .ref (G.1 + 0)), (0, .ref b)]) hx hb dL_law_17 rfl hl (by decide) rfl (fun ls hl => ?_)
  refine law_loop C0 hG hK hL ?_ ?_ (L + 1) 0 (by omega) (by omega) h2 H4 locs4 ls cs hR4 hS4 hc4 (lv_sub hl [3, 2, 1, 0] rfl)
  · show 0 + 1 + (h1.length - 1) + 1 + (h2.length - (h1 ++ [Sum.inr (8, m_def 8)] : MH).length) ≤ 600000
    omega
  · show 0 + 11 + (m_sz h1 - m_sz [Sum.inr (7, m_def 7)]) + 36 + (m_sz h2 - m_sz (h1 ++ [Sum.inr (8, m_def 8)])) ≤ 7302250
    rw [s7, sz1]
    omega
