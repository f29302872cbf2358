/-! the law: the skeleton's own rows up to where mine begin; its instructions -/
def R_law : String := "OracleWheelLaw"
def lw_P (b : Addr) (xs : List Int32) (args : Array Value) (s : State) : Prop := args = #[.ref b] ∧ s.IntsAt b xs ∧ xs.length ≤ 2560 ∧ (Jvm.Cond.and given_1 narrow_1).before args s = true
def lw_Q (_ : Array Value) (s : State) (o : Outcome) (t : State) : Prop := o = .returned (some (.int 1)) ∧ Framed s o t [] 600000 7302250
def lw_Z (below : List Frame) (a : Array Value) (s : State) : State → Prop := fun t => ∃ o, t.status = .running ∧ Ended t below o ∧ lw_Q a s o t
/-- the law's own end, with 1 on the stack, nothing written that was there before, its room as the claim has it -/
theorem lw_ret {p : Program} {l : Launch} {e : Env} {s : State} {m : MethodId} {below : List Frame} {meth : Method} {c : Code} {b : Nat} (hx : p.tables.exec = Jvm.exec) (hb : c.code = code) (hr : meth.sig.returnType = ret) (hlocks : meth.locks = false) {pc : Nat} {H : Heap} {ls : Array Slot} (hdg : decode code pc = .ok (.ireturn, 1)) : W p l e room_1 s m #[Value.ref b] below meth c H [] 600000 7302250 (lw_Z below #[Value.ref b] s) (F0 m pc ls [.int 1]) := by
  intro T hT X
  obtain ⟨fs, hret, hrun, hended, hW, hframe⟩ := X.leave (v := some (.int 1)) (hlocks := hlocks) (fun h => by rw [hr] at h; cases h)
  have hmeth' : T.vm.method? m = some meth := X.method'
  refine ⟨T.setFrames fs, ?_, .returned (some (.int 1)), hrun, hended, rfl, ⟨_, rfl⟩, hW, hframe⟩
  jvm_step X.here [X.here.top, hx, hb, hdg, hmeth', hr, ret, narrow_b1]
  (try refine ⟨rfl, ?_⟩); (try refine ⟨rfl, ?_⟩)
  first | (intro acts; rw [hret _ acts rfl rfl rfl]) | rw [hret _ _ rfl rfl rfl]
  exact Steps.refl _
/-- what holds at the law's entry: the machine, the code, the tables' words (any of lw_tbl by 'hts w (by decide +kernel)'), the script of L ints xs at the cell b, what the Statement gives of the start (any of its parts by flat_of_before) -/
def lw_At (p : Program) (s : State) (m : MethodId) (meth : Method) (c : Code) (b L : Nat) (xs : Nat → Int32) : Prop :=
  p.tables.exec = Jvm.exec ∧ c.code = code ∧ meth.sig.returnType = ret ∧ c.maxLocals = 4 ∧ s.vm.findClass R_law = some m.cls ∧ (∀ w ∈ lw_tbl, w.before #[Value.ref b] s = true) ∧ va_X b L xs s s.heap ∧ b < s.heap.size ∧ meth.locks = false ∧ (Jvm.Cond.and given_1 narrow_1).before #[Value.ref b] s = true
def RL : String := "OracleWheelLaw"
abbrev cL_law : ByteArray := code
theorem dL_law_0 : decode cL_law 0 = .ok (.new 7, 3) := by decide +kernel
theorem dL_law_3 : decode cL_law 3 = .ok (.dup, 1) := by decide +kernel
theorem dL_law_4 : decode cL_law 4 = .ok (.invokespecial 9, 3) := by decide +kernel
theorem dL_law_7 : decode cL_law 7 = .ok (.astore_n 1, 1) := by decide +kernel
theorem dL_law_8 : decode cL_law 8 = .ok (.new 10, 3) := by decide +kernel
theorem dL_law_11 : decode cL_law 11 = .ok (.dup, 1) := by decide +kernel
theorem dL_law_12 : decode cL_law 12 = .ok (.invokespecial 12, 3) := by decide +kernel
theorem dL_law_15 : decode cL_law 15 = .ok (.astore_n 2, 1) := by decide +kernel
theorem dL_law_16 : decode cL_law 16 = .ok (.iconst 0, 1) := by decide +kernel
theorem dL_law_17 : decode cL_law 17 = .ok (.istore_n 3, 1) := by decide +kernel
theorem dL_law_18 : decode cL_law 18 = .ok (.iload_n 3, 1) := by decide +kernel
theorem dL_law_19 : decode cL_law 19 = .ok (.aload_n 0, 1) := by decide +kernel
theorem dL_law_20 : decode cL_law 20 = .ok (.arraylength, 1) := by decide +kernel
theorem dL_law_21 : decode cL_law 21 = .ok (.iconst 5, 1) := by decide +kernel
theorem dL_law_22 : decode cL_law 22 = .ok (.isub, 1) := by decide +kernel
theorem dL_law_23 : decode cL_law 23 = .ok (.if_icmp .gt 827, 3) := by decide +kernel
theorem dL_law_26 : decode cL_law 26 = .ok (.aload_n 0, 1) := by decide +kernel
theorem dL_law_27 : decode cL_law 27 = .ok (.iload_n 3, 1) := by decide +kernel
theorem dL_law_28 : decode cL_law 28 = .ok (.iaload, 1) := by decide +kernel
theorem dL_law_29 : decode cL_law 29 = .ok (.bipush 31, 2) := by decide +kernel
theorem dL_law_31 : decode cL_law 31 = .ok (.iand, 1) := by decide +kernel
theorem dL_law_32 : decode cL_law 32 = .ok (.tableswitch 812 0 27 #[128, 151, 164, 177, 190, 213, 246, 279, 302, 335, 358, 371, 384, 407, 420, 443, 476, 519, 542, 565, 598, 611, 634, 667, 720, 763, 776, 789], 128) := by decide +kernel
theorem dL_law_844 : decode cL_law 844 = .ok (.iinc 3 5, 3) := by decide +kernel
theorem dL_law_847 : decode cL_law 847 = .ok (.goto (-829), 3) := by decide +kernel
theorem dL_law_850 : decode cL_law 850 = .ok (.iconst 1, 1) := by decide +kernel
theorem dL_law_851 : decode cL_law 851 = .ok (.ireturn, 1) := by decide +kernel
-- its twenty-eight calls: where each begins, how many numbers it takes, the pool's numbers, the methods' numbers, the places of the links in the tables
def lwP (k : Nat) : Nat := [160, 183, 196, 209, 222, 245, 278, 311, 334, 367, 390, 403, 416, 439, 452, 475, 508, 551, 574, 597, 630, 643, 666, 699, 752, 795, 808, 821].getD k 0
def lwN (k : Nat) : Nat := [1, 0, 0, 0, 1, 2, 2, 1, 2, 1, 0, 0, 1, 0, 1, 2, 3, 1, 1, 2, 0, 1, 2, 4, 3, 0, 0, 1].getD k 0
def lwI (k : Nat) : Nat := [13, 18, 23, 27, 31, 35, 40, 44, 48, 52, 56, 60, 64, 68, 72, 76, 80, 85, 89, 93, 97, 101, 105, 109, 114, 118, 122, 126].getD k 0
def lwJ (k : Nat) : Nat := [17, 22, 26, 30, 34, 39, 43, 47, 51, 55, 59, 63, 67, 71, 75, 79, 84, 88, 92, 96, 100, 104, 108, 113, 117, 121, 125, 129].getD k 0
def lwZ (k : Nat) : Nat := [59, 60, 61, 62, 63, 64, 65, 66, 67, 68, 69, 70, 71, 72, 73, 74, 75, 76, 77, 78, 79, 80, 81, 82, 83, 84, 85, 86].getD k 0
def lwY (k : Nat) : Nat := [105, 106, 119, 120, 127, 128, 130, 133, 137, 138, 139, 140, 141, 142, 146, 147, 148, 149, 150, 151, 152, 153, 154, 155, 156, 158, 159, 160].getD k 0
def lwQ (k : Nat) : Nat := [471, 475, 479, 483, 491, 499, 525, 537, 555, 575, 579, 592, 600, 604, 621, 661, 670, 675, 684, 693, 701, 705, 715, 719, 732, 755, 759, 763].getD k 0
def lwR (k : Nat) : Nat := [905, 912, 916, 962, 967, 971, 995, 1007, 1019, 1035, 1039, 1043, 1047, 1051, 1055, 1074, 1081, 1085, 1089, 1093, 1097, 1101, 1105, 1109, 1113, 1124, 1128, 1132].getD k 0
def lwArg (q j : Nat) : Bool := decide (decode code q = .ok (.aload_n 0, 1)) && decide (decode code (q + 1) = .ok (.iload_n 3, 1)) && decide (decode code (q + 2) = .ok (.iconst ((j + 1 : Nat) : Int), 1)) && decide (decode code (q + 3) = .ok (.iadd, 1)) && decide (decode code (q + 4) = .ok (.iaload, 1))
def lwArgs (q : Nat) : Nat → Bool
  | 0 => true
  | n + 1 => lwArgs q n && lwArg (q + 5 * n) n
def lwBlk (pc n i1 i2 : Nat) : Bool := decide (decode code pc = .ok (.aload_n 1, 1)) && lwArgs (pc + 1) n && decide (decode code (pc + 1 + 5 * n) = .ok (.invokevirtual i1, 3)) && decide (decode code (pc + 4 + 5 * n) = .ok (.aload_n 2, 1)) && lwArgs (pc + 5 + 5 * n) n && decide (decode code (pc + 5 + 10 * n) = .ok (.invokevirtual i2, 3)) && decide (decode code (pc + 8 + 10 * n) = .ok (.if_icmp .eq (844 - ((pc + 8 + 10 * n : Nat) : Int)), 3))
def lwCall (z i n pos : Nat) : Bool := Nat.blt z 164 && Nat.beq n (m_np z) && Nat.ble (n + 1) (m_maxL z) && !m_stat z && m_w pos (.methodLink R_law i (m_name z)) && m_w (m_pSel z) (.selects (m_own z) (m_name z) (m_name z)) && Nat.blt (m_rc z) 9 && Nat.ble (m_frm z + 1) 13 && Nat.ble (m_loc z + m_maxL z + 19) 504
def lwNew (z i pos : Nat) : Bool := Nat.blt z 164 && Nat.beq 0 (m_np z) && Nat.ble 1 (m_maxL z) && !m_stat z && m_w pos (.methodLink R_law i (m_name z)) && decide ((m_name z).name = "<init>") && decide (m_retT z = none) && Nat.ble (m_frm z + 1) 13 && Nat.ble (m_loc z + m_maxL z + 19) 504
set_option maxRecDepth 100000 in
theorem lwBlk_all : ∀ k, k < 28 → lwBlk (lwP k) (lwN k) (lwI k) (lwJ k) = true := by decide +kernel
set_option maxRecDepth 100000 in
theorem lwCall_1 : ∀ k, k < 28 → (lwCall (lwZ k) (lwI k) (lwN k) (lwQ k) && Nat.beq (m_rc (lwZ k)) 7) = true := by decide +kernel
set_option maxRecDepth 100000 in
theorem lwCall_2 : ∀ k, k < 28 → (lwCall (lwY k) (lwJ k) (lwN k) (lwR k) && Nat.beq (m_rc (lwY k)) 8) = true := by decide +kernel
set_option maxRecDepth 100000 in
theorem lwNew_1 : lwNew 58 9 52 = true := by decide +kernel
set_option maxRecDepth 100000 in
theorem lwNew_2 : lwNew 96 12 769 = true := by decide +kernel
theorem lw_cl1 : Cond.classLink R_law 7 RX7 ∈ lw_tbl := List.mem_of_getElem? (i := 50) (by decide +kernel)
theorem lw_cl2 : Cond.classLink R_law 10 RX8 ∈ lw_tbl := List.mem_of_getElem? (i := 767) (by decide +kernel)
