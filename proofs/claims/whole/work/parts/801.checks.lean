def m_w (i : Nat) (w : Cond) : Bool := decide (lw_tbl[i]? = some w)
theorem m_w_mem {i : Nat} {w : Cond} (h : m_w i w = true) : w ∈ lw_tbl := List.mem_of_getElem? (of_decide_eq_true h)
def m_pcAt (y k : Nat) (pc : Nat) : Bool := match m_code y k with
  | some e => Nat.beq e.1 pc
  | none => false
def m_pcZ (y k : Nat) (z : Int) : Bool := match m_code y k with
  | some e => decide ((e.1 : Int) = z)
  | none => false
def m_lenOf (i : Instr) : Nat := match i with
  | .bipush _ => 2
  | .iload _ => 2
  | .aload _ => 2
  | .lload _ => 2
  | .istore _ => 2
  | .astore _ => 2
  | .lstore _ => 2
  | .newarray _ => 2
  | .ldc _ => 2
  | .sipush _ => 3
  | .ldc_w _ => 3
  | .ldc2_w _ => 3
  | .getfield _ => 3
  | .putfield _ => 3
  | .invokevirtual _ => 3
  | .invokestatic _ => 3
  | .invokespecial _ => 3
  | .new _ => 3
  | .anewarray _ => 3
  | .iinc _ _ => 3
  | .ifCond _ _ => 3
  | .if_icmp _ _ => 3
  | .goto _ => 3
  | _ => 1
/-- is there an instruction behind it -/
def m_on (i : Instr) : Bool := match i with
  | .goto _ => false
  | .ireturn => false
  | .areturn => false
  | .return_ => false
  | .tableswitch _ _ _ _ => false
  | .lookupswitch _ _ => false
  | _ => true
def m_sws (i : Instr) : Bool := match i with
  | .tableswitch _ _ _ _ => true
  | .lookupswitch _ _ => true
  | _ => false
/-- a table switch's numbers from lo on, and where they go -/
def m_swT (y pc : Nat) (lo : Int) : Nat → List Int → List Nat → Bool
  | _, [], [] => true
  | j, o :: os, v :: t :: r => decide ((v : Int) = lo + (j : Int)) && m_pcZ y t ((pc : Int) + o) && m_swT y pc lo (j + 1) os r
  | _, _, _ => false
def m_swL (y pc : Nat) : List (Int × Int) → List Nat → Bool
  | [], [] => true
  | o :: os, v :: t :: r => decide ((v : Int) = o.1) && decide (v < 2147483648) && m_pcZ y t ((pc : Int) + o.2) && m_swL y pc os r
  | _, _ => false
def m_fty (t : Nat) (f : FieldType) : Bool := match t, f with
  | 0, .int => true
  | 1, .boolean => true
  | 2, .object _ => true
  | 2, .array _ => true
  | _, _ => false
def m_okI (y pc : Nat) (i : Instr) (a : List Nat) (c : Int32) : Bool := match i, a with
  | .iconst n, _ => decide (Int32.ofInt n = c)
  | .bipush n, _ => decide ((Int8.ofInt n).toInt32 = c)
  | .sipush n, _ => decide ((Int16.ofInt n).toInt32 = c)
  | .lconst n, [v] => decide ((n : Nat) = v)
  | .iload_n n, [v] => decide ((n : Nat) = v)
  | .aload_n n, [v] => decide ((n : Nat) = v)
  | .lload_n n, [v] => decide ((n : Nat) = v)
  | .istore_n n, [v] => decide ((n : Nat) = v)
  | .astore_n n, [v] => decide ((n : Nat) = v)
  | .lstore_n n, [v] => decide ((n : Nat) = v)
  | .iload n, [v] => decide (n = v)
  | .aload n, [v] => decide (n = v)
  | .lload n, [v] => decide (n = v)
  | .istore n, [v] => decide (n = v)
  | .astore n, [v] => decide (n = v)
  | .lstore n, [v] => decide (n = v)
  | .iinc n d, [v] => decide (n = v) && decide (Int32.ofInt d = c)
  | .ldc2_w k, [v] => m_w (m_pLn (m_rc y) k) (.constantLong (m_own y) k (Int64.ofNat v))
  | .ldc k, [v] => (Nat.beq y 39 && Nat.beq k 64 && Nat.beq v 1) || (Nat.beq y 58 && Nat.beq k 20 && Nat.beq v 0)
  | .ifCond _ o, [t] => m_pcZ y t ((pc : Int) + o)
  | .if_icmp _ o, [t] => m_pcZ y t ((pc : Int) + o)
  | .goto o, [t] => m_pcZ y t ((pc : Int) + o)
  | .tableswitch d lo hi os, t :: r => m_pcZ y t ((pc : Int) + d) && decide (0 ≤ lo) && decide (hi < 1000) && decide (hi + 1 = lo + (os.size : Int)) && m_swT y pc lo 0 os.toList r
  | .lookupswitch d ps, t :: r => m_pcZ y t ((pc : Int) + d) && ((ps.toList.zip (ps.toList.drop 1)).all (fun (a, next) => a.1 < next.1)) && m_swL y pc ps.toList r
  | .getfield k, [ci, f, t] => Nat.blt ci 9 && Nat.blt f (m_C ci).2.2 && m_w (m_pLn (m_rc y) k) (.fieldLink (m_own y) k ((m_C ci).2.1 f).1 ((m_C ci).2.1 f).2.1 ((m_C ci).2.1 f).2.2.1)
  | .putfield k, [ci, f, t] => Nat.blt ci 9 && Nat.blt f (m_C ci).2.2 && m_w (m_pLn (m_rc y) k) (.fieldLink (m_own y) k ((m_C ci).2.1 f).1 ((m_C ci).2.1 f).2.1 ((m_C ci).2.1 f).2.2.1) && m_fty t (m_ty ci f) && (!((m_C ci).2.1 f).2.2.2 || (decide ((m_name y).name = "<init>") && decide (((m_C ci).2.1 f).1 = m_own y)))
  | .invokevirtual k, [z, n] => bif Nat.blt z 900 then (Nat.blt z 164 && Nat.beq n (m_np z + 1) && Nat.ble n (m_maxL z) && !m_stat z && m_w (m_pLn (m_rc y) k) (.methodLink (m_own y) k (m_name z)) && m_w (m_pSel z) (.selects (m_own z) (m_name z) (m_name z)) && Nat.blt (m_rc z) 9 && Nat.ble (m_frm z + 1) (m_frm y) && Nat.ble (m_loc z + m_maxL z + 19) (m_loc y)) else (m_w (m_pLn (m_rc y) k) (.methodLink (m_own y) k (bif Nat.beq z 1000 then yJ0_length_8abf5 else bif Nat.beq z 1001 then yJ0_charAt_5068e else yJ0_indexOf_0f7a4)) && Nat.blt z 1003 && Nat.beq n (bif Nat.beq z 1000 then 1 else 2) && Nat.ble 5 (m_frm y) && Nat.ble 140 (m_loc y))
  | .invokestatic k, [z, n] => Nat.blt z 164 && Nat.beq n (m_np z) && Nat.ble n (m_maxL z) && m_stat z && (m_w (m_pLn (m_rc y) k) (.methodLink (m_own y) k (m_name z)) || (Nat.beq z 88 && Nat.beq k 104 && decide (m_own y = RX3))) && Nat.ble (m_frm z + 1) (m_frm y) && Nat.ble (m_loc z + m_maxL z + 19) (m_loc y)
  | .invokespecial k, [_] => m_w (m_pLn (m_rc y) k) (.methodLink (m_own y) k objectInit) && Nat.ble 1 (m_frm y) && Nat.ble 20 (m_loc y)
  | .invokespecial k, [z, n] => Nat.blt z 164 && Nat.beq n (m_np z + 1) && Nat.ble n (m_maxL z) && !m_stat z && m_w (m_pLn (m_rc y) k) (.methodLink (m_own y) k (m_name z)) && decide ((m_name z).name = "<init>") && decide (m_retT z = none) && Nat.ble (m_frm z + 1) (m_frm y) && Nat.ble (m_loc z + m_maxL z + 19) (m_loc y)
  | .new k, [ci] => Nat.blt ci 9 && m_w (m_pLn (m_rc y) k) (.classLink (m_own y) k (m_C ci).1)
  | .newarray .int, [t] => Nat.beq t 0
  | .newarray .char, [t] => Nat.beq t 1
  | .newarray _, _ => false
  | .anewarray k, _ => m_w (m_pLn (m_rc y) k) (.classLink (m_own y) k RX1)
  | .ireturn, _ => decide (m_retT y = some (bif Nat.beq (m_rt y) 0 then .int else bif Nat.beq (m_rt y) 1 then .boolean else .char)) 
  | .return_, _ => decide (m_retT y = none)
  | .areturn, _ => decide (m_retT y = some (.object RX0))
  | .lconst _, _ => false
  | .iload_n _, _ => false
  | .aload_n _, _ => false
  | .lload_n _, _ => false
  | .istore_n _, _ => false
  | .astore_n _, _ => false
  | .lstore_n _, _ => false
  | .iload _, _ => false
  | .aload _, _ => false
  | .lload _, _ => false
  | .istore _, _ => false
  | .astore _, _ => false
  | .lstore _, _ => false
  | .iinc _ _, _ => false
  | .ldc2_w _, _ => false
  | .ldc _, _ => false
  | .ldc_w _, _ => false
  | .ifCond _ _, _ => false
  | .if_icmp _ _, _ => false
  | .goto _, _ => false
  | .tableswitch _ _ _ _, _ => false
  | .lookupswitch _ _, _ => false
  | .getfield _, _ => false
  | .putfield _, _ => false
  | .invokevirtual _, _ => false
  | .invokestatic _, _ => false
  | .invokespecial _, _ => false
  | .new _, _ => false
  | _, _ => true
def m_okE (y k : Nat) (e : ME) : Bool := decide (decode (m_bytes y) e.1 = .ok (e.2.1, e.2.2.1)) && (m_sws e.2.1 || Nat.beq e.2.2.1 (m_lenOf e.2.1)) && (!m_on e.2.1 || m_pcAt y (k + 1) (e.1 + e.2.2.1)) && m_okI y e.1 e.2.1 e.2.2.2.1 e.2.2.2.2
def m_okP (y k : Nat) : Bool := match m_code y k with
  | some e => m_okE y k e
  | none => true
/-- a method's own words -/
def m_okM (y : Nat) : Bool := m_w (m_pInst y) (bif m_stat y then .static (m_name y) else .instanceMethod (m_name y)) && m_w (m_pIni y) (.initialized (m_own y)) && decide ((m_name y).cls = m_own y) && (Nat.beq (m_rc y) 9 || decide (m_own y = (m_C (m_rc y)).1)) && m_pcAt y 0 0 && decide ((parseMethodDescriptor (m_name y).desc).map (fun d => d.parameters.length) = some (m_np y)) && plainFor (m_name y) && decide (m_own y ≠ "java/lang/invoke/MethodHandle") && decide (m_own y ≠ "java/lang/invoke/VarHandle")

set_option maxRecDepth 100000 in
theorem m_okQ_0 : (List.range 12).all (fun y => (List.range (m_len (y + 0))).all (fun k => m_okP (y + 0) k)) = true := by decide +kernel
set_option maxRecDepth 100000 in
theorem m_okQ_1 : (List.range 12).all (fun y => (List.range (m_len (y + 12))).all (fun k => m_okP (y + 12) k)) = true := by decide +kernel
set_option maxRecDepth 100000 in
theorem m_okQ_2 : (List.range 12).all (fun y => (List.range (m_len (y + 24))).all (fun k => m_okP (y + 24) k)) = true := by decide +kernel
set_option maxRecDepth 100000 in
theorem m_okQ_3 : (List.range 12).all (fun y => (List.range (m_len (y + 36))).all (fun k => m_okP (y + 36) k)) = true := by decide +kernel
set_option maxRecDepth 100000 in
theorem m_okQ_4 : (List.range 12).all (fun y => (List.range (m_len (y + 48))).all (fun k => m_okP (y + 48) k)) = true := by decide +kernel
set_option maxRecDepth 100000 in
theorem m_okQ_5 : (List.range 12).all (fun y => (List.range (m_len (y + 60))).all (fun k => m_okP (y + 60) k)) = true := by decide +kernel
set_option maxRecDepth 100000 in
theorem m_okQ_6 : (List.range 12).all (fun y => (List.range (m_len (y + 72))).all (fun k => m_okP (y + 72) k)) = true := by decide +kernel
set_option maxRecDepth 100000 in
theorem m_okQ_7 : (List.range 12).all (fun y => (List.range (m_len (y + 84))).all (fun k => m_okP (y + 84) k)) = true := by decide +kernel
set_option maxRecDepth 100000 in
theorem m_okQ_8 : (List.range 12).all (fun y => (List.range (m_len (y + 96))).all (fun k => m_okP (y + 96) k)) = true := by decide +kernel
set_option maxRecDepth 100000 in
theorem m_okQ_9 : (List.range 12).all (fun y => (List.range (m_len (y + 108))).all (fun k => m_okP (y + 108) k)) = true := by decide +kernel
set_option maxRecDepth 100000 in
theorem m_okQ_10 : (List.range 12).all (fun y => (List.range (m_len (y + 120))).all (fun k => m_okP (y + 120) k)) = true := by decide +kernel
set_option maxRecDepth 100000 in
theorem m_okQ_11 : (List.range 12).all (fun y => (List.range (m_len (y + 132))).all (fun k => m_okP (y + 132) k)) = true := by decide +kernel
set_option maxRecDepth 100000 in
theorem m_okQ_12 : (List.range 12).all (fun y => (List.range (m_len (y + 144))).all (fun k => m_okP (y + 144) k)) = true := by decide +kernel
set_option maxRecDepth 100000 in
theorem m_okQ_13 : (List.range 8).all (fun y => (List.range (m_len (y + 156))).all (fun k => m_okP (y + 156) k)) = true := by decide +kernel
theorem m_okP_all (y k : Nat) : m_okP y k = true := by
  by_cases hk : k < m_len y
  · have hy : y < 164 := by
      apply Classical.byContradiction
      intro q
      have h1 : Nat.blt y 164 = false := Bool.eq_false_iff.mpr (fun z => q (by rwa [Nat.blt_eq] at z))
      unfold m_len at hk
      rw [h1] at hk
      simp at hk
    by_cases q0 : y < 12
    · exact List.all_eq_true.mp (List.all_eq_true.mp m_okQ_0 y (List.mem_range.mpr q0)) k (List.mem_range.mpr hk)
    by_cases q12 : y < 24
    · have h1 := List.all_eq_true.mp m_okQ_1 (y - 12) (List.mem_range.mpr (by omega))
      rw [show y - 12 + 12 = y by omega] at h1
      exact List.all_eq_true.mp h1 k (List.mem_range.mpr hk)
    by_cases q24 : y < 36
    · have h1 := List.all_eq_true.mp m_okQ_2 (y - 24) (List.mem_range.mpr (by omega))
      rw [show y - 24 + 24 = y by omega] at h1
      exact List.all_eq_true.mp h1 k (List.mem_range.mpr hk)
    by_cases q36 : y < 48
    · have h1 := List.all_eq_true.mp m_okQ_3 (y - 36) (List.mem_range.mpr (by omega))
      rw [show y - 36 + 36 = y by omega] at h1
      exact List.all_eq_true.mp h1 k (List.mem_range.mpr hk)
    by_cases q48 : y < 60
    · have h1 := List.all_eq_true.mp m_okQ_4 (y - 48) (List.mem_range.mpr (by omega))
      rw [show y - 48 + 48 = y by omega] at h1
      exact List.all_eq_true.mp h1 k (List.mem_range.mpr hk)
    by_cases q60 : y < 72
    · have h1 := List.all_eq_true.mp m_okQ_5 (y - 60) (List.mem_range.mpr (by omega))
      rw [show y - 60 + 60 = y by omega] at h1
      exact List.all_eq_true.mp h1 k (List.mem_range.mpr hk)
    by_cases q72 : y < 84
    · have h1 := List.all_eq_true.mp m_okQ_6 (y - 72) (List.mem_range.mpr (by omega))
      rw [show y - 72 + 72 = y by omega] at h1
      exact List.all_eq_true.mp h1 k (List.mem_range.mpr hk)
    by_cases q84 : y < 96
    · have h1 := List.all_eq_true.mp m_okQ_7 (y - 84) (List.mem_range.mpr (by omega))
      rw [show y - 84 + 84 = y by omega] at h1
      exact List.all_eq_true.mp h1 k (List.mem_range.mpr hk)
    by_cases q96 : y < 108
    · have h1 := List.all_eq_true.mp m_okQ_8 (y - 96) (List.mem_range.mpr (by omega))
      rw [show y - 96 + 96 = y by omega] at h1
      exact List.all_eq_true.mp h1 k (List.mem_range.mpr hk)
    by_cases q108 : y < 120
    · have h1 := List.all_eq_true.mp m_okQ_9 (y - 108) (List.mem_range.mpr (by omega))
      rw [show y - 108 + 108 = y by omega] at h1
      exact List.all_eq_true.mp h1 k (List.mem_range.mpr hk)
    by_cases q120 : y < 132
    · have h1 := List.all_eq_true.mp m_okQ_10 (y - 120) (List.mem_range.mpr (by omega))
      rw [show y - 120 + 120 = y by omega] at h1
      exact List.all_eq_true.mp h1 k (List.mem_range.mpr hk)
    by_cases q132 : y < 144
    · have h1 := List.all_eq_true.mp m_okQ_11 (y - 132) (List.mem_range.mpr (by omega))
      rw [show y - 132 + 132 = y by omega] at h1
      exact List.all_eq_true.mp h1 k (List.mem_range.mpr hk)
    by_cases q144 : y < 156
    · have h1 := List.all_eq_true.mp m_okQ_12 (y - 144) (List.mem_range.mpr (by omega))
      rw [show y - 144 + 144 = y by omega] at h1
      exact List.all_eq_true.mp h1 k (List.mem_range.mpr hk)
    by_cases q156 : y < 164
    · have h1 := List.all_eq_true.mp m_okQ_13 (y - 156) (List.mem_range.mpr (by omega))
      rw [show y - 156 + 156 = y by omega] at h1
      exact List.all_eq_true.mp h1 k (List.mem_range.mpr hk)
    exact absurd hy (by omega)
  · have h1 : Nat.blt k (m_len y) = false := Bool.eq_false_iff.mpr (fun z => hk (by rwa [Nat.blt_eq] at z))
    unfold m_okP m_code
    rw [h1]
    rfl
theorem m_okE_of {y k : Nat} {e : ME} (h : m_code y k = some e) : m_okE y k e = true := by
  have h1 := m_okP_all y k
  unfold m_okP at h1
  rw [h] at h1
  exact h1
