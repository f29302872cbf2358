section
-- PART A of the kit's skeleton (a starting text): the tables' words
/-- a private method of a class that the tables say can be made, by its rows of tables_1 -/
def lw_okq (q : MethodName × Nat) : Prop := (q.1.cls ≠ "java/lang/invoke/MethodHandle" ∧ q.1.cls ≠ "java/lang/invoke/VarHandle") ∧ Cond.instantiable q.1.cls q.2 ∈ tables_1 ∧ Cond.privateMethod q.1 ∈ tables_1 ∧ Cond.instanceMethod q.1 ∈ tables_1
theorem lw_p0 : lw_okq (⟨"OracleWheel", "soonestTop", "(LOracleWheel$Moment;I)I"⟩, 11) := ⟨⟨by decide +kernel, by decide +kernel⟩, List.mem_of_getElem? (i := 17) (by decide +kernel), List.mem_of_getElem? (i := 595) (by decide +kernel), List.mem_of_getElem? (i := 596) (by decide +kernel)⟩
theorem lw_p1 : lw_okq (⟨"OracleWheel", "getsHisWish", "(LOracleWheel$Moment;I)Z"⟩, 11) := ⟨⟨by decide +kernel, by decide +kernel⟩, List.mem_of_getElem? (i := 17) (by decide +kernel), List.mem_of_getElem? (i := 649) (by decide +kernel), List.mem_of_getElem? (i := 650) (by decide +kernel)⟩
theorem lw_p2 : lw_okq (⟨"OracleWheel", "weighTurns", "(II)I"⟩, 11) := ⟨⟨by decide +kernel, by decide +kernel⟩, List.mem_of_getElem? (i := 17) (by decide +kernel), List.mem_of_getElem? (i := 693) (by decide +kernel), List.mem_of_getElem? (i := 694) (by decide +kernel)⟩
theorem lw_p3 : lw_okq (⟨"OracleWheel", "setOutByDraw", "(I)V"⟩, 11) := ⟨⟨by decide +kernel, by decide +kernel⟩, List.mem_of_getElem? (i := 17) (by decide +kernel), List.mem_of_getElem? (i := 712) (by decide +kernel), List.mem_of_getElem? (i := 713) (by decide +kernel)⟩
theorem lw_p4 : lw_okq (⟨"OracleWheelModel", "clearTold", "()V"⟩, 36) := ⟨⟨by decide +kernel, by decide +kernel⟩, List.mem_of_getElem? (i := 737) (by decide +kernel), List.mem_of_getElem? (i := 743) (by decide +kernel), List.mem_of_getElem? (i := 744) (by decide +kernel)⟩
theorem lw_p5 : lw_okq (⟨"OracleWheelModel", "tellsRing", "()V"⟩, 36) := ⟨⟨by decide +kernel, by decide +kernel⟩, List.mem_of_getElem? (i := 737) (by decide +kernel), List.mem_of_getElem? (i := 747) (by decide +kernel), List.mem_of_getElem? (i := 748) (by decide +kernel)⟩
theorem lw_p6 : lw_okq (⟨"OracleWheelModel", "tellsWay", "(IIII)V"⟩, 36) := ⟨⟨by decide +kernel, by decide +kernel⟩, List.mem_of_getElem? (i := 737) (by decide +kernel), List.mem_of_getElem? (i := 751) (by decide +kernel), List.mem_of_getElem? (i := 752) (by decide +kernel)⟩
theorem lw_p7 : lw_okq (⟨"OracleWheelModel", "tellsAsker", "(II)V"⟩, 36) := ⟨⟨by decide +kernel, by decide +kernel⟩, List.mem_of_getElem? (i := 737) (by decide +kernel), List.mem_of_getElem? (i := 755) (by decide +kernel), List.mem_of_getElem? (i := 756) (by decide +kernel)⟩
theorem lw_p8 : lw_okq (⟨"OracleWheelModel", "settles", "()V"⟩, 36) := ⟨⟨by decide +kernel, by decide +kernel⟩, List.mem_of_getElem? (i := 737) (by decide +kernel), List.mem_of_getElem? (i := 759) (by decide +kernel), List.mem_of_getElem? (i := 760) (by decide +kernel)⟩
theorem lw_p9 : lw_okq (⟨"OracleWheelModel", "readItem", "()Z"⟩, 36) := ⟨⟨by decide +kernel, by decide +kernel⟩, List.mem_of_getElem? (i := 737) (by decide +kernel), List.mem_of_getElem? (i := 890) (by decide +kernel), List.mem_of_getElem? (i := 891) (by decide +kernel)⟩
theorem lw_p10 : lw_okq (⟨"OracleWheelModel", "letterAt", "(I)I"⟩, 36) := ⟨⟨by decide +kernel, by decide +kernel⟩, List.mem_of_getElem? (i := 737) (by decide +kernel), List.mem_of_getElem? (i := 894) (by decide +kernel), List.mem_of_getElem? (i := 895) (by decide +kernel)⟩
theorem lw_p11 : lw_okq (⟨"OracleWheelModel", "readRingOf", "()Z"⟩, 36) := ⟨⟨by decide +kernel, by decide +kernel⟩, List.mem_of_getElem? (i := 737) (by decide +kernel), List.mem_of_getElem? (i := 898) (by decide +kernel), List.mem_of_getElem? (i := 899) (by decide +kernel)⟩
theorem lw_p12 : lw_okq (⟨"OracleWheelModel", "readTurnOf", "()Z"⟩, 36) := ⟨⟨by decide +kernel, by decide +kernel⟩, List.mem_of_getElem? (i := 737) (by decide +kernel), List.mem_of_getElem? (i := 905) (by decide +kernel), List.mem_of_getElem? (i := 906) (by decide +kernel)⟩
theorem lw_p13 : lw_okq (⟨"OracleWheelModel", "readNumbers", "(I)Z"⟩, 36) := ⟨⟨by decide +kernel, by decide +kernel⟩, List.mem_of_getElem? (i := 737) (by decide +kernel), List.mem_of_getElem? (i := 909) (by decide +kernel), List.mem_of_getElem? (i := 910) (by decide +kernel)⟩
theorem lw_p14 : lw_okq (⟨"OracleWheelModel", "isTold", "(III)Z"⟩, 36) := ⟨⟨by decide +kernel, by decide +kernel⟩, List.mem_of_getElem? (i := 737) (by decide +kernel), List.mem_of_getElem? (i := 916) (by decide +kernel), List.mem_of_getElem? (i := 917) (by decide +kernel)⟩
theorem lw_p15 : lw_okq (⟨"OracleWheelModel", "readPlacesOf", "()Z"⟩, 36) := ⟨⟨by decide +kernel, by decide +kernel⟩, List.mem_of_getElem? (i := 737) (by decide +kernel), List.mem_of_getElem? (i := 920) (by decide +kernel), List.mem_of_getElem? (i := 921) (by decide +kernel)⟩
def lw_privs_1 : List (MethodName × Nat) := [(⟨"OracleWheel", "soonestTop", "(LOracleWheel$Moment;I)I"⟩, 11), (⟨"OracleWheel", "getsHisWish", "(LOracleWheel$Moment;I)Z"⟩, 11), (⟨"OracleWheel", "weighTurns", "(II)I"⟩, 11), (⟨"OracleWheel", "setOutByDraw", "(I)V"⟩, 11), (⟨"OracleWheelModel", "clearTold", "()V"⟩, 36), (⟨"OracleWheelModel", "tellsRing", "()V"⟩, 36), (⟨"OracleWheelModel", "tellsWay", "(IIII)V"⟩, 36), (⟨"OracleWheelModel", "tellsAsker", "(II)V"⟩, 36), (⟨"OracleWheelModel", "settles", "()V"⟩, 36), (⟨"OracleWheelModel", "readItem", "()Z"⟩, 36), (⟨"OracleWheelModel", "letterAt", "(I)I"⟩, 36), (⟨"OracleWheelModel", "readRingOf", "()Z"⟩, 36), (⟨"OracleWheelModel", "readTurnOf", "()Z"⟩, 36), (⟨"OracleWheelModel", "readNumbers", "(I)Z"⟩, 36), (⟨"OracleWheelModel", "isTold", "(III)Z"⟩, 36), (⟨"OracleWheelModel", "readPlacesOf", "()Z"⟩, 36)]
theorem lw_r1 : ∀ q ∈ lw_privs_1, lw_okq q := List.forall_mem_cons.mpr ⟨lw_p0, List.forall_mem_cons.mpr ⟨lw_p1, List.forall_mem_cons.mpr ⟨lw_p2, List.forall_mem_cons.mpr ⟨lw_p3, List.forall_mem_cons.mpr ⟨lw_p4, List.forall_mem_cons.mpr ⟨lw_p5, List.forall_mem_cons.mpr ⟨lw_p6, List.forall_mem_cons.mpr ⟨lw_p7, List.forall_mem_cons.mpr ⟨lw_p8, List.forall_mem_cons.mpr ⟨lw_p9, List.forall_mem_cons.mpr ⟨lw_p10, List.forall_mem_cons.mpr ⟨lw_p11, List.forall_mem_cons.mpr ⟨lw_p12, List.forall_mem_cons.mpr ⟨lw_p13, List.forall_mem_cons.mpr ⟨lw_p14, List.forall_mem_cons.mpr ⟨lw_p15, fun _ h => absurd h List.not_mem_nil⟩⟩⟩⟩⟩⟩⟩⟩⟩⟩⟩⟩⟩⟩⟩⟩
theorem lw_p16 : lw_okq (⟨"OracleWheelModel", "readWayOf", "()Z"⟩, 36) := ⟨⟨by decide +kernel, by decide +kernel⟩, List.mem_of_getElem? (i := 737) (by decide +kernel), List.mem_of_getElem? (i := 924) (by decide +kernel), List.mem_of_getElem? (i := 925) (by decide +kernel)⟩
theorem lw_p17 : lw_okq (⟨"OracleWheelModel", "readAskerOf", "()Z"⟩, 36) := ⟨⟨by decide +kernel, by decide +kernel⟩, List.mem_of_getElem? (i := 737) (by decide +kernel), List.mem_of_getElem? (i := 928) (by decide +kernel), List.mem_of_getElem? (i := 929) (by decide +kernel)⟩
theorem lw_p18 : lw_okq (⟨"OracleWheelModel", "isWay", "(I)Z"⟩, 36) := ⟨⟨by decide +kernel, by decide +kernel⟩, List.mem_of_getElem? (i := 737) (by decide +kernel), List.mem_of_getElem? (i := 945) (by decide +kernel), List.mem_of_getElem? (i := 946) (by decide +kernel)⟩
theorem lw_p19 : lw_okq (⟨"OracleWheelModel", "findUps", "(IIII)V"⟩, 36) := ⟨⟨by decide +kernel, by decide +kernel⟩, List.mem_of_getElem? (i := 737) (by decide +kernel), List.mem_of_getElem? (i := 949) (by decide +kernel), List.mem_of_getElem? (i := 950) (by decide +kernel)⟩
theorem lw_p20 : lw_okq (⟨"OracleWheelModel", "turnsBy", "(IIII)I"⟩, 36) := ⟨⟨by decide +kernel, by decide +kernel⟩, List.mem_of_getElem? (i := 737) (by decide +kernel), List.mem_of_getElem? (i := 953) (by decide +kernel), List.mem_of_getElem? (i := 954) (by decide +kernel)⟩
theorem lw_p21 : lw_okq (⟨"OracleWheelModel", "hoursOf", "(II)I"⟩, 36) := ⟨⟨by decide +kernel, by decide +kernel⟩, List.mem_of_getElem? (i := 737) (by decide +kernel), List.mem_of_getElem? (i := 957) (by decide +kernel), List.mem_of_getElem? (i := 958) (by decide +kernel)⟩
theorem lw_p22 : lw_okq (⟨"OracleWheelModel", "wordBy", "(I)I"⟩, 36) := ⟨⟨by decide +kernel, by decide +kernel⟩, List.mem_of_getElem? (i := 737) (by decide +kernel), List.mem_of_getElem? (i := 961) (by decide +kernel), List.mem_of_getElem? (i := 962) (by decide +kernel)⟩
theorem lw_p23 : lw_okq (⟨"OracleWheelModel", "isAsker", "(I)Z"⟩, 36) := ⟨⟨by decide +kernel, by decide +kernel⟩, List.mem_of_getElem? (i := 737) (by decide +kernel), List.mem_of_getElem? (i := 969) (by decide +kernel), List.mem_of_getElem? (i := 970) (by decide +kernel)⟩
theorem lw_p24 : lw_okq (⟨"OracleWheelModel", "isOnTop", "(I)Z"⟩, 36) := ⟨⟨by decide +kernel, by decide +kernel⟩, List.mem_of_getElem? (i := 737) (by decide +kernel), List.mem_of_getElem? (i := 973) (by decide +kernel), List.mem_of_getElem? (i := 974) (by decide +kernel)⟩
theorem lw_p25 : lw_okq (⟨"OracleWheelModel", "remembers", "()V"⟩, 36) := ⟨⟨by decide +kernel, by decide +kernel⟩, List.mem_of_getElem? (i := 737) (by decide +kernel), List.mem_of_getElem? (i := 981) (by decide +kernel), List.mem_of_getElem? (i := 982) (by decide +kernel)⟩
theorem lw_p26 : lw_okq (⟨"OracleWheelModel", "goes", "()V"⟩, 36) := ⟨⟨by decide +kernel, by decide +kernel⟩, List.mem_of_getElem? (i := 737) (by decide +kernel), List.mem_of_getElem? (i := 985) (by decide +kernel), List.mem_of_getElem? (i := 986) (by decide +kernel)⟩
theorem lw_p27 : lw_okq (⟨"OracleWheelModel", "leadsFrom", "(II)Z"⟩, 36) := ⟨⟨by decide +kernel, by decide +kernel⟩, List.mem_of_getElem? (i := 737) (by decide +kernel), List.mem_of_getElem? (i := 993) (by decide +kernel), List.mem_of_getElem? (i := 994) (by decide +kernel)⟩
theorem lw_p28 : lw_okq (⟨"OracleWheelModel", "setsOut", "(II)I"⟩, 36) := ⟨⟨by decide +kernel, by decide +kernel⟩, List.mem_of_getElem? (i := 737) (by decide +kernel), List.mem_of_getElem? (i := 997) (by decide +kernel), List.mem_of_getElem? (i := 998) (by decide +kernel)⟩
theorem lw_p29 : lw_okq (⟨"OracleWheelModel", "otherEnd", "(II)I"⟩, 36) := ⟨⟨by decide +kernel, by decide +kernel⟩, List.mem_of_getElem? (i := 737) (by decide +kernel), List.mem_of_getElem? (i := 1001) (by decide +kernel), List.mem_of_getElem? (i := 1002) (by decide +kernel)⟩
theorem lw_p30 : lw_okq (⟨"OracleWheelModel", "findOf", "(II)V"⟩, 36) := ⟨⟨by decide +kernel, by decide +kernel⟩, List.mem_of_getElem? (i := 737) (by decide +kernel), List.mem_of_getElem? (i := 1029) (by decide +kernel), List.mem_of_getElem? (i := 1030) (by decide +kernel)⟩
theorem lw_p31 : lw_okq (⟨"OracleWheelModel", "findCan", "(II)V"⟩, 36) := ⟨⟨by decide +kernel, by decide +kernel⟩, List.mem_of_getElem? (i := 737) (by decide +kernel), List.mem_of_getElem? (i := 1033) (by decide +kernel), List.mem_of_getElem? (i := 1034) (by decide +kernel)⟩
def lw_privs_2 : List (MethodName × Nat) := [(⟨"OracleWheelModel", "readWayOf", "()Z"⟩, 36), (⟨"OracleWheelModel", "readAskerOf", "()Z"⟩, 36), (⟨"OracleWheelModel", "isWay", "(I)Z"⟩, 36), (⟨"OracleWheelModel", "findUps", "(IIII)V"⟩, 36), (⟨"OracleWheelModel", "turnsBy", "(IIII)I"⟩, 36), (⟨"OracleWheelModel", "hoursOf", "(II)I"⟩, 36), (⟨"OracleWheelModel", "wordBy", "(I)I"⟩, 36), (⟨"OracleWheelModel", "isAsker", "(I)Z"⟩, 36), (⟨"OracleWheelModel", "isOnTop", "(I)Z"⟩, 36), (⟨"OracleWheelModel", "remembers", "()V"⟩, 36), (⟨"OracleWheelModel", "goes", "()V"⟩, 36), (⟨"OracleWheelModel", "leadsFrom", "(II)Z"⟩, 36), (⟨"OracleWheelModel", "setsOut", "(II)I"⟩, 36), (⟨"OracleWheelModel", "otherEnd", "(II)I"⟩, 36), (⟨"OracleWheelModel", "findOf", "(II)V"⟩, 36), (⟨"OracleWheelModel", "findCan", "(II)V"⟩, 36)]
theorem lw_r2 : ∀ q ∈ lw_privs_2, lw_okq q := List.forall_mem_cons.mpr ⟨lw_p16, List.forall_mem_cons.mpr ⟨lw_p17, List.forall_mem_cons.mpr ⟨lw_p18, List.forall_mem_cons.mpr ⟨lw_p19, List.forall_mem_cons.mpr ⟨lw_p20, List.forall_mem_cons.mpr ⟨lw_p21, List.forall_mem_cons.mpr ⟨lw_p22, List.forall_mem_cons.mpr ⟨lw_p23, List.forall_mem_cons.mpr ⟨lw_p24, List.forall_mem_cons.mpr ⟨lw_p25, List.forall_mem_cons.mpr ⟨lw_p26, List.forall_mem_cons.mpr ⟨lw_p27, List.forall_mem_cons.mpr ⟨lw_p28, List.forall_mem_cons.mpr ⟨lw_p29, List.forall_mem_cons.mpr ⟨lw_p30, List.forall_mem_cons.mpr ⟨lw_p31, fun _ h => absurd h List.not_mem_nil⟩⟩⟩⟩⟩⟩⟩⟩⟩⟩⟩⟩⟩⟩⟩⟩
theorem lw_p32 : lw_okq (⟨"OracleWheelModel", "topBy", "(I)I"⟩, 36) := ⟨⟨by decide +kernel, by decide +kernel⟩, List.mem_of_getElem? (i := 737) (by decide +kernel), List.mem_of_getElem? (i := 1040) (by decide +kernel), List.mem_of_getElem? (i := 1041) (by decide +kernel)⟩
theorem lw_p33 : lw_okq (⟨"OracleWheelModel", "onTop", "()I"⟩, 36) := ⟨⟨by decide +kernel, by decide +kernel⟩, List.mem_of_getElem? (i := 737) (by decide +kernel), List.mem_of_getElem? (i := 1090) (by decide +kernel), List.mem_of_getElem? (i := 1091) (by decide +kernel)⟩
def lw_privs_3 : List (MethodName × Nat) := [(⟨"OracleWheelModel", "topBy", "(I)I"⟩, 36), (⟨"OracleWheelModel", "onTop", "()I"⟩, 36)]
theorem lw_r3 : ∀ q ∈ lw_privs_3, lw_okq q := List.forall_mem_cons.mpr ⟨lw_p32, List.forall_mem_cons.mpr ⟨lw_p33, fun _ h => absurd h List.not_mem_nil⟩⟩
def lw_privs : List (MethodName × Nat) := lw_privs_1 ++ (lw_privs_2 ++ (lw_privs_3))
def lw_tbl : List Cond := k2_sels lw_privs ++ tables_1
theorem lw_privs_ok : ∀ q ∈ lw_privs, lw_okq q := by
  show ∀ q ∈ lw_privs_1 ++ (lw_privs_2 ++ (lw_privs_3)), lw_okq q
  exact List.forall_mem_append.mpr ⟨lw_r1, List.forall_mem_append.mpr ⟨lw_r2, lw_r3⟩⟩
end
section
/-! names, fields: out of the claim's printed NAMES (by program), what the small machine needs of them -/
def RX0 : String := "OracleWheel$Hill"
def TX0 : u_T := fun k => match k with
  | 0 => ("OracleWheel$Hill", "ring", "[I", true)
  | 1 => ("OracleWheel$Hill", "kind", "[I", true)
  | 2 => ("OracleWheel$Hill", "endA", "[I", true)
  | 3 => ("OracleWheel$Hill", "endB", "[I", true)
  | 4 => ("OracleWheel$Hill", "hours", "[I", true)
  | 5 => ("OracleWheel$Hill", "home", "[I", true)
  | 6 => ("OracleWheel$Hill", "wish", "[I", true)
  | 7 => ("OracleWheel$Hill", "words", "I", false)
  | 8 => ("OracleWheel$Hill", "step", "I", false)
  | 9 => ("OracleWheel$Hill", "every", "I", false)
  | 10 => ("OracleWheel$Hill", "more", "I", false)
  | 11 => ("OracleWheel$Hill", "places", "I", false)
  | 12 => ("OracleWheel$Hill", "ways", "I", false)
  | _ => ("OracleWheel$Hill", "askers", "I", false)
def tyX0 : Nat → FieldType := fun k => match k with
  | 0 => .array .int
  | 1 => .array .int
  | 2 => .array .int
  | 3 => .array .int
  | 4 => .array .int
  | 5 => .array .int
  | 6 => .array .int
  | 7 => .int
  | 8 => .int
  | 9 => .int
  | 10 => .int
  | 11 => .int
  | 12 => .int
  | _ => .int
abbrev wsX00 : List Cond := u_ws RX0 TX0 14
theorem nmX0 : ∀ a, a < 14 → ∀ b, b < 14 → a ≠ b → (TX0 a).2.1 ≠ (TX0 b).2.1 := by decide +kernel
theorem tyX0_ok : ∀ k, k < 14 → parseFieldDescriptor (TX0 k).2.2.1 = some (tyX0 k) := by decide +kernel
def RX1 : String := "OracleWheel$Moment"
def TX1 : u_T := fun k => match k with
  | 0 => ("OracleWheel$Moment", "place", "[I", true)
  | 1 => ("OracleWheel$Moment", "left", "[I", true)
  | 2 => ("OracleWheel$Moment", "hour", "I", false)
  | 3 => ("OracleWheel$Moment", "spot", "I", false)
  | 4 => ("OracleWheel$Moment", "footLeft", "I", false)
  | _ => ("OracleWheel$Moment", "footUsed", "Z", false)
def tyX1 : Nat → FieldType := fun k => match k with
  | 0 => .array .int
  | 1 => .array .int
  | 2 => .int
  | 3 => .int
  | 4 => .int
  | _ => .boolean
abbrev wsX10 : List Cond := u_ws RX1 TX1 6
theorem nmX1 : ∀ a, a < 6 → ∀ b, b < 6 → a ≠ b → (TX1 a).2.1 ≠ (TX1 b).2.1 := by decide +kernel
theorem tyX1_ok : ∀ k, k < 6 → parseFieldDescriptor (TX1 k).2.2.1 = some (tyX1 k) := by decide +kernel
def RX2 : String := "OracleWheel$Outlook"
def TX2 : u_T := fun k => match k with
  | 0 => ("OracleWheel$Outlook", "ahead", "[I", true)
  | _ => ("OracleWheel$Outlook", "bits", "[I", true)
def tyX2 : Nat → FieldType := fun k => match k with
  | 0 => .array .int
  | _ => .array .int
abbrev wsX20 : List Cond := u_ws RX2 TX2 2
theorem nmX2 : ∀ a, a < 2 → ∀ b, b < 2 → a ≠ b → (TX2 a).2.1 ≠ (TX2 b).2.1 := by decide +kernel
theorem tyX2_ok : ∀ k, k < 2 → parseFieldDescriptor (TX2 k).2.2.1 = some (tyX2 k) := by decide +kernel
def RX3 : String := "OracleWheel$Scribe"
def TX3 : u_T := fun k => match k with
  | 0 => ("OracleWheel$Scribe", "told", "[I", true)
  | 1 => ("OracleWheel$Scribe", "text", "LOracleWheel$Text;", true)
  | _ => ("OracleWheel$Scribe", "at", "I", false)
def tyX3 : Nat → FieldType := fun k => match k with
  | 0 => .array .int
  | 1 => .object "OracleWheel$Text"
  | _ => .int
abbrev wsX30 : List Cond := u_ws RX3 TX3 3
theorem nmX3 : ∀ a, a < 3 → ∀ b, b < 3 → a ≠ b → (TX3 a).2.1 ≠ (TX3 b).2.1 := by decide +kernel
theorem tyX3_ok : ∀ k, k < 3 → parseFieldDescriptor (TX3 k).2.2.1 = some (tyX3 k) := by decide +kernel
def RX4 : String := "OracleWheel$Shelf"
def TX4 : u_T := fun k => match k with
  | 0 => ("OracleWheel$Shelf", "row", "[LOracleWheel$Moment;", true)
  | 1 => ("OracleWheel$Shelf", "next", "I", false)
  | _ => ("OracleWheel$Shelf", "held", "I", false)
def tyX4 : Nat → FieldType := fun k => match k with
  | 0 => .array (.object "OracleWheel$Moment")
  | 1 => .int
  | _ => .int
abbrev wsX40 : List Cond := u_ws RX4 TX4 3
theorem nmX4 : ∀ a, a < 3 → ∀ b, b < 3 → a ≠ b → (TX4 a).2.1 ≠ (TX4 b).2.1 := by decide +kernel
theorem tyX4_ok : ∀ k, k < 3 → parseFieldDescriptor (TX4 k).2.2.1 = some (tyX4 k) := by decide +kernel
def RX5 : String := "OracleWheel$Sightings"
def TX5 : u_T := fun k => match k with
  | 0 => ("OracleWheel$Sightings", "words", "[I", true)
  | 1 => ("OracleWheel$Sightings", "hours", "[I", true)
  | _ => ("OracleWheel$Sightings", "held", "I", false)
def tyX5 : Nat → FieldType := fun k => match k with
  | 0 => .array .int
  | 1 => .array .int
  | _ => .int
abbrev wsX50 : List Cond := u_ws RX5 TX5 3
theorem nmX5 : ∀ a, a < 3 → ∀ b, b < 3 → a ≠ b → (TX5 a).2.1 ≠ (TX5 b).2.1 := by decide +kernel
theorem tyX5_ok : ∀ k, k < 3 → parseFieldDescriptor (TX5 k).2.2.1 = some (tyX5 k) := by decide +kernel
def RX6 : String := "OracleWheel$Text"
def TX6 : u_T := fun k => match k with
  | 0 => ("OracleWheel$Text", "letters", "[C", true)
  | _ => ("OracleWheel$Text", "length", "I", false)
def tyX6 : Nat → FieldType := fun k => match k with
  | 0 => .array .char
  | _ => .int
abbrev wsX60 : List Cond := u_ws RX6 TX6 2
theorem nmX6 : ∀ a, a < 2 → ∀ b, b < 2 → a ≠ b → (TX6 a).2.1 ≠ (TX6 b).2.1 := by decide +kernel
theorem tyX6_ok : ∀ k, k < 2 → parseFieldDescriptor (TX6 k).2.2.1 = some (tyX6 k) := by decide +kernel
def RX7 : String := "OracleWheel"
def TX7 : u_T := fun k => match k with
  | 0 => ("OracleWheel", "text", "LOracleWheel$Text;", true)
  | 1 => ("OracleWheel", "scribe", "LOracleWheel$Scribe;", true)
  | 2 => ("OracleWheel", "now", "LOracleWheel$Moment;", true)
  | 3 => ("OracleWheel", "trial", "LOracleWheel$Moment;", true)
  | 4 => ("OracleWheel", "past", "LOracleWheel$Shelf;", true)
  | 5 => ("OracleWheel", "kept", "LOracleWheel$Shelf;", true)
  | 6 => ("OracleWheel", "seen", "LOracleWheel$Sightings;", true)
  | 7 => ("OracleWheel", "outlook", "LOracleWheel$Outlook;", true)
  | 8 => ("OracleWheel", "chances", "[I", true)
  | 9 => ("OracleWheel", "hill", "LOracleWheel$Hill;", false)
  | _ => ("OracleWheel", "spare", "LOracleWheel$Hill;", false)
def tyX7 : Nat → FieldType := fun k => match k with
  | 0 => .object "OracleWheel$Text"
  | 1 => .object "OracleWheel$Scribe"
  | 2 => .object "OracleWheel$Moment"
  | 3 => .object "OracleWheel$Moment"
  | 4 => .object "OracleWheel$Shelf"
  | 5 => .object "OracleWheel$Shelf"
  | 6 => .object "OracleWheel$Sightings"
  | 7 => .object "OracleWheel$Outlook"
  | 8 => .array .int
  | 9 => .object "OracleWheel$Hill"
  | _ => .object "OracleWheel$Hill"
abbrev wsX70 : List Cond := u_ws RX7 TX7 11
theorem nmX7 : ∀ a, a < 11 → ∀ b, b < 11 → a ≠ b → (TX7 a).2.1 ≠ (TX7 b).2.1 := by decide +kernel
theorem tyX7_ok : ∀ k, k < 11 → parseFieldDescriptor (TX7 k).2.2.1 = some (tyX7 k) := by decide +kernel
def RX8 : String := "OracleWheelModel"
def TX8 : u_T := fun k => match k with
  | 0 => ("OracleWheelModel", "ringMany", "I", false)
  | 1 => ("OracleWheelModel", "ring", "[I", true)
  | 2 => ("OracleWheelModel", "turn", "I", false)
  | 3 => ("OracleWheelModel", "every", "I", false)
  | 4 => ("OracleWheelModel", "more", "I", false)
  | 5 => ("OracleWheelModel", "places", "I", false)
  | 6 => ("OracleWheelModel", "ways", "I", false)
  | 7 => ("OracleWheelModel", "way", "[I", true)
  | 8 => ("OracleWheelModel", "askers", "I", false)
  | 9 => ("OracleWheelModel", "wants", "[I", true)
  | 10 => ("OracleWheelModel", "st", "[I", true)
  | 11 => ("OracleWheelModel", "acts", "I", false)
  | 12 => ("OracleWheelModel", "was", "[I", true)
  | 13 => ("OracleWheelModel", "keeps", "I", false)
  | 14 => ("OracleWheelModel", "kept", "[I", true)
  | 15 => ("OracleWheelModel", "sees", "I", false)
  | 16 => ("OracleWheelModel", "seen", "[I", true)
  | 17 => ("OracleWheelModel", "text", "[I", true)
  | 18 => ("OracleWheelModel", "texted", "I", false)
  | 19 => ("OracleWheelModel", "at", "I", false)
  | 20 => ("OracleWheelModel", "told", "[I", true)
  | 21 => ("OracleWheelModel", "isBegun", "Z", false)
  | 22 => ("OracleWheelModel", "readRingMany", "I", false)
  | 23 => ("OracleWheelModel", "readRing", "[I", true)
  | 24 => ("OracleWheelModel", "readTurn", "I", false)
  | 25 => ("OracleWheelModel", "readEvery", "I", false)
  | 26 => ("OracleWheelModel", "readMore", "I", false)
  | 27 => ("OracleWheelModel", "readPlaces", "I", false)
  | 28 => ("OracleWheelModel", "readWays", "I", false)
  | 29 => ("OracleWheelModel", "readWay", "[I", true)
  | 30 => ("OracleWheelModel", "readAskers", "I", false)
  | 31 => ("OracleWheelModel", "readStands", "[I", true)
  | 32 => ("OracleWheelModel", "readWants", "[I", true)
  | 33 => ("OracleWheelModel", "ups", "[I", true)
  | 34 => ("OracleWheelModel", "can", "[I", true)
  | _ => ("OracleWheelModel", "ahead", "[I", true)
def tyX8 : Nat → FieldType := fun k => match k with
  | 0 => .int
  | 1 => .array .int
  | 2 => .int
  | 3 => .int
  | 4 => .int
  | 5 => .int
  | 6 => .int
  | 7 => .array .int
  | 8 => .int
  | 9 => .array .int
  | 10 => .array .int
  | 11 => .int
  | 12 => .array .int
  | 13 => .int
  | 14 => .array .int
  | 15 => .int
  | 16 => .array .int
  | 17 => .array .int
  | 18 => .int
  | 19 => .int
  | 20 => .array .int
  | 21 => .boolean
  | 22 => .int
  | 23 => .array .int
  | 24 => .int
  | 25 => .int
  | 26 => .int
  | 27 => .int
  | 28 => .int
  | 29 => .array .int
  | 30 => .int
  | 31 => .array .int
  | 32 => .array .int
  | 33 => .array .int
  | 34 => .array .int
  | _ => .array .int
abbrev wsX80 : List Cond := u_ws RX8 TX8 36
theorem nmX8 : ∀ a, a < 36 → ∀ b, b < 36 → a ≠ b → (TX8 a).2.1 ≠ (TX8 b).2.1 := by decide +kernel
theorem tyX8_ok : ∀ k, k < 36 → parseFieldDescriptor (TX8 k).2.2.1 = some (tyX8 k) := by decide +kernel
def RJ9 : String := "java/lang/Math"
def RJ0 : String := "java/lang/String"
def RJ1 : String := "java/lang/StringLatin1"
def RJ3 : String := "jdk/internal/util/Preconditions"
abbrev cX0_init : ByteArray := prog_2_method_1_code
def yX0_init : MethodName := ⟨RX0, "<init>", "()V"⟩
abbrev cX0_clear : ByteArray := prog_2_method_2_code
def yX0_clear : MethodName := ⟨RX0, "clear", "()V"⟩
abbrev cX0_addWord : ByteArray := prog_2_method_3_code
def yX0_addWord : MethodName := ⟨RX0, "addWord", "(I)Z"⟩
abbrev cX0_addWay : ByteArray := prog_2_method_4_code
def yX0_addWay : MethodName := ⟨RX0, "addWay", "(IIII)Z"⟩
abbrev cX0_addAsker : ByteArray := prog_2_method_5_code
def yX0_addAsker : MethodName := ⟨RX0, "addAsker", "(II)Z"⟩
abbrev cX0_hasPlace : ByteArray := prog_2_method_6_code
def yX0_hasPlace : MethodName := ⟨RX0, "hasPlace", "(I)Z"⟩
abbrev cX0_hasWay : ByteArray := prog_2_method_7_code
def yX0_hasWay : MethodName := ⟨RX0, "hasWay", "(I)Z"⟩
abbrev cX0_hasAsker : ByteArray := prog_2_method_8_code
def yX0_hasAsker : MethodName := ⟨RX0, "hasAsker", "(I)Z"⟩
abbrev cX0_wordAt : ByteArray := prog_2_method_9_code
def yX0_wordAt : MethodName := ⟨RX0, "wordAt", "(I)I"⟩
abbrev cX0_spotAround : ByteArray := prog_2_method_10_code
def yX0_spotAround : MethodName := ⟨RX0, "spotAround", "(I)I"⟩
abbrev cX0_otherEnd : ByteArray := prog_2_method_11_code
def yX0_otherEnd : MethodName := ⟨RX0, "otherEnd", "(II)I"⟩
abbrev cX0_hoursBy : ByteArray := prog_2_method_12_code
def yX0_hoursBy : MethodName := ⟨RX0, "hoursBy", "(III)I"⟩
abbrev cX1_init : ByteArray := prog_3_method_1_code
def yX1_init : MethodName := ⟨RX1, "<init>", "()V"⟩
abbrev cX1_start : ByteArray := prog_3_method_2_code
def yX1_start : MethodName := ⟨RX1, "start", "(LOracleWheel$Hill;)V"⟩
abbrev cX1_copy : ByteArray := prog_3_method_3_code
def yX1_copy : MethodName := ⟨RX1, "copy", "(LOracleWheel$Moment;)V"⟩
abbrev cX1_spotIn : ByteArray := prog_3_method_4_code
def yX1_spotIn : MethodName := ⟨RX1, "spotIn", "(LOracleWheel$Hill;III)I"⟩
abbrev cX1_uppermost : ByteArray := prog_3_method_5_code
def yX1_uppermost : MethodName := ⟨RX1, "uppermost", "(LOracleWheel$Hill;I)I"⟩
abbrev cX1_goOn : ByteArray := prog_3_method_6_code
def yX1_goOn : MethodName := ⟨RX1, "goOn", "(LOracleWheel$Hill;I)V"⟩
abbrev cX1_turnOnePlace : ByteArray := prog_3_method_7_code
def yX1_turnOnePlace : MethodName := ⟨RX1, "turnOnePlace", "(LOracleWheel$Hill;)V"⟩
abbrev cX1_isOnTop : ByteArray := prog_3_method_8_code
def yX1_isOnTop : MethodName := ⟨RX1, "isOnTop", "(I)Z"⟩
abbrev cX1_manyOnTop : ByteArray := prog_3_method_9_code
def yX1_manyOnTop : MethodName := ⟨RX1, "manyOnTop", "(LOracleWheel$Hill;)I"⟩
abbrev cX1_readersOfWishes : ByteArray := prog_3_method_10_code
def yX1_readersOfWishes : MethodName := ⟨RX1, "readersOfWishes", "(LOracleWheel$Hill;)I"⟩
abbrev cX1_hoursToSetOut : ByteArray := prog_3_method_11_code
def yX1_hoursToSetOut : MethodName := ⟨RX1, "hoursToSetOut", "(LOracleWheel$Hill;II)I"⟩
abbrev cX1_leave : ByteArray := prog_3_method_12_code
def yX1_leave : MethodName := ⟨RX1, "leave", "(LOracleWheel$Hill;II)V"⟩
abbrev cX2_init : ByteArray := prog_4_method_1_code
def yX2_init : MethodName := ⟨RX2, "<init>", "()V"⟩
abbrev cX2_look : ByteArray := prog_4_method_2_code
def yX2_look : MethodName := ⟨RX2, "look", "(LOracleWheel$Hill;LOracleWheel$Moment;I)V"⟩
abbrev cX2_comesAgainBehind : ByteArray := prog_4_method_3_code
def yX2_comesAgainBehind : MethodName := ⟨RX2, "comesAgainBehind", "(I)Z"⟩
abbrev cX2_wordIn : ByteArray := prog_4_method_4_code
def yX2_wordIn : MethodName := ⟨RX2, "wordIn", "(I)I"⟩
abbrev cX2_soonestWord : ByteArray := prog_4_method_5_code
def yX2_soonestWord : MethodName := ⟨RX2, "soonestWord", "(II)I"⟩
abbrev cX2_prepare : ByteArray := prog_4_method_6_code
def yX2_prepare : MethodName := ⟨RX2, "prepare", "(LOracleWheel$Hill;LOracleWheel$Moment;)V"⟩
abbrev cX2_mark : ByteArray := prog_4_method_7_code
def yX2_mark : MethodName := ⟨RX2, "mark", "(III)V"⟩
abbrev cX2_whoIsAt : ByteArray := prog_4_method_8_code
def yX2_whoIsAt : MethodName := ⟨RX2, "whoIsAt", "(II)I"⟩
abbrev cX2_spread : ByteArray := prog_4_method_9_code
def yX2_spread : MethodName := ⟨RX2, "spread", "(LOracleWheel$Hill;I)V"⟩
abbrev cX2_spreadByWays : ByteArray := prog_4_method_10_code
def yX2_spreadByWays : MethodName := ⟨RX2, "spreadByWays", "(LOracleWheel$Hill;III)V"⟩
abbrev cX2_onTop : ByteArray := prog_4_method_11_code
def yX2_onTop : MethodName := ⟨RX2, "onTop", "(I)I"⟩
abbrev cX2_soonestTopOfAny : ByteArray := prog_4_method_12_code
def yX2_soonestTopOfAny : MethodName := ⟨RX2, "soonestTopOfAny", "()I"⟩
abbrev cX3_init : ByteArray := prog_5_method_1_code
def yX3_init : MethodName := ⟨RX3, "<init>", "(LOracleWheel$Text;)V"⟩
abbrev cX3_copyOut : ByteArray := prog_5_method_2_code
def yX3_copyOut : MethodName := ⟨RX3, "copyOut", "(LOracleWheel$Hill;)I"⟩
abbrev cX3_copyItem : ByteArray := prog_5_method_3_code
def yX3_copyItem : MethodName := ⟨RX3, "copyItem", "(CLOracleWheel$Hill;)Z"⟩
abbrev cX3_copyRing : ByteArray := prog_5_method_4_code
def yX3_copyRing : MethodName := ⟨RX3, "copyRing", "(LOracleWheel$Hill;)Z"⟩
abbrev cX3_copyLaw : ByteArray := prog_5_method_5_code
def yX3_copyLaw : MethodName := ⟨RX3, "copyLaw", "(LOracleWheel$Hill;)Z"⟩
abbrev cX3_copyPlaces : ByteArray := prog_5_method_6_code
def yX3_copyPlaces : MethodName := ⟨RX3, "copyPlaces", "(LOracleWheel$Hill;)Z"⟩
abbrev cX3_copyWay : ByteArray := prog_5_method_7_code
def yX3_copyWay : MethodName := ⟨RX3, "copyWay", "(LOracleWheel$Hill;)Z"⟩
abbrev cX3_copyAsker : ByteArray := prog_5_method_8_code
def yX3_copyAsker : MethodName := ⟨RX3, "copyAsker", "(LOracleWheel$Hill;)Z"⟩
abbrev cX3_takesNumbers : ByteArray := prog_5_method_9_code
def yX3_takesNumbers : MethodName := ⟨RX3, "takesNumbers", "(I)Z"⟩
abbrev cX3_takeFigure : ByteArray := prog_5_method_10_code
def yX3_takeFigure : MethodName := ⟨RX3, "takeFigure", "()I"⟩
abbrev cX3_takes : ByteArray := prog_5_method_11_code
def yX3_takes : MethodName := ⟨RX3, "takes", "(C)Z"⟩
abbrev cX3_isAtFigure : ByteArray := prog_5_method_12_code
def yX3_isAtFigure : MethodName := ⟨RX3, "isAtFigure", "()Z"⟩
abbrev cX4_init : ByteArray := prog_6_method_1_code
def yX4_init : MethodName := ⟨RX4, "<init>", "(I)V"⟩
abbrev cX4_clear : ByteArray := prog_6_method_2_code
def yX4_clear : MethodName := ⟨RX4, "clear", "()V"⟩
abbrev cX4_push : ByteArray := prog_6_method_3_code
def yX4_push : MethodName := ⟨RX4, "push", "(LOracleWheel$Moment;)V"⟩
abbrev cX4_pop : ByteArray := prog_6_method_4_code
def yX4_pop : MethodName := ⟨RX4, "pop", "(LOracleWheel$Moment;)V"⟩
abbrev cX5_init : ByteArray := prog_7_method_1_code
def yX5_init : MethodName := ⟨RX5, "<init>", "()V"⟩
abbrev cX5_add : ByteArray := prog_7_method_2_code
def yX5_add : MethodName := ⟨RX5, "add", "(II)Z"⟩
abbrev cX5_fits : ByteArray := prog_7_method_3_code
def yX5_fits : MethodName := ⟨RX5, "fits", "(LOracleWheel$Hill;LOracleWheel$Moment;II)Z"⟩
abbrev cX6_init : ByteArray := prog_8_method_1_code
def yX6_init : MethodName := ⟨RX6, "<init>", "()V"⟩
abbrev cX6_append : ByteArray := prog_8_method_2_code
def yX6_append : MethodName := ⟨RX6, "append", "(C)Z"⟩
abbrev cX6_letterAt : ByteArray := prog_8_method_3_code
def yX6_letterAt : MethodName := ⟨RX6, "letterAt", "(I)C"⟩
abbrev cX7_init : ByteArray := prog_1_method_1_code
def yX7_init : MethodName := ⟨RX7, "<init>", "()V"⟩
abbrev cX7_write : ByteArray := prog_1_method_2_code
def yX7_write : MethodName := ⟨RX7, "write", "(I)I"⟩
abbrev cX7_wipe : ByteArray := prog_1_method_3_code
def yX7_wipe : MethodName := ⟨RX7, "wipe", "()I"⟩
abbrev cX7_fault : ByteArray := prog_1_method_4_code
def yX7_fault : MethodName := ⟨RX7, "fault", "()I"⟩
abbrev cX7_lay : ByteArray := prog_1_method_5_code
def yX7_lay : MethodName := ⟨RX7, "lay", "()I"⟩
abbrev cX7_word : ByteArray := prog_1_method_6_code
def yX7_word : MethodName := ⟨RX7, "word", "(I)I"⟩
abbrev cX7_way : ByteArray := prog_1_method_7_code
def yX7_way : MethodName := ⟨RX7, "way", "(II)I"⟩
abbrev cX7_asker : ByteArray := prog_1_method_8_code
def yX7_asker : MethodName := ⟨RX7, "asker", "(II)I"⟩
abbrev cX7_pass : ByteArray := prog_1_method_9_code
def yX7_pass : MethodName := ⟨RX7, "pass", "(I)I"⟩
abbrev cX7_setOut : ByteArray := prog_1_method_10_code
def yX7_setOut : MethodName := ⟨RX7, "setOut", "(II)I"⟩
abbrev cX7_foot : ByteArray := prog_1_method_11_code
def yX7_foot : MethodName := ⟨RX7, "foot", "(I)I"⟩
abbrev cX7_graze : ByteArray := prog_1_method_12_code
def yX7_graze : MethodName := ⟨RX7, "graze", "()I"⟩
abbrev cX7_undo : ByteArray := prog_1_method_13_code
def yX7_undo : MethodName := ⟨RX7, "undo", "()I"⟩
abbrev cX7_upper : ByteArray := prog_1_method_14_code
def yX7_upper : MethodName := ⟨RX7, "upper", "(I)I"⟩
abbrev cX7_round : ByteArray := prog_1_method_15_code
def yX7_round : MethodName := ⟨RX7, "round", "()I"⟩
abbrev cX7_top : ByteArray := prog_1_method_16_code
def yX7_top : MethodName := ⟨RX7, "top", "(I)I"⟩
abbrev cX7_read : ByteArray := prog_1_method_17_code
def yX7_read : MethodName := ⟨RX7, "read", "(II)I"⟩
abbrev cX7_both : ByteArray := prog_1_method_18_code
def yX7_both : MethodName := ⟨RX7, "both", "(III)I"⟩
abbrev cX7_hold : ByteArray := prog_1_method_19_code
def yX7_hold : MethodName := ⟨RX7, "hold", "(I)I"⟩
abbrev cX7_first : ByteArray := prog_1_method_20_code
def yX7_first : MethodName := ⟨RX7, "first", "(I)I"⟩
abbrev cX7_see : ByteArray := prog_1_method_21_code
def yX7_see : MethodName := ⟨RX7, "see", "(II)I"⟩
abbrev cX7_forget : ByteArray := prog_1_method_22_code
def yX7_forget : MethodName := ⟨RX7, "forget", "()I"⟩
abbrev cX7_laws : ByteArray := prog_1_method_23_code
def yX7_laws : MethodName := ⟨RX7, "laws", "(I)I"⟩
abbrev cX7_from : ByteArray := prog_1_method_24_code
def yX7_from : MethodName := ⟨RX7, "from", "(II)I"⟩
abbrev cX7_grazing : ByteArray := prog_1_method_25_code
def yX7_grazing : MethodName := ⟨RX7, "grazing", "(IIII)I"⟩
abbrev cX7_year : ByteArray := prog_1_method_26_code
def yX7_year : MethodName := ⟨RX7, "year", "(III)I"⟩
abbrev cX7_keep : ByteArray := prog_1_method_27_code
def yX7_keep : MethodName := ⟨RX7, "keep", "()I"⟩
abbrev cX7_back : ByteArray := prog_1_method_28_code
def yX7_back : MethodName := ⟨RX7, "back", "()I"⟩
abbrev cX7_count : ByteArray := prog_1_method_29_code
def yX7_count : MethodName := ⟨RX7, "count", "(I)I"⟩
abbrev cX7_firstHill : ByteArray := prog_1_method_30_code
def yX7_firstHill : MethodName := ⟨RX7, "firstHill", "()LOracleWheel$Hill;"⟩
abbrev cX7_isWord : ByteArray := prog_1_method_31_code
def yX7_isWord : MethodName := ⟨RX7, "isWord", "(I)Z"⟩
abbrev cX7_soonestTop : ByteArray := prog_1_method_32_code
def yX7_soonestTop : MethodName := ⟨RX7, "soonestTop", "(LOracleWheel$Moment;I)I"⟩
abbrev cX7_getsHisWish : ByteArray := prog_1_method_33_code
def yX7_getsHisWish : MethodName := ⟨RX7, "getsHisWish", "(LOracleWheel$Moment;I)Z"⟩
abbrev cX7_lowestBit : ByteArray := prog_1_method_34_code
def yX7_lowestBit : MethodName := ⟨RX7, "lowestBit", "(I)I"⟩
abbrev cX7_weighTurns : ByteArray := prog_1_method_35_code
def yX7_weighTurns : MethodName := ⟨RX7, "weighTurns", "(II)I"⟩
abbrev cX7_commonDivisor : ByteArray := prog_1_method_36_code
def yX7_commonDivisor : MethodName := ⟨RX7, "commonDivisor", "(II)I"⟩
abbrev cX7_draw : ByteArray := prog_1_method_37_code
def yX7_draw : MethodName := ⟨RX7, "draw", "(II)I"⟩
abbrev cX7_setOutByDraw : ByteArray := prog_1_method_38_code
def yX7_setOutByDraw : MethodName := ⟨RX7, "setOutByDraw", "(I)V"⟩
abbrev cX8_init : ByteArray := prog_10_method_1_code
def yX8_init : MethodName := ⟨RX8, "<init>", "()V"⟩
abbrev cX8_tellsRing : ByteArray := prog_10_method_3_code
def yX8_tellsRing : MethodName := ⟨RX8, "tellsRing", "()V"⟩
abbrev cX8_tellsWay : ByteArray := prog_10_method_4_code
def yX8_tellsWay : MethodName := ⟨RX8, "tellsWay", "(IIII)V"⟩
abbrev cX8_tellsAsker : ByteArray := prog_10_method_5_code
def yX8_tellsAsker : MethodName := ⟨RX8, "tellsAsker", "(II)V"⟩
abbrev cX8_in : ByteArray := prog_10_method_6_code
def yX8_in : MethodName := ⟨RX8, "in", "(III)Z"⟩
abbrev cX8_has : ByteArray := prog_10_method_7_code
def yX8_has : MethodName := ⟨RX8, "has", "(II)Z"⟩
abbrev cX8_isWay : ByteArray := prog_10_method_8_code
def yX8_isWay : MethodName := ⟨RX8, "isWay", "(I)Z"⟩
abbrev cX8_isAsker : ByteArray := prog_10_method_9_code
def yX8_isAsker : MethodName := ⟨RX8, "isAsker", "(I)Z"⟩
abbrev cX8_isWord : ByteArray := prog_10_method_10_code
def yX8_isWord : MethodName := ⟨RX8, "isWord", "(I)Z"⟩
abbrev cX8_write : ByteArray := prog_10_method_11_code
def yX8_write : MethodName := ⟨RX8, "write", "(I)I"⟩
abbrev cX8_wipe : ByteArray := prog_10_method_12_code
def yX8_wipe : MethodName := ⟨RX8, "wipe", "()I"⟩
abbrev cX8_letterAt : ByteArray := prog_10_method_13_code
def yX8_letterAt : MethodName := ⟨RX8, "letterAt", "(I)I"⟩
abbrev cX8_isFigure : ByteArray := prog_10_method_14_code
def yX8_isFigure : MethodName := ⟨RX8, "isFigure", "(I)Z"⟩
abbrev cX8_readNumbers : ByteArray := prog_10_method_15_code
def yX8_readNumbers : MethodName := ⟨RX8, "readNumbers", "(I)Z"⟩
abbrev cX8_isTold : ByteArray := prog_10_method_16_code
def yX8_isTold : MethodName := ⟨RX8, "isTold", "(III)Z"⟩
abbrev cX8_clearTold : ByteArray := prog_10_method_17_code
def yX8_clearTold : MethodName := ⟨RX8, "clearTold", "()V"⟩
abbrev cX8_wordOf : ByteArray := prog_10_method_18_code
def yX8_wordOf : MethodName := ⟨RX8, "wordOf", "(I)I"⟩
abbrev cX8_readRingOf : ByteArray := prog_10_method_19_code
def yX8_readRingOf : MethodName := ⟨RX8, "readRingOf", "()Z"⟩
abbrev cX8_readTurnOf : ByteArray := prog_10_method_20_code
def yX8_readTurnOf : MethodName := ⟨RX8, "readTurnOf", "()Z"⟩
abbrev cX8_readPlacesOf : ByteArray := prog_10_method_21_code
def yX8_readPlacesOf : MethodName := ⟨RX8, "readPlacesOf", "()Z"⟩
abbrev cX8_readWayOf : ByteArray := prog_10_method_22_code
def yX8_readWayOf : MethodName := ⟨RX8, "readWayOf", "()Z"⟩
abbrev cX8_readAskerOf : ByteArray := prog_10_method_23_code
def yX8_readAskerOf : MethodName := ⟨RX8, "readAskerOf", "()Z"⟩
abbrev cX8_readItem : ByteArray := prog_10_method_24_code
def yX8_readItem : MethodName := ⟨RX8, "readItem", "()Z"⟩
abbrev cX8_fault : ByteArray := prog_10_method_25_code
def yX8_fault : MethodName := ⟨RX8, "fault", "()I"⟩
abbrev cX8_lay : ByteArray := prog_10_method_26_code
def yX8_lay : MethodName := ⟨RX8, "lay", "()I"⟩
abbrev cX8_copies : ByteArray := prog_10_method_27_code
def yX8_copies : MethodName := ⟨RX8, "copies", "([II[III)V"⟩
abbrev cX8_settles : ByteArray := prog_10_method_28_code
def yX8_settles : MethodName := ⟨RX8, "settles", "()V"⟩
abbrev cX8_turnsBy : ByteArray := prog_10_method_29_code
def yX8_turnsBy : MethodName := ⟨RX8, "turnsBy", "(IIII)I"⟩
abbrev cX8_findUps : ByteArray := prog_10_method_30_code
def yX8_findUps : MethodName := ⟨RX8, "findUps", "(IIII)V"⟩
abbrev cX8_wordBy : ByteArray := prog_10_method_31_code
def yX8_wordBy : MethodName := ⟨RX8, "wordBy", "(I)I"⟩
abbrev cX8_hoursOf : ByteArray := prog_10_method_32_code
def yX8_hoursOf : MethodName := ⟨RX8, "hoursOf", "(II)I"⟩
abbrev cX8_word : ByteArray := prog_10_method_33_code
def yX8_word : MethodName := ⟨RX8, "word", "(I)I"⟩
abbrev cX8_way : ByteArray := prog_10_method_34_code
def yX8_way : MethodName := ⟨RX8, "way", "(II)I"⟩
abbrev cX8_isOnTop : ByteArray := prog_10_method_35_code
def yX8_isOnTop : MethodName := ⟨RX8, "isOnTop", "(I)Z"⟩
abbrev cX8_asker : ByteArray := prog_10_method_36_code
def yX8_asker : MethodName := ⟨RX8, "asker", "(II)I"⟩
abbrev cX8_remembers : ByteArray := prog_10_method_37_code
def yX8_remembers : MethodName := ⟨RX8, "remembers", "()V"⟩
abbrev cX8_goes : ByteArray := prog_10_method_38_code
def yX8_goes : MethodName := ⟨RX8, "goes", "()V"⟩
abbrev cX8_pass : ByteArray := prog_10_method_39_code
def yX8_pass : MethodName := ⟨RX8, "pass", "(I)I"⟩
abbrev cX8_leadsFrom : ByteArray := prog_10_method_40_code
def yX8_leadsFrom : MethodName := ⟨RX8, "leadsFrom", "(II)Z"⟩
abbrev cX8_otherEnd : ByteArray := prog_10_method_41_code
def yX8_otherEnd : MethodName := ⟨RX8, "otherEnd", "(II)I"⟩
abbrev cX8_setsOut : ByteArray := prog_10_method_42_code
def yX8_setsOut : MethodName := ⟨RX8, "setsOut", "(II)I"⟩
abbrev cX8_setOut : ByteArray := prog_10_method_43_code
def yX8_setOut : MethodName := ⟨RX8, "setOut", "(II)I"⟩
abbrev cX8_foot : ByteArray := prog_10_method_44_code
def yX8_foot : MethodName := ⟨RX8, "foot", "(I)I"⟩
abbrev cX8_graze : ByteArray := prog_10_method_45_code
def yX8_graze : MethodName := ⟨RX8, "graze", "()I"⟩
abbrev cX8_undo : ByteArray := prog_10_method_46_code
def yX8_undo : MethodName := ⟨RX8, "undo", "()I"⟩
abbrev cX8_upper : ByteArray := prog_10_method_47_code
def yX8_upper : MethodName := ⟨RX8, "upper", "(I)I"⟩
abbrev cX8_round : ByteArray := prog_10_method_48_code
def yX8_round : MethodName := ⟨RX8, "round", "()I"⟩
abbrev cX8_findCan : ByteArray := prog_10_method_49_code
def yX8_findCan : MethodName := ⟨RX8, "findCan", "(II)V"⟩
abbrev cX8_topBy : ByteArray := prog_10_method_50_code
def yX8_topBy : MethodName := ⟨RX8, "topBy", "(I)I"⟩
abbrev cX8_findOf : ByteArray := prog_10_method_51_code
def yX8_findOf : MethodName := ⟨RX8, "findOf", "(II)V"⟩
abbrev cX8_top : ByteArray := prog_10_method_52_code
def yX8_top : MethodName := ⟨RX8, "top", "(I)I"⟩
abbrev cX8_read : ByteArray := prog_10_method_53_code
def yX8_read : MethodName := ⟨RX8, "read", "(II)I"⟩
abbrev cX8_both : ByteArray := prog_10_method_54_code
def yX8_both : MethodName := ⟨RX8, "both", "(III)I"⟩
abbrev cX8_hold : ByteArray := prog_10_method_55_code
def yX8_hold : MethodName := ⟨RX8, "hold", "(I)I"⟩
abbrev cX8_first : ByteArray := prog_10_method_56_code
def yX8_first : MethodName := ⟨RX8, "first", "(I)I"⟩
abbrev cX8_see : ByteArray := prog_10_method_57_code
def yX8_see : MethodName := ⟨RX8, "see", "(II)I"⟩
abbrev cX8_forget : ByteArray := prog_10_method_58_code
def yX8_forget : MethodName := ⟨RX8, "forget", "()I"⟩
abbrev cX8_laws : ByteArray := prog_10_method_59_code
def yX8_laws : MethodName := ⟨RX8, "laws", "(I)I"⟩
abbrev cX8_from : ByteArray := prog_10_method_60_code
def yX8_from : MethodName := ⟨RX8, "from", "(II)I"⟩
abbrev cX8_grazing : ByteArray := prog_10_method_61_code
def yX8_grazing : MethodName := ⟨RX8, "grazing", "(IIII)I"⟩
abbrev cX8_year : ByteArray := prog_10_method_62_code
def yX8_year : MethodName := ⟨RX8, "year", "(III)I"⟩
abbrev cX8_onTop : ByteArray := prog_10_method_63_code
def yX8_onTop : MethodName := ⟨RX8, "onTop", "()I"⟩
abbrev cX8_keep : ByteArray := prog_10_method_64_code
def yX8_keep : MethodName := ⟨RX8, "keep", "()I"⟩
abbrev cX8_back : ByteArray := prog_10_method_65_code
def yX8_back : MethodName := ⟨RX8, "back", "()I"⟩
abbrev cX8_count : ByteArray := prog_10_method_66_code
def yX8_count : MethodName := ⟨RX8, "count", "(I)I"⟩
abbrev cJ9_floorMod_7cf53 : ByteArray := prog_12_method_50_code
def yJ9_floorMod_7cf53 : MethodName := ⟨RJ9, "floorMod", "(II)I"⟩
abbrev cJ9_max_7cf53 : ByteArray := prog_12_method_65_code
def yJ9_max_7cf53 : MethodName := ⟨RJ9, "max", "(II)I"⟩
abbrev cJ9_min_7cf53 : ByteArray := prog_12_method_69_code
def yJ9_min_7cf53 : MethodName := ⟨RJ9, "min", "(II)I"⟩
abbrev cJ0_length_8abf5 : ByteArray := prog_13_method_54_code
def yJ0_length_8abf5 : MethodName := ⟨RJ0, "length", "()I"⟩
abbrev cJ0_charAt_5068e : ByteArray := prog_13_method_56_code
def yJ0_charAt_5068e : MethodName := ⟨RJ0, "charAt", "(I)C"⟩
abbrev cJ0_indexOf_0f7a4 : ByteArray := prog_13_method_79_code
def yJ0_indexOf_0f7a4 : MethodName := ⟨RJ0, "indexOf", "(I)I"⟩
abbrev cJ0_indexOf_7cf53 : ByteArray := prog_13_method_80_code
def yJ0_indexOf_7cf53 : MethodName := ⟨RJ0, "indexOf", "(II)I"⟩
abbrev cJ0_coder_7d493 : ByteArray := prog_13_method_152_code
def yJ0_coder_7d493 : MethodName := ⟨RJ0, "coder", "()B"⟩
abbrev cJ0_isLatin1_aae02 : ByteArray := prog_13_method_154_code
def yJ0_isLatin1_aae02 : MethodName := ⟨RJ0, "isLatin1", "()Z"⟩
abbrev cJ0_checkIndex_df160 : ByteArray := prog_13_method_155_code
def yJ0_checkIndex_df160 : MethodName := ⟨RJ0, "checkIndex", "(II)V"⟩
abbrev cJ0_checkBoundsBeginEnd_23922 : ByteArray := prog_13_method_158_code
def yJ0_checkBoundsBeginEnd_23922 : MethodName := ⟨RJ0, "checkBoundsBeginEnd", "(III)V"⟩
abbrev cJ1_charAt_3b067 : ByteArray := prog_14_method_2_code
def yJ1_charAt_3b067 : MethodName := ⟨RJ1, "charAt", "([BI)C"⟩
abbrev cJ1_canEncode_9a6ad : ByteArray := prog_14_method_4_code
def yJ1_canEncode_9a6ad : MethodName := ⟨RJ1, "canEncode", "(I)Z"⟩
abbrev cJ1_indexOf_4cfef : ByteArray := prog_14_method_22_code
def yJ1_indexOf_4cfef : MethodName := ⟨RJ1, "indexOf", "([BIII)I"⟩
abbrev cJ1_indexOfChar_4cfef : ByteArray := prog_14_method_23_code
def yJ1_indexOfChar_4cfef : MethodName := ⟨RJ1, "indexOfChar", "([BIII)I"⟩
abbrev cJ3_checkIndex_8e157 : ByteArray := prog_16_method_11_code
def yJ3_checkIndex_8e157 : MethodName := ⟨RJ3, "checkIndex", "(IILjava/util/function/BiFunction;)I"⟩
abbrev cJ3_checkFromToIndex_8c36e : ByteArray := prog_16_method_12_code
def yJ3_checkFromToIndex_8c36e : MethodName := ⟨RJ3, "checkFromToIndex", "(IIILjava/util/function/BiFunction;)I"⟩
abbrev vwCl : List vw_C := [(RX0, TX0, 14), (RX1, TX1, 6), (RX2, TX2, 2), (RX3, TX3, 3), (RX4, TX4, 3), (RX5, TX5, 3), (RX6, TX6, 2), (RX7, TX7, 11), (RX8, TX8, 36)]
end
section
/-! the code of every method as a table: (pc, instruction, length, numbers, constant), by the place of the instruction -/
abbrev ME : Type := Nat × Instr × Nat × List Nat × Int32
/-- 0: OracleWheel$Hill.<init>()V -/
def m_t0 (k : Nat) : Option ME := (bif Nat.blt k 15 then (bif Nat.blt k 7 then (bif Nat.blt k 3 then (bif Nat.blt k 1 then some (0, .aload_n 0, 1, [0], 0) else (bif Nat.blt k 2 then some (1, .invokespecial 3, 3, [900], 0) else some (4, .aload_n 0, 1, [0], 0))) else (bif Nat.blt k 5 then (bif Nat.blt k 4 then some (5, .bipush 12, 2, [], nI 12) else some (7, .newarray .int, 2, [0], 0)) else (bif Nat.blt k 6 then some (9, .putfield 9, 3, [0, 0, 2], 0) else some (12, .aload_n 0, 1, [0], 0)))) else (bif Nat.blt k 11 then (bif Nat.blt k 9 then (bif Nat.blt k 8 then some (13, .bipush 10, 2, [], nI 10) else some (15, .newarray .int, 2, [0], 0)) else (bif Nat.blt k 10 then some (17, .putfield 15, 3, [0, 1, 2], 0) else some (20, .aload_n 0, 1, [0], 0))) else (bif Nat.blt k 13 then (bif Nat.blt k 12 then some (21, .bipush 10, 2, [], nI 10) else some (23, .newarray .int, 2, [0], 0)) else (bif Nat.blt k 14 then some (25, .putfield 18, 3, [0, 2, 2], 0) else some (28, .aload_n 0, 1, [0], 0))))) else (bif Nat.blt k 23 then (bif Nat.blt k 19 then (bif Nat.blt k 17 then (bif Nat.blt k 16 then some (29, .bipush 10, 2, [], nI 10) else some (31, .newarray .int, 2, [0], 0)) else (bif Nat.blt k 18 then some (33, .putfield 21, 3, [0, 3, 2], 0) else some (36, .aload_n 0, 1, [0], 0))) else (bif Nat.blt k 21 then (bif Nat.blt k 20 then some (37, .bipush 10, 2, [], nI 10) else some (39, .newarray .int, 2, [0], 0)) else (bif Nat.blt k 22 then some (41, .putfield 24, 3, [0, 4, 2], 0) else some (44, .aload_n 0, 1, [0], 0)))) else (bif Nat.blt k 27 then (bif Nat.blt k 25 then (bif Nat.blt k 24 then some (45, .iconst 4, 1, [], nI 4) else some (46, .newarray .int, 2, [0], 0)) else (bif Nat.blt k 26 then some (48, .putfield 27, 3, [0, 5, 2], 0) else some (51, .aload_n 0, 1, [0], 0))) else (bif Nat.blt k 29 then (bif Nat.blt k 28 then some (52, .iconst 4, 1, [], nI 4) else some (53, .newarray .int, 2, [0], 0)) else (bif Nat.blt k 30 then some (55, .putfield 30, 3, [0, 6, 2], 0) else some (58, .return_, 1, [], 0))))))
/-- 1: OracleWheel$Hill.clear()V -/
def m_t1 (k : Nat) : Option ME := (bif Nat.blt k 15 then (bif Nat.blt k 7 then (bif Nat.blt k 3 then (bif Nat.blt k 1 then some (0, .aload_n 0, 1, [0], 0) else (bif Nat.blt k 2 then some (1, .iconst 0, 1, [], nI 0) else some (2, .putfield 33, 3, [0, 7, 0], 0))) else (bif Nat.blt k 5 then (bif Nat.blt k 4 then some (5, .aload_n 0, 1, [0], 0) else some (6, .iconst 0, 1, [], nI 0)) else (bif Nat.blt k 6 then some (7, .invokevirtual 37, 3, [2, 2], 0) else some (10, .pop, 1, [], 0)))) else (bif Nat.blt k 11 then (bif Nat.blt k 9 then (bif Nat.blt k 8 then some (11, .aload_n 0, 1, [0], 0) else some (12, .iconst 1, 1, [], nI 1)) else (bif Nat.blt k 10 then some (13, .invokevirtual 37, 3, [2, 2], 0) else some (16, .pop, 1, [], 0))) else (bif Nat.blt k 13 then (bif Nat.blt k 12 then some (17, .aload_n 0, 1, [0], 0) else some (18, .iconst 1, 1, [], nI 1)) else (bif Nat.blt k 14 then some (19, .putfield 41, 3, [0, 8, 0], 0) else some (22, .aload_n 0, 1, [0], 0))))) else (bif Nat.blt k 22 then (bif Nat.blt k 18 then (bif Nat.blt k 16 then some (23, .bipush 24, 2, [], nI 24) else (bif Nat.blt k 17 then some (25, .putfield 44, 3, [0, 9, 0], 0) else some (28, .aload_n 0, 1, [0], 0))) else (bif Nat.blt k 20 then (bif Nat.blt k 19 then some (29, .iconst 0, 1, [], nI 0) else some (30, .putfield 47, 3, [0, 10, 0], 0)) else (bif Nat.blt k 21 then some (33, .aload_n 0, 1, [0], 0) else some (34, .iconst 4, 1, [], nI 4)))) else (bif Nat.blt k 26 then (bif Nat.blt k 24 then (bif Nat.blt k 23 then some (35, .putfield 50, 3, [0, 11, 0], 0) else some (38, .aload_n 0, 1, [0], 0)) else (bif Nat.blt k 25 then some (39, .iconst 0, 1, [], nI 0) else some (40, .putfield 53, 3, [0, 12, 0], 0))) else (bif Nat.blt k 28 then (bif Nat.blt k 27 then some (43, .aload_n 0, 1, [0], 0) else some (44, .iconst 0, 1, [], nI 0)) else (bif Nat.blt k 29 then some (45, .putfield 56, 3, [0, 13, 0], 0) else some (48, .return_, 1, [], 0))))))
/-- 2: OracleWheel$Hill.addWord(I)Z -/
def m_t2 (k : Nat) : Option ME := (bif Nat.blt k 12 then (bif Nat.blt k 6 then (bif Nat.blt k 3 then (bif Nat.blt k 1 then some (0, .aload_n 0, 1, [0], 0) else (bif Nat.blt k 2 then some (1, .getfield 33, 3, [0, 7, 0], 0) else some (4, .ifCond .lt 15, 3, [9], 0))) else (bif Nat.blt k 4 then some (7, .aload_n 0, 1, [0], 0) else (bif Nat.blt k 5 then some (8, .getfield 33, 3, [0, 7, 0], 0) else some (11, .aload_n 0, 1, [0], 0)))) else (bif Nat.blt k 9 then (bif Nat.blt k 7 then some (12, .getfield 9, 3, [0, 0, 2], 0) else (bif Nat.blt k 8 then some (15, .arraylength, 1, [], 0) else some (16, .if_icmp .lt 5, 3, [11], 0))) else (bif Nat.blt k 10 then some (19, .iconst 0, 1, [], nI 0) else (bif Nat.blt k 11 then some (20, .ireturn, 1, [], 0) else some (21, .aload_n 0, 1, [0], 0))))) else (bif Nat.blt k 18 then (bif Nat.blt k 15 then (bif Nat.blt k 13 then some (22, .getfield 9, 3, [0, 0, 2], 0) else (bif Nat.blt k 14 then some (25, .aload_n 0, 1, [0], 0) else some (26, .getfield 33, 3, [0, 7, 0], 0))) else (bif Nat.blt k 16 then some (29, .iload_n 1, 1, [1], 0) else (bif Nat.blt k 17 then some (30, .iastore, 1, [], 0) else some (31, .aload_n 0, 1, [0], 0)))) else (bif Nat.blt k 21 then (bif Nat.blt k 19 then some (32, .dup, 1, [], 0) else (bif Nat.blt k 20 then some (33, .getfield 33, 3, [0, 7, 0], 0) else some (36, .iconst 1, 1, [], nI 1))) else (bif Nat.blt k 23 then (bif Nat.blt k 22 then some (37, .iadd, 1, [], 0) else some (38, .putfield 33, 3, [0, 7, 0], 0)) else (bif Nat.blt k 24 then some (41, .iconst 1, 1, [], nI 1) else some (42, .ireturn, 1, [], 0))))))
/-- 3: OracleWheel$Hill.addWay(IIII)Z -/
def m_t3 (k : Nat) : Option ME := (bif Nat.blt k 20 then (bif Nat.blt k 10 then (bif Nat.blt k 5 then (bif Nat.blt k 2 then (bif Nat.blt k 1 then some (0, .aload_n 0, 1, [0], 0) else some (1, .getfield 53, 3, [0, 12, 0], 0)) else (bif Nat.blt k 3 then some (4, .ifCond .lt 12, 3, [7], 0) else (bif Nat.blt k 4 then some (7, .aload_n 0, 1, [0], 0) else some (8, .getfield 53, 3, [0, 12, 0], 0)))) else (bif Nat.blt k 7 then (bif Nat.blt k 6 then some (11, .bipush 10, 2, [], nI 10) else some (13, .if_icmp .lt 5, 3, [9], 0)) else (bif Nat.blt k 8 then some (16, .iconst 0, 1, [], nI 0) else (bif Nat.blt k 9 then some (17, .ireturn, 1, [], 0) else some (18, .aload_n 0, 1, [0], 0))))) else (bif Nat.blt k 15 then (bif Nat.blt k 12 then (bif Nat.blt k 11 then some (19, .getfield 15, 3, [0, 1, 2], 0) else some (22, .aload_n 0, 1, [0], 0)) else (bif Nat.blt k 13 then some (23, .getfield 53, 3, [0, 12, 0], 0) else (bif Nat.blt k 14 then some (26, .iload_n 1, 1, [1], 0) else some (27, .iastore, 1, [], 0)))) else (bif Nat.blt k 17 then (bif Nat.blt k 16 then some (28, .aload_n 0, 1, [0], 0) else some (29, .getfield 18, 3, [0, 2, 2], 0)) else (bif Nat.blt k 18 then some (32, .aload_n 0, 1, [0], 0) else (bif Nat.blt k 19 then some (33, .getfield 53, 3, [0, 12, 0], 0) else some (36, .iload_n 2, 1, [2], 0)))))) else (bif Nat.blt k 30 then (bif Nat.blt k 25 then (bif Nat.blt k 22 then (bif Nat.blt k 21 then some (37, .iastore, 1, [], 0) else some (38, .aload_n 0, 1, [0], 0)) else (bif Nat.blt k 23 then some (39, .getfield 21, 3, [0, 3, 2], 0) else (bif Nat.blt k 24 then some (42, .aload_n 0, 1, [0], 0) else some (43, .getfield 53, 3, [0, 12, 0], 0)))) else (bif Nat.blt k 27 then (bif Nat.blt k 26 then some (46, .iload_n 3, 1, [3], 0) else some (47, .iastore, 1, [], 0)) else (bif Nat.blt k 28 then some (48, .aload_n 0, 1, [0], 0) else (bif Nat.blt k 29 then some (49, .getfield 24, 3, [0, 4, 2], 0) else some (52, .aload_n 0, 1, [0], 0))))) else (bif Nat.blt k 35 then (bif Nat.blt k 32 then (bif Nat.blt k 31 then some (53, .getfield 53, 3, [0, 12, 0], 0) else some (56, .iload 4, 2, [4], 0)) else (bif Nat.blt k 33 then some (58, .iastore, 1, [], 0) else (bif Nat.blt k 34 then some (59, .aload_n 0, 1, [0], 0) else some (60, .dup, 1, [], 0)))) else (bif Nat.blt k 38 then (bif Nat.blt k 36 then some (61, .getfield 53, 3, [0, 12, 0], 0) else (bif Nat.blt k 37 then some (64, .iconst 1, 1, [], nI 1) else some (65, .iadd, 1, [], 0))) else (bif Nat.blt k 39 then some (66, .putfield 53, 3, [0, 12, 0], 0) else (bif Nat.blt k 40 then some (69, .iconst 1, 1, [], nI 1) else some (70, .ireturn, 1, [], 0)))))))
/-- 4: OracleWheel$Hill.addAsker(II)Z -/
def m_t4 (k : Nat) : Option ME := (bif Nat.blt k 14 then (bif Nat.blt k 7 then (bif Nat.blt k 3 then (bif Nat.blt k 1 then some (0, .aload_n 0, 1, [0], 0) else (bif Nat.blt k 2 then some (1, .getfield 56, 3, [0, 13, 0], 0) else some (4, .ifCond .lt 11, 3, [7], 0))) else (bif Nat.blt k 5 then (bif Nat.blt k 4 then some (7, .aload_n 0, 1, [0], 0) else some (8, .getfield 56, 3, [0, 13, 0], 0)) else (bif Nat.blt k 6 then some (11, .iconst 4, 1, [], nI 4) else some (12, .if_icmp .lt 5, 3, [9], 0)))) else (bif Nat.blt k 10 then (bif Nat.blt k 8 then some (15, .iconst 0, 1, [], nI 0) else (bif Nat.blt k 9 then some (16, .ireturn, 1, [], 0) else some (17, .aload_n 0, 1, [0], 0))) else (bif Nat.blt k 12 then (bif Nat.blt k 11 then some (18, .getfield 27, 3, [0, 5, 2], 0) else some (21, .aload_n 0, 1, [0], 0)) else (bif Nat.blt k 13 then some (22, .getfield 56, 3, [0, 13, 0], 0) else some (25, .iload_n 1, 1, [1], 0))))) else (bif Nat.blt k 21 then (bif Nat.blt k 17 then (bif Nat.blt k 15 then some (26, .iastore, 1, [], 0) else (bif Nat.blt k 16 then some (27, .aload_n 0, 1, [0], 0) else some (28, .getfield 30, 3, [0, 6, 2], 0))) else (bif Nat.blt k 19 then (bif Nat.blt k 18 then some (31, .aload_n 0, 1, [0], 0) else some (32, .getfield 56, 3, [0, 13, 0], 0)) else (bif Nat.blt k 20 then some (35, .iload_n 2, 1, [2], 0) else some (36, .iastore, 1, [], 0)))) else (bif Nat.blt k 25 then (bif Nat.blt k 23 then (bif Nat.blt k 22 then some (37, .aload_n 0, 1, [0], 0) else some (38, .dup, 1, [], 0)) else (bif Nat.blt k 24 then some (39, .getfield 56, 3, [0, 13, 0], 0) else some (42, .iconst 1, 1, [], nI 1))) else (bif Nat.blt k 27 then (bif Nat.blt k 26 then some (43, .iadd, 1, [], 0) else some (44, .putfield 56, 3, [0, 13, 0], 0)) else (bif Nat.blt k 28 then some (47, .iconst 1, 1, [], nI 1) else some (48, .ireturn, 1, [], 0))))))
/-- 5: OracleWheel$Hill.hasPlace(I)Z -/
def m_t5 (k : Nat) : Option ME := (bif Nat.blt k 5 then (bif Nat.blt k 2 then (bif Nat.blt k 1 then some (0, .iload_n 1, 1, [1], 0) else some (1, .ifCond .lt 15, 3, [8], 0)) else (bif Nat.blt k 3 then some (4, .iload_n 1, 1, [1], 0) else (bif Nat.blt k 4 then some (5, .aload_n 0, 1, [0], 0) else some (6, .getfield 50, 3, [0, 11, 0], 0)))) else (bif Nat.blt k 7 then (bif Nat.blt k 6 then some (9, .if_icmp .ge 7, 3, [8], 0) else some (12, .iconst 1, 1, [], nI 1)) else (bif Nat.blt k 8 then some (13, .goto 4, 3, [9], 0) else (bif Nat.blt k 9 then some (16, .iconst 0, 1, [], nI 0) else some (17, .ireturn, 1, [], 0)))))
/-- 6: OracleWheel$Hill.hasWay(I)Z -/
def m_t6 (k : Nat) : Option ME := (bif Nat.blt k 6 then (bif Nat.blt k 3 then (bif Nat.blt k 1 then some (0, .iload_n 1, 1, [1], 0) else (bif Nat.blt k 2 then some (1, .ifCond .lt 21, 3, [11], 0) else some (4, .iload_n 1, 1, [1], 0))) else (bif Nat.blt k 4 then some (5, .aload_n 0, 1, [0], 0) else (bif Nat.blt k 5 then some (6, .getfield 53, 3, [0, 12, 0], 0) else some (9, .if_icmp .ge 13, 3, [11], 0)))) else (bif Nat.blt k 9 then (bif Nat.blt k 7 then some (12, .iload_n 1, 1, [1], 0) else (bif Nat.blt k 8 then some (13, .bipush 10, 2, [], nI 10) else some (15, .if_icmp .ge 7, 3, [11], 0))) else (bif Nat.blt k 11 then (bif Nat.blt k 10 then some (18, .iconst 1, 1, [], nI 1) else some (19, .goto 4, 3, [12], 0)) else (bif Nat.blt k 12 then some (22, .iconst 0, 1, [], nI 0) else some (23, .ireturn, 1, [], 0)))))
/-- 7: OracleWheel$Hill.hasAsker(I)Z -/
def m_t7 (k : Nat) : Option ME := (bif Nat.blt k 6 then (bif Nat.blt k 3 then (bif Nat.blt k 1 then some (0, .iload_n 1, 1, [1], 0) else (bif Nat.blt k 2 then some (1, .ifCond .lt 20, 3, [11], 0) else some (4, .iload_n 1, 1, [1], 0))) else (bif Nat.blt k 4 then some (5, .aload_n 0, 1, [0], 0) else (bif Nat.blt k 5 then some (6, .getfield 56, 3, [0, 13, 0], 0) else some (9, .if_icmp .ge 12, 3, [11], 0)))) else (bif Nat.blt k 9 then (bif Nat.blt k 7 then some (12, .iload_n 1, 1, [1], 0) else (bif Nat.blt k 8 then some (13, .iconst 4, 1, [], nI 4) else some (14, .if_icmp .ge 7, 3, [11], 0))) else (bif Nat.blt k 11 then (bif Nat.blt k 10 then some (17, .iconst 1, 1, [], nI 1) else some (18, .goto 4, 3, [12], 0)) else (bif Nat.blt k 12 then some (21, .iconst 0, 1, [], nI 0) else some (22, .ireturn, 1, [], 0)))))
/-- 8: OracleWheel$Hill.wordAt(I)I -/
def m_t8 (k : Nat) : Option ME := (bif Nat.blt k 9 then (bif Nat.blt k 4 then (bif Nat.blt k 2 then (bif Nat.blt k 1 then some (0, .iload_n 1, 1, [1], 0) else some (1, .ifCond .lt 29, 3, [16], 0)) else (bif Nat.blt k 3 then some (4, .iload_n 1, 1, [1], 0) else some (5, .aload_n 0, 1, [0], 0))) else (bif Nat.blt k 6 then (bif Nat.blt k 5 then some (6, .getfield 33, 3, [0, 7, 0], 0) else some (9, .if_icmp .ge 21, 3, [16], 0)) else (bif Nat.blt k 7 then some (12, .iload_n 1, 1, [1], 0) else (bif Nat.blt k 8 then some (13, .aload_n 0, 1, [0], 0) else some (14, .getfield 9, 3, [0, 0, 2], 0))))) else (bif Nat.blt k 13 then (bif Nat.blt k 11 then (bif Nat.blt k 10 then some (17, .arraylength, 1, [], 0) else some (18, .if_icmp .ge 12, 3, [16], 0)) else (bif Nat.blt k 12 then some (21, .aload_n 0, 1, [0], 0) else some (22, .getfield 9, 3, [0, 0, 2], 0))) else (bif Nat.blt k 15 then (bif Nat.blt k 14 then some (25, .iload_n 1, 1, [1], 0) else some (26, .iaload, 1, [], 0)) else (bif Nat.blt k 16 then some (27, .goto 5, 3, [17], 0) else (bif Nat.blt k 17 then some (30, .bipush (-4), 2, [], (-4)) else some (32, .ireturn, 1, [], 0))))))
/-- 9: OracleWheel$Hill.spotAround(I)I -/
def m_t9 (k : Nat) : Option ME := (bif Nat.blt k 5 then (bif Nat.blt k 2 then (bif Nat.blt k 1 then some (0, .aload_n 0, 1, [0], 0) else some (1, .getfield 33, 3, [0, 7, 0], 0)) else (bif Nat.blt k 3 then some (4, .iconst 1, 1, [], nI 1) else (bif Nat.blt k 4 then some (5, .if_icmp .ge 7, 3, [6], 0) else some (8, .iconst 0, 1, [], nI 0)))) else (bif Nat.blt k 8 then (bif Nat.blt k 6 then some (9, .goto 11, 3, [10], 0) else (bif Nat.blt k 7 then some (12, .iload_n 1, 1, [1], 0) else some (13, .aload_n 0, 1, [0], 0))) else (bif Nat.blt k 9 then some (14, .getfield 33, 3, [0, 7, 0], 0) else (bif Nat.blt k 10 then some (17, .invokestatic 59, 3, [161, 2], 0) else some (20, .ireturn, 1, [], 0)))))
/-- 10: OracleWheel$Hill.otherEnd(II)I -/
def m_t10 (k : Nat) : Option ME := (bif Nat.blt k 15 then (bif Nat.blt k 7 then (bif Nat.blt k 3 then (bif Nat.blt k 1 then some (0, .aload_n 0, 1, [0], 0) else (bif Nat.blt k 2 then some (1, .iload_n 1, 1, [1], 0) else some (2, .invokevirtual 65, 3, [6, 2], 0))) else (bif Nat.blt k 5 then (bif Nat.blt k 4 then some (5, .ifCond .ne 6, 3, [6], 0) else some (8, .bipush (-4), 2, [], (-4))) else (bif Nat.blt k 6 then some (10, .ireturn, 1, [], 0) else some (11, .aload_n 0, 1, [0], 0)))) else (bif Nat.blt k 11 then (bif Nat.blt k 9 then (bif Nat.blt k 8 then some (12, .getfield 18, 3, [0, 2, 2], 0) else some (15, .iload_n 1, 1, [1], 0)) else (bif Nat.blt k 10 then some (16, .iaload, 1, [], 0) else some (17, .iload_n 2, 1, [2], 0))) else (bif Nat.blt k 13 then (bif Nat.blt k 12 then some (18, .if_icmp .ne 10, 3, [17], 0) else some (21, .aload_n 0, 1, [0], 0)) else (bif Nat.blt k 14 then some (22, .getfield 21, 3, [0, 3, 2], 0) else some (25, .iload_n 1, 1, [1], 0))))) else (bif Nat.blt k 22 then (bif Nat.blt k 18 then (bif Nat.blt k 16 then some (26, .iaload, 1, [], 0) else (bif Nat.blt k 17 then some (27, .ireturn, 1, [], 0) else some (28, .aload_n 0, 1, [0], 0))) else (bif Nat.blt k 20 then (bif Nat.blt k 19 then some (29, .getfield 21, 3, [0, 3, 2], 0) else some (32, .iload_n 1, 1, [1], 0)) else (bif Nat.blt k 21 then some (33, .iaload, 1, [], 0) else some (34, .iload_n 2, 1, [2], 0)))) else (bif Nat.blt k 26 then (bif Nat.blt k 24 then (bif Nat.blt k 23 then some (35, .if_icmp .ne 12, 3, [28], 0) else some (38, .aload_n 0, 1, [0], 0)) else (bif Nat.blt k 25 then some (39, .getfield 18, 3, [0, 2, 2], 0) else some (42, .iload_n 1, 1, [1], 0))) else (bif Nat.blt k 28 then (bif Nat.blt k 27 then some (43, .iaload, 1, [], 0) else some (44, .goto 5, 3, [29], 0)) else (bif Nat.blt k 29 then some (47, .bipush (-4), 2, [], (-4)) else some (49, .ireturn, 1, [], 0))))))
/-- 11: OracleWheel$Hill.hoursBy(III)I -/
def m_t11 (k : Nat) : Option ME := (bif Nat.blt k 26 then (bif Nat.blt k 13 then (bif Nat.blt k 6 then (bif Nat.blt k 3 then (bif Nat.blt k 1 then some (0, .aload_n 0, 1, [0], 0) else (bif Nat.blt k 2 then some (1, .iload_n 1, 1, [1], 0) else some (2, .invokevirtual 65, 3, [6, 2], 0))) else (bif Nat.blt k 4 then some (5, .ifCond .ne 6, 3, [6], 0) else (bif Nat.blt k 5 then some (8, .bipush (-4), 2, [], (-4)) else some (10, .ireturn, 1, [], 0)))) else (bif Nat.blt k 9 then (bif Nat.blt k 7 then some (11, .aload_n 0, 1, [0], 0) else (bif Nat.blt k 8 then some (12, .getfield 15, 3, [0, 1, 2], 0) else some (15, .iload_n 1, 1, [1], 0))) else (bif Nat.blt k 11 then (bif Nat.blt k 10 then some (16, .iaload, 1, [], 0) else some (17, .tableswitch 85 1 3 #[27, 51, 69], 27, [47, 1, 11, 2, 27, 3, 38], 0)) else (bif Nat.blt k 12 then some (44, .iload_n 2, 1, [2], 0) else some (45, .iconst 2, 1, [], nI 2))))) else (bif Nat.blt k 19 then (bif Nat.blt k 16 then (bif Nat.blt k 14 then some (46, .irem, 1, [], 0) else (bif Nat.blt k 15 then some (47, .ifCond .ne 12, 3, [20], 0) else some (50, .aload_n 0, 1, [0], 0))) else (bif Nat.blt k 17 then some (51, .getfield 24, 3, [0, 4, 2], 0) else (bif Nat.blt k 18 then some (54, .iload_n 1, 1, [1], 0) else some (55, .iaload, 1, [], 0)))) else (bif Nat.blt k 22 then (bif Nat.blt k 20 then some (56, .goto 11, 3, [26], 0) else (bif Nat.blt k 21 then some (59, .iconst 2, 1, [], nI 2) else some (60, .aload_n 0, 1, [0], 0))) else (bif Nat.blt k 24 then (bif Nat.blt k 23 then some (61, .getfield 24, 3, [0, 4, 2], 0) else some (64, .iload_n 1, 1, [1], 0)) else (bif Nat.blt k 25 then some (65, .iaload, 1, [], 0) else some (66, .imul, 1, [], 0)))))) else (bif Nat.blt k 39 then (bif Nat.blt k 32 then (bif Nat.blt k 29 then (bif Nat.blt k 27 then some (67, .ireturn, 1, [], 0) else (bif Nat.blt k 28 then some (68, .iload_n 2, 1, [2], 0) else some (69, .iconst 3, 1, [], nI 3))) else (bif Nat.blt k 30 then some (70, .irem, 1, [], 0) else (bif Nat.blt k 31 then some (71, .ifCond .ne 8, 3, [33], 0) else some (74, .bipush (-4), 2, [], (-4))))) else (bif Nat.blt k 35 then (bif Nat.blt k 33 then some (76, .goto 9, 3, [37], 0) else (bif Nat.blt k 34 then some (79, .aload_n 0, 1, [0], 0) else some (80, .getfield 24, 3, [0, 4, 2], 0))) else (bif Nat.blt k 37 then (bif Nat.blt k 36 then some (83, .iload_n 1, 1, [1], 0) else some (84, .iaload, 1, [], 0)) else (bif Nat.blt k 38 then some (85, .ireturn, 1, [], 0) else some (86, .iload_n 3, 1, [3], 0))))) else (bif Nat.blt k 45 then (bif Nat.blt k 42 then (bif Nat.blt k 40 then some (87, .ifCond .ne 12, 3, [45], 0) else (bif Nat.blt k 41 then some (90, .aload_n 0, 1, [0], 0) else some (91, .getfield 24, 3, [0, 4, 2], 0))) else (bif Nat.blt k 43 then some (94, .iload_n 1, 1, [1], 0) else (bif Nat.blt k 44 then some (95, .iaload, 1, [], 0) else some (96, .goto 5, 3, [46], 0)))) else (bif Nat.blt k 48 then (bif Nat.blt k 46 then some (99, .bipush (-4), 2, [], (-4)) else (bif Nat.blt k 47 then some (101, .ireturn, 1, [], 0) else some (102, .aload_n 0, 1, [0], 0))) else (bif Nat.blt k 50 then (bif Nat.blt k 49 then some (103, .getfield 24, 3, [0, 4, 2], 0) else some (106, .iload_n 1, 1, [1], 0)) else (bif Nat.blt k 51 then some (107, .iaload, 1, [], 0) else some (108, .ireturn, 1, [], 0)))))))
/-- 12: OracleWheel$Moment.<init>()V -/
def m_t12 (k : Nat) : Option ME := (bif Nat.blt k 5 then (bif Nat.blt k 2 then (bif Nat.blt k 1 then some (0, .aload_n 0, 1, [0], 0) else some (1, .invokespecial 3, 3, [900], 0)) else (bif Nat.blt k 3 then some (4, .aload_n 0, 1, [0], 0) else (bif Nat.blt k 4 then some (5, .iconst 4, 1, [], nI 4) else some (6, .newarray .int, 2, [0], 0)))) else (bif Nat.blt k 8 then (bif Nat.blt k 6 then some (8, .putfield 9, 3, [1, 0, 2], 0) else (bif Nat.blt k 7 then some (11, .aload_n 0, 1, [0], 0) else some (12, .iconst 4, 1, [], nI 4))) else (bif Nat.blt k 9 then some (13, .newarray .int, 2, [0], 0) else (bif Nat.blt k 10 then some (15, .putfield 15, 3, [1, 1, 2], 0) else some (18, .return_, 1, [], 0)))))
/-- 13: OracleWheel$Moment.start(LOracleWheel$Hill;)V -/
def m_t13 (k : Nat) : Option ME := (bif Nat.blt k 16 then (bif Nat.blt k 8 then (bif Nat.blt k 4 then (bif Nat.blt k 2 then (bif Nat.blt k 1 then some (0, .aload_n 0, 1, [0], 0) else some (1, .iconst 0, 1, [], nI 0)) else (bif Nat.blt k 3 then some (2, .putfield 18, 3, [1, 2, 0], 0) else some (5, .aload_n 0, 1, [0], 0))) else (bif Nat.blt k 6 then (bif Nat.blt k 5 then some (6, .iconst 0, 1, [], nI 0) else some (7, .putfield 22, 3, [1, 3, 0], 0)) else (bif Nat.blt k 7 then some (10, .aload_n 0, 1, [0], 0) else some (11, .iconst 0, 1, [], nI 0)))) else (bif Nat.blt k 12 then (bif Nat.blt k 10 then (bif Nat.blt k 9 then some (12, .putfield 25, 3, [1, 4, 0], 0) else some (15, .aload_n 0, 1, [0], 0)) else (bif Nat.blt k 11 then some (16, .iconst 0, 1, [], nI 0) else some (17, .putfield 28, 3, [1, 5, 1], 0))) else (bif Nat.blt k 14 then (bif Nat.blt k 13 then some (20, .iconst 0, 1, [], nI 0) else some (21, .istore_n 2, 1, [2], 0)) else (bif Nat.blt k 15 then some (22, .iload_n 2, 1, [2], 0) else some (23, .iconst 4, 1, [], nI 4))))) else (bif Nat.blt k 24 then (bif Nat.blt k 20 then (bif Nat.blt k 18 then (bif Nat.blt k 17 then some (24, .if_icmp .ge 28, 3, [32], 0) else some (27, .aload_n 0, 1, [0], 0)) else (bif Nat.blt k 19 then some (28, .getfield 9, 3, [1, 0, 2], 0) else some (31, .iload_n 2, 1, [2], 0))) else (bif Nat.blt k 22 then (bif Nat.blt k 21 then some (32, .aload_n 1, 1, [1], 0) else some (33, .getfield 32, 3, [0, 5, 2], 0)) else (bif Nat.blt k 23 then some (36, .iload_n 2, 1, [2], 0) else some (37, .iaload, 1, [], 0)))) else (bif Nat.blt k 28 then (bif Nat.blt k 26 then (bif Nat.blt k 25 then some (38, .iastore, 1, [], 0) else some (39, .aload_n 0, 1, [0], 0)) else (bif Nat.blt k 27 then some (40, .getfield 15, 3, [1, 1, 2], 0) else some (43, .iload_n 2, 1, [2], 0))) else (bif Nat.blt k 30 then (bif Nat.blt k 29 then some (44, .iconst 0, 1, [], nI 0) else some (45, .iastore, 1, [], 0)) else (bif Nat.blt k 31 then some (46, .iinc 2 1, 3, [2], nI 1) else (bif Nat.blt k 32 then some (49, .goto (-27), 3, [14], 0) else some (52, .return_, 1, [], 0)))))))
/-- 14: OracleWheel$Moment.copy(LOracleWheel$Moment;)V -/
def m_t14 (k : Nat) : Option ME := (bif Nat.blt k 20 then (bif Nat.blt k 10 then (bif Nat.blt k 5 then (bif Nat.blt k 2 then (bif Nat.blt k 1 then some (0, .aload_n 0, 1, [0], 0) else some (1, .aload_n 1, 1, [1], 0)) else (bif Nat.blt k 3 then some (2, .getfield 18, 3, [1, 2, 0], 0) else (bif Nat.blt k 4 then some (5, .putfield 18, 3, [1, 2, 0], 0) else some (8, .aload_n 0, 1, [0], 0)))) else (bif Nat.blt k 7 then (bif Nat.blt k 6 then some (9, .aload_n 1, 1, [1], 0) else some (10, .getfield 22, 3, [1, 3, 0], 0)) else (bif Nat.blt k 8 then some (13, .putfield 22, 3, [1, 3, 0], 0) else (bif Nat.blt k 9 then some (16, .aload_n 0, 1, [0], 0) else some (17, .aload_n 1, 1, [1], 0))))) else (bif Nat.blt k 15 then (bif Nat.blt k 12 then (bif Nat.blt k 11 then some (18, .getfield 25, 3, [1, 4, 0], 0) else some (21, .putfield 25, 3, [1, 4, 0], 0)) else (bif Nat.blt k 13 then some (24, .aload_n 0, 1, [0], 0) else (bif Nat.blt k 14 then some (25, .aload_n 1, 1, [1], 0) else some (26, .getfield 28, 3, [1, 5, 1], 0)))) else (bif Nat.blt k 17 then (bif Nat.blt k 16 then some (29, .putfield 28, 3, [1, 5, 1], 0) else some (32, .iconst 0, 1, [], nI 0)) else (bif Nat.blt k 18 then some (33, .istore_n 2, 1, [2], 0) else (bif Nat.blt k 19 then some (34, .iload_n 2, 1, [2], 0) else some (35, .iconst 4, 1, [], nI 4)))))) else (bif Nat.blt k 30 then (bif Nat.blt k 25 then (bif Nat.blt k 22 then (bif Nat.blt k 21 then some (36, .if_icmp .ge 33, 3, [39], 0) else some (39, .aload_n 0, 1, [0], 0)) else (bif Nat.blt k 23 then some (40, .getfield 9, 3, [1, 0, 2], 0) else (bif Nat.blt k 24 then some (43, .iload_n 2, 1, [2], 0) else some (44, .aload_n 1, 1, [1], 0)))) else (bif Nat.blt k 27 then (bif Nat.blt k 26 then some (45, .getfield 9, 3, [1, 0, 2], 0) else some (48, .iload_n 2, 1, [2], 0)) else (bif Nat.blt k 28 then some (49, .iaload, 1, [], 0) else (bif Nat.blt k 29 then some (50, .iastore, 1, [], 0) else some (51, .aload_n 0, 1, [0], 0))))) else (bif Nat.blt k 35 then (bif Nat.blt k 32 then (bif Nat.blt k 31 then some (52, .getfield 15, 3, [1, 1, 2], 0) else some (55, .iload_n 2, 1, [2], 0)) else (bif Nat.blt k 33 then some (56, .aload_n 1, 1, [1], 0) else (bif Nat.blt k 34 then some (57, .getfield 15, 3, [1, 1, 2], 0) else some (60, .iload_n 2, 1, [2], 0)))) else (bif Nat.blt k 37 then (bif Nat.blt k 36 then some (61, .iaload, 1, [], 0) else some (62, .iastore, 1, [], 0)) else (bif Nat.blt k 38 then some (63, .iinc 2 1, 3, [2], nI 1) else (bif Nat.blt k 39 then some (66, .goto (-32), 3, [18], 0) else some (69, .return_, 1, [], 0)))))))
/-- 15: OracleWheel$Moment.spotIn(LOracleWheel$Hill;III)I -/
def m_t15 (k : Nat) : Option ME := (bif Nat.blt k 24 then (bif Nat.blt k 12 then (bif Nat.blt k 6 then (bif Nat.blt k 3 then (bif Nat.blt k 1 then some (0, .aload_n 0, 1, [0], 0) else (bif Nat.blt k 2 then some (1, .getfield 25, 3, [1, 4, 0], 0) else some (4, .iload 4, 2, [4], 0))) else (bif Nat.blt k 4 then some (6, .invokestatic 37, 3, [163, 2], 0) else (bif Nat.blt k 5 then some (9, .istore 5, 2, [5], 0) else some (11, .iload_n 3, 1, [3], 0)))) else (bif Nat.blt k 9 then (bif Nat.blt k 7 then some (12, .iconst 1, 1, [], nI 1) else (bif Nat.blt k 8 then some (13, .if_icmp .ge 7, 3, [10], 0) else some (16, .iconst 0, 1, [], nI 0))) else (bif Nat.blt k 10 then some (17, .goto 22, 3, [23], 0) else (bif Nat.blt k 11 then some (20, .aload_n 0, 1, [0], 0) else some (21, .getfield 18, 3, [1, 2, 0], 0))))) else (bif Nat.blt k 18 then (bif Nat.blt k 15 then (bif Nat.blt k 13 then some (24, .iload 4, 2, [4], 0) else (bif Nat.blt k 14 then some (26, .iadd, 1, [], 0) else some (27, .iload_n 3, 1, [3], 0))) else (bif Nat.blt k 16 then some (28, .idiv, 1, [], 0) else (bif Nat.blt k 17 then some (29, .aload_n 0, 1, [0], 0) else some (30, .getfield 18, 3, [1, 2, 0], 0)))) else (bif Nat.blt k 21 then (bif Nat.blt k 19 then some (33, .iload 5, 2, [5], 0) else (bif Nat.blt k 20 then some (35, .iadd, 1, [], 0) else some (36, .iload_n 3, 1, [3], 0))) else (bif Nat.blt k 22 then some (37, .idiv, 1, [], 0) else (bif Nat.blt k 23 then some (38, .isub, 1, [], 0) else some (39, .istore 6, 2, [6], 0)))))) else (bif Nat.blt k 36 then (bif Nat.blt k 30 then (bif Nat.blt k 27 then (bif Nat.blt k 25 then some (41, .aload_n 0, 1, [0], 0) else (bif Nat.blt k 26 then some (42, .getfield 22, 3, [1, 3, 0], 0) else some (45, .iload_n 2, 1, [2], 0))) else (bif Nat.blt k 28 then some (46, .iload 4, 2, [4], 0) else (bif Nat.blt k 29 then some (48, .iload 5, 2, [5], 0) else some (50, .isub, 1, [], 0)))) else (bif Nat.blt k 33 then (bif Nat.blt k 31 then some (51, .imul, 1, [], 0) else (bif Nat.blt k 32 then some (52, .iadd, 1, [], 0) else some (53, .aload_n 1, 1, [1], 0))) else (bif Nat.blt k 34 then some (54, .getfield 43, 3, [0, 10, 0], 0) else (bif Nat.blt k 35 then some (57, .iload 6, 2, [6], 0) else some (59, .imul, 1, [], 0))))) else (bif Nat.blt k 42 then (bif Nat.blt k 39 then (bif Nat.blt k 37 then some (60, .iadd, 1, [], 0) else (bif Nat.blt k 38 then some (61, .istore 7, 2, [7], 0) else some (63, .aload_n 1, 1, [1], 0))) else (bif Nat.blt k 40 then some (64, .getfield 46, 3, [0, 7, 0], 0) else (bif Nat.blt k 41 then some (67, .iconst 1, 1, [], nI 1) else some (68, .if_icmp .ge 7, 3, [44], 0)))) else (bif Nat.blt k 45 then (bif Nat.blt k 43 then some (71, .iconst 0, 1, [], nI 0) else (bif Nat.blt k 44 then some (72, .goto 12, 3, [48], 0) else some (75, .iload 7, 2, [7], 0))) else (bif Nat.blt k 47 then (bif Nat.blt k 46 then some (77, .aload_n 1, 1, [1], 0) else some (78, .getfield 46, 3, [0, 7, 0], 0)) else (bif Nat.blt k 48 then some (81, .invokestatic 49, 3, [161, 2], 0) else some (84, .ireturn, 1, [], 0)))))))
/-- 16: OracleWheel$Moment.uppermost(LOracleWheel$Hill;I)I -/
def m_t16 (k : Nat) : Option ME := (bif Nat.blt k 5 then (bif Nat.blt k 2 then (bif Nat.blt k 1 then some (0, .aload_n 1, 1, [1], 0) else some (1, .aload_n 0, 1, [0], 0)) else (bif Nat.blt k 3 then some (2, .aload_n 1, 1, [1], 0) else (bif Nat.blt k 4 then some (3, .aload_n 1, 1, [1], 0) else some (4, .getfield 52, 3, [0, 8, 0], 0)))) else (bif Nat.blt k 8 then (bif Nat.blt k 6 then some (7, .aload_n 1, 1, [1], 0) else (bif Nat.blt k 7 then some (8, .getfield 55, 3, [0, 9, 0], 0) else some (11, .iload_n 2, 1, [2], 0))) else (bif Nat.blt k 9 then some (12, .invokevirtual 58, 3, [15, 5], 0) else (bif Nat.blt k 10 then some (15, .invokevirtual 62, 3, [8, 2], 0) else some (18, .ireturn, 1, [], 0)))))
/-- 17: OracleWheel$Moment.goOn(LOracleWheel$Hill;I)V -/
def m_t17 (k : Nat) : Option ME := (bif Nat.blt k 22 then (bif Nat.blt k 11 then (bif Nat.blt k 5 then (bif Nat.blt k 2 then (bif Nat.blt k 1 then some (0, .aload_n 0, 1, [0], 0) else some (1, .aload_n 0, 1, [0], 0)) else (bif Nat.blt k 3 then some (2, .aload_n 1, 1, [1], 0) else (bif Nat.blt k 4 then some (3, .aload_n 1, 1, [1], 0) else some (4, .getfield 52, 3, [0, 8, 0], 0)))) else (bif Nat.blt k 8 then (bif Nat.blt k 6 then some (7, .aload_n 1, 1, [1], 0) else (bif Nat.blt k 7 then some (8, .getfield 55, 3, [0, 9, 0], 0) else some (11, .iload_n 2, 1, [2], 0))) else (bif Nat.blt k 9 then some (12, .invokevirtual 58, 3, [15, 5], 0) else (bif Nat.blt k 10 then some (15, .putfield 22, 3, [1, 3, 0], 0) else some (18, .aload_n 0, 1, [0], 0))))) else (bif Nat.blt k 16 then (bif Nat.blt k 13 then (bif Nat.blt k 12 then some (19, .dup, 1, [], 0) else some (20, .getfield 18, 3, [1, 2, 0], 0)) else (bif Nat.blt k 14 then some (23, .iload_n 2, 1, [2], 0) else (bif Nat.blt k 15 then some (24, .iadd, 1, [], 0) else some (25, .putfield 18, 3, [1, 2, 0], 0)))) else (bif Nat.blt k 19 then (bif Nat.blt k 17 then some (28, .aload_n 0, 1, [0], 0) else (bif Nat.blt k 18 then some (29, .iconst 0, 1, [], nI 0) else some (30, .aload_n 0, 1, [0], 0))) else (bif Nat.blt k 20 then some (31, .getfield 25, 3, [1, 4, 0], 0) else (bif Nat.blt k 21 then some (34, .iload_n 2, 1, [2], 0) else some (35, .isub, 1, [], 0)))))) else (bif Nat.blt k 33 then (bif Nat.blt k 27 then (bif Nat.blt k 24 then (bif Nat.blt k 23 then some (36, .invokestatic 66, 3, [162, 2], 0) else some (39, .putfield 25, 3, [1, 4, 0], 0)) else (bif Nat.blt k 25 then some (42, .iconst 0, 1, [], nI 0) else (bif Nat.blt k 26 then some (43, .istore_n 3, 1, [3], 0) else some (44, .iload_n 3, 1, [3], 0)))) else (bif Nat.blt k 30 then (bif Nat.blt k 28 then some (45, .iconst 4, 1, [], nI 4) else (bif Nat.blt k 29 then some (46, .if_icmp .ge 27, 3, [43], 0) else some (49, .aload_n 0, 1, [0], 0))) else (bif Nat.blt k 31 then some (50, .getfield 15, 3, [1, 1, 2], 0) else (bif Nat.blt k 32 then some (53, .iload_n 3, 1, [3], 0) else some (54, .iconst 0, 1, [], nI 0))))) else (bif Nat.blt k 38 then (bif Nat.blt k 35 then (bif Nat.blt k 34 then some (55, .aload_n 0, 1, [0], 0) else some (56, .getfield 15, 3, [1, 1, 2], 0)) else (bif Nat.blt k 36 then some (59, .iload_n 3, 1, [3], 0) else (bif Nat.blt k 37 then some (60, .iaload, 1, [], 0) else some (61, .iload_n 2, 1, [2], 0)))) else (bif Nat.blt k 41 then (bif Nat.blt k 39 then some (62, .isub, 1, [], 0) else (bif Nat.blt k 40 then some (63, .invokestatic 66, 3, [162, 2], 0) else some (66, .iastore, 1, [], 0))) else (bif Nat.blt k 42 then some (67, .iinc 3 1, 3, [3], nI 1) else (bif Nat.blt k 43 then some (70, .goto (-26), 3, [26], 0) else some (73, .return_, 1, [], 0)))))))
/-- 18: OracleWheel$Moment.turnOnePlace(LOracleWheel$Hill;)V -/
def m_t18 (k : Nat) : Option ME := (bif Nat.blt k 4 then (bif Nat.blt k 2 then (bif Nat.blt k 1 then some (0, .aload_n 0, 1, [0], 0) else some (1, .aload_n 1, 1, [1], 0)) else (bif Nat.blt k 3 then some (2, .aload_n 0, 1, [0], 0) else some (3, .getfield 22, 3, [1, 3, 0], 0))) else (bif Nat.blt k 6 then (bif Nat.blt k 5 then some (6, .iconst 1, 1, [], nI 1) else some (7, .iadd, 1, [], 0)) else (bif Nat.blt k 7 then some (8, .invokevirtual 69, 3, [9, 2], 0) else (bif Nat.blt k 8 then some (11, .putfield 22, 3, [1, 3, 0], 0) else some (14, .return_, 1, [], 0)))))
/-- 19: OracleWheel$Moment.isOnTop(I)Z -/
def m_t19 (k : Nat) : Option ME := (bif Nat.blt k 9 then (bif Nat.blt k 4 then (bif Nat.blt k 2 then (bif Nat.blt k 1 then some (0, .iload_n 1, 1, [1], 0) else some (1, .ifCond .lt 30, 3, [17], 0)) else (bif Nat.blt k 3 then some (4, .iload_n 1, 1, [1], 0) else some (5, .iconst 4, 1, [], nI 4))) else (bif Nat.blt k 6 then (bif Nat.blt k 5 then some (6, .if_icmp .ge 25, 3, [17], 0) else some (9, .aload_n 0, 1, [0], 0)) else (bif Nat.blt k 7 then some (10, .getfield 9, 3, [1, 0, 2], 0) else (bif Nat.blt k 8 then some (13, .iload_n 1, 1, [1], 0) else some (14, .iaload, 1, [], 0))))) else (bif Nat.blt k 14 then (bif Nat.blt k 11 then (bif Nat.blt k 10 then some (15, .ifCond .ne 16, 3, [17], 0) else some (18, .aload_n 0, 1, [0], 0)) else (bif Nat.blt k 12 then some (19, .getfield 15, 3, [1, 1, 2], 0) else (bif Nat.blt k 13 then some (22, .iload_n 1, 1, [1], 0) else some (23, .iaload, 1, [], 0)))) else (bif Nat.blt k 16 then (bif Nat.blt k 15 then some (24, .ifCond .ne 7, 3, [17], 0) else some (27, .iconst 1, 1, [], nI 1)) else (bif Nat.blt k 17 then some (28, .goto 4, 3, [18], 0) else (bif Nat.blt k 18 then some (31, .iconst 0, 1, [], nI 0) else some (32, .ireturn, 1, [], 0))))))
/-- 20: OracleWheel$Moment.manyOnTop(LOracleWheel$Hill;)I -/
def m_t20 (k : Nat) : Option ME := (bif Nat.blt k 11 then (bif Nat.blt k 5 then (bif Nat.blt k 2 then (bif Nat.blt k 1 then some (0, .iconst 0, 1, [], nI 0) else some (1, .istore_n 2, 1, [2], 0)) else (bif Nat.blt k 3 then some (2, .iconst 0, 1, [], nI 0) else (bif Nat.blt k 4 then some (3, .istore_n 3, 1, [3], 0) else some (4, .iload_n 3, 1, [3], 0)))) else (bif Nat.blt k 8 then (bif Nat.blt k 6 then some (5, .aload_n 1, 1, [1], 0) else (bif Nat.blt k 7 then some (6, .getfield 72, 3, [0, 13, 0], 0) else some (9, .if_icmp .ge 25, 3, [20], 0))) else (bif Nat.blt k 9 then some (12, .iload_n 2, 1, [2], 0) else (bif Nat.blt k 10 then some (13, .aload_n 0, 1, [0], 0) else some (14, .iload_n 3, 1, [3], 0))))) else (bif Nat.blt k 16 then (bif Nat.blt k 13 then (bif Nat.blt k 12 then some (15, .invokevirtual 75, 3, [19, 2], 0) else some (18, .ifCond .eq 7, 3, [15], 0)) else (bif Nat.blt k 14 then some (21, .iconst 1, 1, [], nI 1) else (bif Nat.blt k 15 then some (22, .goto 4, 3, [16], 0) else some (25, .iconst 0, 1, [], nI 0)))) else (bif Nat.blt k 19 then (bif Nat.blt k 17 then some (26, .iadd, 1, [], 0) else (bif Nat.blt k 18 then some (27, .istore_n 2, 1, [2], 0) else some (28, .iinc 3 1, 3, [3], nI 1))) else (bif Nat.blt k 20 then some (31, .goto (-27), 3, [4], 0) else (bif Nat.blt k 21 then some (34, .iload_n 2, 1, [2], 0) else some (35, .ireturn, 1, [], 0))))))
/-- 21: OracleWheel$Moment.readersOfWishes(LOracleWheel$Hill;)I -/
def m_t21 (k : Nat) : Option ME := (bif Nat.blt k 18 then (bif Nat.blt k 9 then (bif Nat.blt k 4 then (bif Nat.blt k 2 then (bif Nat.blt k 1 then some (0, .iconst 0, 1, [], nI 0) else some (1, .istore_n 2, 1, [2], 0)) else (bif Nat.blt k 3 then some (2, .aload_n 0, 1, [0], 0) else some (3, .aload_n 1, 1, [1], 0))) else (bif Nat.blt k 6 then (bif Nat.blt k 5 then some (4, .iconst 0, 1, [], nI 0) else some (5, .invokevirtual 79, 3, [16, 3], 0)) else (bif Nat.blt k 7 then some (8, .istore_n 3, 1, [3], 0) else (bif Nat.blt k 8 then some (9, .iconst 0, 1, [], nI 0) else some (10, .istore 4, 2, [4], 0))))) else (bif Nat.blt k 13 then (bif Nat.blt k 11 then (bif Nat.blt k 10 then some (12, .iload 4, 2, [4], 0) else some (14, .aload_n 1, 1, [1], 0)) else (bif Nat.blt k 12 then some (15, .getfield 72, 3, [0, 13, 0], 0) else some (18, .if_icmp .ge 43, 3, [34], 0))) else (bif Nat.blt k 15 then (bif Nat.blt k 14 then some (21, .iload 4, 2, [4], 0) else some (23, .iconst 4, 1, [], nI 4)) else (bif Nat.blt k 16 then some (24, .if_icmp .ge 37, 3, [34], 0) else (bif Nat.blt k 17 then some (27, .iload_n 2, 1, [2], 0) else some (28, .aload_n 0, 1, [0], 0)))))) else (bif Nat.blt k 27 then (bif Nat.blt k 22 then (bif Nat.blt k 20 then (bif Nat.blt k 19 then some (29, .iload 4, 2, [4], 0) else some (31, .invokevirtual 75, 3, [19, 2], 0)) else (bif Nat.blt k 21 then some (34, .ifCond .eq 18, 3, [29], 0) else some (37, .aload_n 1, 1, [1], 0))) else (bif Nat.blt k 24 then (bif Nat.blt k 23 then some (38, .getfield 83, 3, [0, 6, 2], 0) else some (41, .iload 4, 2, [4], 0)) else (bif Nat.blt k 25 then some (43, .iaload, 1, [], 0) else (bif Nat.blt k 26 then some (44, .iload_n 3, 1, [3], 0) else some (45, .if_icmp .ne 7, 3, [29], 0))))) else (bif Nat.blt k 31 then (bif Nat.blt k 29 then (bif Nat.blt k 28 then some (48, .iconst 1, 1, [], nI 1) else some (49, .goto 4, 3, [30], 0)) else (bif Nat.blt k 30 then some (52, .iconst 0, 1, [], nI 0) else some (53, .iadd, 1, [], 0))) else (bif Nat.blt k 33 then (bif Nat.blt k 32 then some (54, .istore_n 2, 1, [2], 0) else some (55, .iinc 4 1, 3, [4], nI 1)) else (bif Nat.blt k 34 then some (58, .goto (-46), 3, [9], 0) else (bif Nat.blt k 35 then some (61, .iload_n 2, 1, [2], 0) else some (62, .ireturn, 1, [], 0)))))))
/-- 22: OracleWheel$Moment.hoursToSetOut(LOracleWheel$Hill;II)I -/
def m_t22 (k : Nat) : Option ME := (bif Nat.blt k 15 then (bif Nat.blt k 7 then (bif Nat.blt k 3 then (bif Nat.blt k 1 then some (0, .aload_n 1, 1, [1], 0) else (bif Nat.blt k 2 then some (1, .iload_n 2, 1, [2], 0) else some (2, .invokevirtual 86, 3, [7, 2], 0))) else (bif Nat.blt k 5 then (bif Nat.blt k 4 then some (5, .ifCond .eq 28, 3, [18], 0) else some (8, .aload_n 0, 1, [0], 0)) else (bif Nat.blt k 6 then some (9, .getfield 15, 3, [1, 1, 2], 0) else some (12, .iload_n 2, 1, [2], 0)))) else (bif Nat.blt k 11 then (bif Nat.blt k 9 then (bif Nat.blt k 8 then some (13, .iaload, 1, [], 0) else some (14, .ifCond .gt 19, 3, [18], 0)) else (bif Nat.blt k 10 then some (17, .aload_n 1, 1, [1], 0) else some (18, .iload_n 3, 1, [3], 0))) else (bif Nat.blt k 13 then (bif Nat.blt k 12 then some (19, .aload_n 0, 1, [0], 0) else some (20, .getfield 9, 3, [1, 0, 2], 0)) else (bif Nat.blt k 14 then some (23, .iload_n 2, 1, [2], 0) else some (24, .iaload, 1, [], 0))))) else (bif Nat.blt k 22 then (bif Nat.blt k 18 then (bif Nat.blt k 16 then some (25, .invokevirtual 89, 3, [10, 3], 0) else (bif Nat.blt k 17 then some (28, .bipush (-4), 2, [], (-4)) else some (30, .if_icmp .ne 6, 3, [20], 0))) else (bif Nat.blt k 20 then (bif Nat.blt k 19 then some (33, .bipush (-4), 2, [], (-4)) else some (35, .ireturn, 1, [], 0)) else (bif Nat.blt k 21 then some (36, .aload_n 1, 1, [1], 0) else some (37, .iload_n 3, 1, [3], 0)))) else (bif Nat.blt k 26 then (bif Nat.blt k 24 then (bif Nat.blt k 23 then some (38, .aload_n 0, 1, [0], 0) else some (39, .getfield 18, 3, [1, 2, 0], 0)) else (bif Nat.blt k 25 then some (42, .aload_n 0, 1, [0], 0) else some (43, .aload_n 1, 1, [1], 0))) else (bif Nat.blt k 28 then (bif Nat.blt k 27 then some (44, .iconst 0, 1, [], nI 0) else some (45, .invokevirtual 79, 3, [16, 3], 0)) else (bif Nat.blt k 29 then some (48, .invokevirtual 92, 3, [11, 4], 0) else some (51, .ireturn, 1, [], 0))))))
/-- 23: OracleWheel$Moment.leave(LOracleWheel$Hill;II)V -/
def m_t23 (k : Nat) : Option ME := (bif Nat.blt k 13 then (bif Nat.blt k 6 then (bif Nat.blt k 3 then (bif Nat.blt k 1 then some (0, .aload_n 0, 1, [0], 0) else (bif Nat.blt k 2 then some (1, .aload_n 1, 1, [1], 0) else some (2, .iload_n 2, 1, [2], 0))) else (bif Nat.blt k 4 then some (3, .iload_n 3, 1, [3], 0) else (bif Nat.blt k 5 then some (4, .invokevirtual 96, 3, [22, 4], 0) else some (7, .istore 4, 2, [4], 0)))) else (bif Nat.blt k 9 then (bif Nat.blt k 7 then some (9, .iload 4, 2, [4], 0) else (bif Nat.blt k 8 then some (11, .bipush (-4), 2, [], (-4)) else some (13, .if_icmp .eq 28, 3, [25], 0))) else (bif Nat.blt k 11 then (bif Nat.blt k 10 then some (16, .aload_n 0, 1, [0], 0) else some (17, .getfield 9, 3, [1, 0, 2], 0)) else (bif Nat.blt k 12 then some (20, .iload_n 2, 1, [2], 0) else some (21, .aload_n 1, 1, [1], 0))))) else (bif Nat.blt k 19 then (bif Nat.blt k 16 then (bif Nat.blt k 14 then some (22, .iload_n 3, 1, [3], 0) else (bif Nat.blt k 15 then some (23, .aload_n 0, 1, [0], 0) else some (24, .getfield 9, 3, [1, 0, 2], 0))) else (bif Nat.blt k 17 then some (27, .iload_n 2, 1, [2], 0) else (bif Nat.blt k 18 then some (28, .iaload, 1, [], 0) else some (29, .invokevirtual 89, 3, [10, 3], 0)))) else (bif Nat.blt k 22 then (bif Nat.blt k 20 then some (32, .iastore, 1, [], 0) else (bif Nat.blt k 21 then some (33, .aload_n 0, 1, [0], 0) else some (34, .getfield 15, 3, [1, 1, 2], 0))) else (bif Nat.blt k 24 then (bif Nat.blt k 23 then some (37, .iload_n 2, 1, [2], 0) else some (38, .iload 4, 2, [4], 0)) else (bif Nat.blt k 25 then some (40, .iastore, 1, [], 0) else some (41, .return_, 1, [], 0))))))
/-- 24: OracleWheel$Outlook.<init>()V -/
def m_t24 (k : Nat) : Option ME := (bif Nat.blt k 5 then (bif Nat.blt k 2 then (bif Nat.blt k 1 then some (0, .aload_n 0, 1, [0], 0) else some (1, .invokespecial 3, 3, [900], 0)) else (bif Nat.blt k 3 then some (4, .aload_n 0, 1, [0], 0) else (bif Nat.blt k 4 then some (5, .sipush 576, 3, [], nI 576) else some (8, .newarray .int, 2, [0], 0)))) else (bif Nat.blt k 8 then (bif Nat.blt k 6 then some (10, .putfield 9, 3, [2, 0, 2], 0) else (bif Nat.blt k 7 then some (13, .aload_n 0, 1, [0], 0) else some (14, .sipush 800, 3, [], nI 800))) else (bif Nat.blt k 9 then some (17, .newarray .int, 2, [0], 0) else (bif Nat.blt k 10 then some (19, .putfield 15, 3, [2, 1, 2], 0) else some (22, .return_, 1, [], 0)))))
/-- 25: OracleWheel$Outlook.look(LOracleWheel$Hill;LOracleWheel$Moment;I)V -/
def m_t25 (k : Nat) : Option ME := (bif Nat.blt k 10 then (bif Nat.blt k 5 then (bif Nat.blt k 2 then (bif Nat.blt k 1 then some (0, .iconst 0, 1, [], nI 0) else some (1, .istore 4, 2, [4], 0)) else (bif Nat.blt k 3 then some (3, .iload 4, 2, [4], 0) else (bif Nat.blt k 4 then some (5, .iload_n 3, 1, [3], 0) else some (6, .if_icmp .gt 33, 3, [20], 0)))) else (bif Nat.blt k 7 then (bif Nat.blt k 6 then some (9, .iload 4, 2, [4], 0) else some (11, .aload_n 0, 1, [0], 0)) else (bif Nat.blt k 8 then some (12, .getfield 9, 3, [2, 0, 2], 0) else (bif Nat.blt k 9 then some (15, .arraylength, 1, [], 0) else some (16, .if_icmp .ge 23, 3, [20], 0))))) else (bif Nat.blt k 15 then (bif Nat.blt k 12 then (bif Nat.blt k 11 then some (19, .aload_n 0, 1, [0], 0) else some (20, .getfield 9, 3, [2, 0, 2], 0)) else (bif Nat.blt k 13 then some (23, .iload 4, 2, [4], 0) else (bif Nat.blt k 14 then some (25, .aload_n 2, 1, [2], 0) else some (26, .aload_n 1, 1, [1], 0)))) else (bif Nat.blt k 18 then (bif Nat.blt k 16 then some (27, .iload 4, 2, [4], 0) else (bif Nat.blt k 17 then some (29, .invokevirtual 18, 3, [16, 3], 0) else some (32, .iastore, 1, [], 0))) else (bif Nat.blt k 19 then some (33, .iinc 4 1, 3, [4], nI 1) else (bif Nat.blt k 20 then some (36, .goto (-33), 3, [2], 0) else some (39, .return_, 1, [], 0))))))
/-- 26: OracleWheel$Outlook.comesAgainBehind(I)Z -/
def m_t26 (k : Nat) : Option ME := (bif Nat.blt k 10 then (bif Nat.blt k 5 then (bif Nat.blt k 2 then (bif Nat.blt k 1 then some (0, .iconst 0, 1, [], nI 0) else some (1, .istore_n 2, 1, [2], 0)) else (bif Nat.blt k 3 then some (2, .iload_n 2, 1, [2], 0) else (bif Nat.blt k 4 then some (3, .sipush 288, 3, [], nI 288) else some (6, .if_icmp .ge 26, 3, [18], 0)))) else (bif Nat.blt k 7 then (bif Nat.blt k 6 then some (9, .aload_n 0, 1, [0], 0) else some (10, .iload_n 2, 1, [2], 0)) else (bif Nat.blt k 8 then some (11, .invokevirtual 24, 3, [27, 2], 0) else (bif Nat.blt k 9 then some (14, .aload_n 0, 1, [0], 0) else some (15, .iload_n 1, 1, [1], 0))))) else (bif Nat.blt k 15 then (bif Nat.blt k 12 then (bif Nat.blt k 11 then some (16, .iload_n 2, 1, [2], 0) else some (17, .iadd, 1, [], 0)) else (bif Nat.blt k 13 then some (18, .invokevirtual 24, 3, [27, 2], 0) else (bif Nat.blt k 14 then some (21, .if_icmp .eq 5, 3, [16], 0) else some (24, .iconst 0, 1, [], nI 0)))) else (bif Nat.blt k 17 then (bif Nat.blt k 16 then some (25, .ireturn, 1, [], 0) else some (26, .iinc 2 1, 3, [2], nI 1)) else (bif Nat.blt k 18 then some (29, .goto (-27), 3, [2], 0) else (bif Nat.blt k 19 then some (32, .iconst 1, 1, [], nI 1) else some (33, .ireturn, 1, [], 0))))))
/-- 27: OracleWheel$Outlook.wordIn(I)I -/
def m_t27 (k : Nat) : Option ME := (bif Nat.blt k 7 then (bif Nat.blt k 3 then (bif Nat.blt k 1 then some (0, .iload_n 1, 1, [1], 0) else (bif Nat.blt k 2 then some (1, .ifCond .lt 21, 3, [12], 0) else some (4, .iload_n 1, 1, [1], 0))) else (bif Nat.blt k 5 then (bif Nat.blt k 4 then some (5, .aload_n 0, 1, [0], 0) else some (6, .getfield 9, 3, [2, 0, 2], 0)) else (bif Nat.blt k 6 then some (9, .arraylength, 1, [], 0) else some (10, .if_icmp .ge 12, 3, [12], 0)))) else (bif Nat.blt k 10 then (bif Nat.blt k 8 then some (13, .aload_n 0, 1, [0], 0) else (bif Nat.blt k 9 then some (14, .getfield 9, 3, [2, 0, 2], 0) else some (17, .iload_n 1, 1, [1], 0))) else (bif Nat.blt k 12 then (bif Nat.blt k 11 then some (18, .iaload, 1, [], 0) else some (19, .goto 5, 3, [13], 0)) else (bif Nat.blt k 13 then some (22, .bipush (-4), 2, [], (-4)) else some (24, .ireturn, 1, [], 0)))))
/-- 28: OracleWheel$Outlook.soonestWord(II)I -/
def m_t28 (k : Nat) : Option ME := (bif Nat.blt k 10 then (bif Nat.blt k 5 then (bif Nat.blt k 2 then (bif Nat.blt k 1 then some (0, .iload_n 2, 1, [2], 0) else some (1, .bipush (-4), 2, [], (-4))) else (bif Nat.blt k 3 then some (3, .if_icmp .ne 6, 3, [5], 0) else (bif Nat.blt k 4 then some (6, .bipush (-4), 2, [], (-4)) else some (8, .ireturn, 1, [], 0)))) else (bif Nat.blt k 7 then (bif Nat.blt k 6 then some (9, .iload_n 2, 1, [2], 0) else some (10, .istore_n 3, 1, [3], 0)) else (bif Nat.blt k 8 then some (11, .iload_n 3, 1, [3], 0) else (bif Nat.blt k 9 then some (12, .bipush 99, 2, [], nI 99) else some (14, .if_icmp .gt 20, 3, [19], 0))))) else (bif Nat.blt k 15 then (bif Nat.blt k 12 then (bif Nat.blt k 11 then some (17, .aload_n 0, 1, [0], 0) else some (18, .iload_n 3, 1, [3], 0)) else (bif Nat.blt k 13 then some (19, .invokevirtual 24, 3, [27, 2], 0) else (bif Nat.blt k 14 then some (22, .iload_n 1, 1, [1], 0) else some (23, .if_icmp .ne 5, 3, [17], 0)))) else (bif Nat.blt k 18 then (bif Nat.blt k 16 then some (26, .iload_n 3, 1, [3], 0) else (bif Nat.blt k 17 then some (27, .ireturn, 1, [], 0) else some (28, .iinc 3 1, 3, [3], nI 1))) else (bif Nat.blt k 19 then some (31, .goto (-20), 3, [7], 0) else (bif Nat.blt k 20 then some (34, .bipush (-4), 2, [], (-4)) else some (36, .ireturn, 1, [], 0))))))
/-- 29: OracleWheel$Outlook.prepare(LOracleWheel$Hill;LOracleWheel$Moment;)V -/
def m_t29 (k : Nat) : Option ME := (bif Nat.blt k 10 then (bif Nat.blt k 5 then (bif Nat.blt k 2 then (bif Nat.blt k 1 then some (0, .aload_n 0, 1, [0], 0) else some (1, .aload_n 1, 1, [1], 0)) else (bif Nat.blt k 3 then some (2, .aload_n 2, 1, [2], 0) else (bif Nat.blt k 4 then some (3, .bipush 99, 2, [], nI 99) else some (5, .invokevirtual 28, 3, [25, 4], 0)))) else (bif Nat.blt k 7 then (bif Nat.blt k 6 then some (8, .iconst 0, 1, [], nI 0) else some (9, .istore_n 3, 1, [3], 0)) else (bif Nat.blt k 8 then some (10, .iload_n 3, 1, [3], 0) else (bif Nat.blt k 9 then some (11, .aload_n 0, 1, [0], 0) else some (12, .getfield 15, 3, [2, 1, 2], 0))))) else (bif Nat.blt k 15 then (bif Nat.blt k 12 then (bif Nat.blt k 11 then some (15, .arraylength, 1, [], 0) else some (16, .if_icmp .ge 16, 3, [19], 0)) else (bif Nat.blt k 13 then some (19, .aload_n 0, 1, [0], 0) else (bif Nat.blt k 14 then some (20, .getfield 15, 3, [2, 1, 2], 0) else some (23, .iload_n 3, 1, [3], 0)))) else (bif Nat.blt k 17 then (bif Nat.blt k 16 then some (24, .iconst 0, 1, [], nI 0) else some (25, .iastore, 1, [], 0)) else (bif Nat.blt k 18 then some (26, .iinc 3 1, 3, [3], nI 1) else (bif Nat.blt k 19 then some (29, .goto (-19), 3, [7], 0) else some (32, .return_, 1, [], 0))))))
/-- 30: OracleWheel$Outlook.mark(III)V -/
def m_t30 (k : Nat) : Option ME := (bif Nat.blt k 11 then (bif Nat.blt k 5 then (bif Nat.blt k 2 then (bif Nat.blt k 1 then some (0, .iload_n 1, 1, [1], 0) else some (1, .ifCond .lt 34, 3, [22], 0)) else (bif Nat.blt k 3 then some (4, .iload_n 1, 1, [1], 0) else (bif Nat.blt k 4 then some (5, .bipush 99, 2, [], nI 99) else some (7, .if_icmp .gt 28, 3, [22], 0)))) else (bif Nat.blt k 8 then (bif Nat.blt k 6 then some (10, .iload_n 2, 1, [2], 0) else (bif Nat.blt k 7 then some (11, .ifCond .lt 24, 3, [22], 0) else some (14, .iload_n 2, 1, [2], 0))) else (bif Nat.blt k 9 then some (15, .bipush 8, 2, [], nI 8) else (bif Nat.blt k 10 then some (17, .if_icmp .ge 18, 3, [22], 0) else some (20, .aload_n 0, 1, [0], 0))))) else (bif Nat.blt k 17 then (bif Nat.blt k 14 then (bif Nat.blt k 12 then some (21, .getfield 15, 3, [2, 1, 2], 0) else (bif Nat.blt k 13 then some (24, .iload_n 1, 1, [1], 0) else some (25, .bipush 8, 2, [], nI 8))) else (bif Nat.blt k 15 then some (27, .imul, 1, [], 0) else (bif Nat.blt k 16 then some (28, .iload_n 2, 1, [2], 0) else some (29, .iadd, 1, [], 0)))) else (bif Nat.blt k 20 then (bif Nat.blt k 18 then some (30, .dup2, 1, [], 0) else (bif Nat.blt k 19 then some (31, .iaload, 1, [], 0) else some (32, .iload_n 3, 1, [3], 0))) else (bif Nat.blt k 21 then some (33, .ior, 1, [], 0) else (bif Nat.blt k 22 then some (34, .iastore, 1, [], 0) else some (35, .return_, 1, [], 0))))))
/-- 31: OracleWheel$Outlook.whoIsAt(II)I -/
def m_t31 (k : Nat) : Option ME := (bif Nat.blt k 10 then (bif Nat.blt k 5 then (bif Nat.blt k 2 then (bif Nat.blt k 1 then some (0, .iload_n 1, 1, [1], 0) else some (1, .ifCond .lt 19, 3, [10], 0)) else (bif Nat.blt k 3 then some (4, .iload_n 1, 1, [1], 0) else (bif Nat.blt k 4 then some (5, .bipush 99, 2, [], nI 99) else some (7, .if_icmp .gt 13, 3, [10], 0)))) else (bif Nat.blt k 7 then (bif Nat.blt k 6 then some (10, .iload_n 2, 1, [2], 0) else some (11, .ifCond .lt 9, 3, [10], 0)) else (bif Nat.blt k 8 then some (14, .iload_n 2, 1, [2], 0) else (bif Nat.blt k 9 then some (15, .bipush 8, 2, [], nI 8) else some (17, .if_icmp .lt 5, 3, [12], 0))))) else (bif Nat.blt k 15 then (bif Nat.blt k 12 then (bif Nat.blt k 11 then some (20, .iconst 0, 1, [], nI 0) else some (21, .ireturn, 1, [], 0)) else (bif Nat.blt k 13 then some (22, .aload_n 0, 1, [0], 0) else (bif Nat.blt k 14 then some (23, .getfield 15, 3, [2, 1, 2], 0) else some (26, .iload_n 1, 1, [1], 0)))) else (bif Nat.blt k 18 then (bif Nat.blt k 16 then some (27, .bipush 8, 2, [], nI 8) else (bif Nat.blt k 17 then some (29, .imul, 1, [], 0) else some (30, .iload_n 2, 1, [2], 0))) else (bif Nat.blt k 19 then some (31, .iadd, 1, [], 0) else (bif Nat.blt k 20 then some (32, .iaload, 1, [], 0) else some (33, .ireturn, 1, [], 0))))))
/-- 32: OracleWheel$Outlook.spread(LOracleWheel$Hill;I)V -/
def m_t32 (k : Nat) : Option ME := (bif Nat.blt k 18 then (bif Nat.blt k 9 then (bif Nat.blt k 4 then (bif Nat.blt k 2 then (bif Nat.blt k 1 then some (0, .iconst 0, 1, [], nI 0) else some (1, .istore_n 3, 1, [3], 0)) else (bif Nat.blt k 3 then some (2, .iload_n 3, 1, [3], 0) else some (3, .bipush 99, 2, [], nI 99))) else (bif Nat.blt k 6 then (bif Nat.blt k 5 then some (5, .if_icmp .gt 61, 3, [35], 0) else some (8, .iconst 0, 1, [], nI 0)) else (bif Nat.blt k 7 then some (9, .istore 4, 2, [4], 0) else (bif Nat.blt k 8 then some (11, .iload 4, 2, [4], 0) else some (13, .aload_n 1, 1, [1], 0))))) else (bif Nat.blt k 13 then (bif Nat.blt k 11 then (bif Nat.blt k 10 then some (14, .getfield 32, 3, [0, 11, 0], 0) else some (17, .if_icmp .ge 43, 3, [33], 0)) else (bif Nat.blt k 12 then some (20, .aload_n 0, 1, [0], 0) else some (21, .iload_n 3, 1, [3], 0))) else (bif Nat.blt k 15 then (bif Nat.blt k 14 then some (22, .iload 4, 2, [4], 0) else some (24, .invokevirtual 38, 3, [31, 3], 0)) else (bif Nat.blt k 16 then some (27, .istore 5, 2, [5], 0) else (bif Nat.blt k 17 then some (29, .iload 5, 2, [5], 0) else some (31, .ifCond .eq 23, 3, [31], 0)))))) else (bif Nat.blt k 27 then (bif Nat.blt k 22 then (bif Nat.blt k 20 then (bif Nat.blt k 19 then some (34, .aload_n 0, 1, [0], 0) else some (35, .iload_n 3, 1, [3], 0)) else (bif Nat.blt k 21 then some (36, .iconst 1, 1, [], nI 1) else some (37, .iadd, 1, [], 0))) else (bif Nat.blt k 24 then (bif Nat.blt k 23 then some (38, .iload 4, 2, [4], 0) else some (40, .iload 5, 2, [5], 0)) else (bif Nat.blt k 25 then some (42, .invokevirtual 42, 3, [30, 4], 0) else (bif Nat.blt k 26 then some (45, .aload_n 0, 1, [0], 0) else some (46, .aload_n 1, 1, [1], 0))))) else (bif Nat.blt k 31 then (bif Nat.blt k 29 then (bif Nat.blt k 28 then some (47, .iload_n 2, 1, [2], 0) else some (48, .iload_n 3, 1, [3], 0)) else (bif Nat.blt k 30 then some (49, .iload 4, 2, [4], 0) else some (51, .invokevirtual 46, 3, [33, 5], 0))) else (bif Nat.blt k 33 then (bif Nat.blt k 32 then some (54, .iinc 4 1, 3, [4], nI 1) else some (57, .goto (-46), 3, [7], 0)) else (bif Nat.blt k 34 then some (60, .iinc 3 1, 3, [3], nI 1) else (bif Nat.blt k 35 then some (63, .goto (-61), 3, [2], 0) else some (66, .return_, 1, [], 0)))))))
/-- 33: OracleWheel$Outlook.spreadByWays(LOracleWheel$Hill;III)V -/
def m_t33 (k : Nat) : Option ME := (bif Nat.blt k 22 then (bif Nat.blt k 11 then (bif Nat.blt k 5 then (bif Nat.blt k 2 then (bif Nat.blt k 1 then some (0, .aload_n 0, 1, [0], 0) else some (1, .iload_n 3, 1, [3], 0)) else (bif Nat.blt k 3 then some (2, .iload 4, 2, [4], 0) else (bif Nat.blt k 4 then some (4, .invokevirtual 38, 3, [31, 3], 0) else some (7, .istore 5, 2, [5], 0)))) else (bif Nat.blt k 8 then (bif Nat.blt k 6 then some (9, .iconst 0, 1, [], nI 0) else (bif Nat.blt k 7 then some (10, .istore 6, 2, [6], 0) else some (12, .iload 6, 2, [6], 0))) else (bif Nat.blt k 9 then some (14, .aload_n 1, 1, [1], 0) else (bif Nat.blt k 10 then some (15, .getfield 50, 3, [0, 12, 0], 0) else some (18, .if_icmp .ge 66, 3, [43], 0))))) else (bif Nat.blt k 16 then (bif Nat.blt k 13 then (bif Nat.blt k 12 then some (21, .aload_n 1, 1, [1], 0) else some (22, .iload 6, 2, [6], 0)) else (bif Nat.blt k 14 then some (24, .iload 4, 2, [4], 0) else (bif Nat.blt k 15 then some (26, .invokevirtual 53, 3, [10, 3], 0) else some (29, .istore 7, 2, [7], 0)))) else (bif Nat.blt k 19 then (bif Nat.blt k 17 then some (31, .iload 7, 2, [7], 0) else (bif Nat.blt k 18 then some (33, .bipush (-4), 2, [], (-4)) else some (35, .if_icmp .ne 8, 3, [21], 0))) else (bif Nat.blt k 20 then some (38, .bipush (-4), 2, [], (-4)) else (bif Nat.blt k 21 then some (40, .goto 17, 3, [30], 0) else some (43, .aload_n 1, 1, [1], 0)))))) else (bif Nat.blt k 33 then (bif Nat.blt k 27 then (bif Nat.blt k 24 then (bif Nat.blt k 23 then some (44, .iload 6, 2, [6], 0) else some (46, .iload_n 2, 1, [2], 0)) else (bif Nat.blt k 25 then some (47, .iload_n 3, 1, [3], 0) else (bif Nat.blt k 26 then some (48, .iadd, 1, [], 0) else some (49, .aload_n 0, 1, [0], 0)))) else (bif Nat.blt k 30 then (bif Nat.blt k 28 then some (50, .iload_n 3, 1, [3], 0) else (bif Nat.blt k 29 then some (51, .invokevirtual 24, 3, [27, 2], 0) else some (54, .invokevirtual 56, 3, [11, 4], 0))) else (bif Nat.blt k 31 then some (57, .istore 8, 2, [8], 0) else (bif Nat.blt k 32 then some (59, .iload 8, 2, [8], 0) else some (61, .bipush (-4), 2, [], (-4)))))) else (bif Nat.blt k 38 then (bif Nat.blt k 35 then (bif Nat.blt k 34 then some (63, .if_icmp .eq 15, 3, [41], 0) else some (66, .aload_n 0, 1, [0], 0)) else (bif Nat.blt k 36 then some (67, .iload_n 3, 1, [3], 0) else (bif Nat.blt k 37 then some (68, .iload 8, 2, [8], 0) else some (70, .iadd, 1, [], 0)))) else (bif Nat.blt k 41 then (bif Nat.blt k 39 then some (71, .iload 7, 2, [7], 0) else (bif Nat.blt k 40 then some (73, .iload 5, 2, [5], 0) else some (75, .invokevirtual 42, 3, [30, 4], 0))) else (bif Nat.blt k 42 then some (78, .iinc 6 1, 3, [6], nI 1) else (bif Nat.blt k 43 then some (81, .goto (-69), 3, [7], 0) else some (84, .return_, 1, [], 0)))))))
/-- 34: OracleWheel$Outlook.onTop(I)I -/
def m_t34 (k : Nat) : Option ME := (bif Nat.blt k 2 then (bif Nat.blt k 1 then some (0, .aload_n 0, 1, [0], 0) else some (1, .iload_n 1, 1, [1], 0)) else (bif Nat.blt k 3 then some (2, .iconst 0, 1, [], nI 0) else (bif Nat.blt k 4 then some (3, .invokevirtual 38, 3, [31, 3], 0) else some (6, .ireturn, 1, [], 0))))
/-- 35: OracleWheel$Outlook.soonestTopOfAny()I -/
def m_t35 (k : Nat) : Option ME := (bif Nat.blt k 7 then (bif Nat.blt k 3 then (bif Nat.blt k 1 then some (0, .iconst 0, 1, [], nI 0) else (bif Nat.blt k 2 then some (1, .istore_n 1, 1, [1], 0) else some (2, .iload_n 1, 1, [1], 0))) else (bif Nat.blt k 5 then (bif Nat.blt k 4 then some (3, .bipush 99, 2, [], nI 99) else some (5, .if_icmp .gt 19, 3, [13], 0)) else (bif Nat.blt k 6 then some (8, .aload_n 0, 1, [0], 0) else some (9, .iload_n 1, 1, [1], 0)))) else (bif Nat.blt k 11 then (bif Nat.blt k 9 then (bif Nat.blt k 8 then some (10, .invokevirtual 60, 3, [34, 2], 0) else some (13, .ifCond .eq 5, 3, [11], 0)) else (bif Nat.blt k 10 then some (16, .iload_n 1, 1, [1], 0) else some (17, .ireturn, 1, [], 0))) else (bif Nat.blt k 13 then (bif Nat.blt k 12 then some (18, .iinc 1 1, 3, [1], nI 1) else some (21, .goto (-19), 3, [2], 0)) else (bif Nat.blt k 14 then some (24, .bipush (-4), 2, [], (-4)) else some (26, .ireturn, 1, [], 0)))))
/-- 36: OracleWheel$Scribe.<init>(LOracleWheel$Text;)V -/
def m_t36 (k : Nat) : Option ME := (bif Nat.blt k 5 then (bif Nat.blt k 2 then (bif Nat.blt k 1 then some (0, .aload_n 0, 1, [0], 0) else some (1, .invokespecial 3, 3, [900], 0)) else (bif Nat.blt k 3 then some (4, .aload_n 0, 1, [0], 0) else (bif Nat.blt k 4 then some (5, .iconst 4, 1, [], nI 4) else some (6, .newarray .int, 2, [0], 0)))) else (bif Nat.blt k 7 then (bif Nat.blt k 6 then some (8, .putfield 9, 3, [3, 0, 2], 0) else some (11, .aload_n 0, 1, [0], 0)) else (bif Nat.blt k 8 then some (12, .aload_n 1, 1, [1], 0) else (bif Nat.blt k 9 then some (13, .putfield 15, 3, [3, 1, 2], 0) else some (16, .return_, 1, [], 0)))))
/-- 37: OracleWheel$Scribe.copyOut(LOracleWheel$Hill;)I -/
def m_t37 (k : Nat) : Option ME := (bif Nat.blt k 22 then (bif Nat.blt k 11 then (bif Nat.blt k 5 then (bif Nat.blt k 2 then (bif Nat.blt k 1 then some (0, .aload_n 0, 1, [0], 0) else some (1, .iconst 0, 1, [], nI 0)) else (bif Nat.blt k 3 then some (2, .putfield 19, 3, [3, 2, 0], 0) else (bif Nat.blt k 4 then some (5, .aload_n 1, 1, [1], 0) else some (6, .invokevirtual 23, 3, [1, 1], 0)))) else (bif Nat.blt k 8 then (bif Nat.blt k 6 then some (9, .iconst 0, 1, [], nI 0) else (bif Nat.blt k 7 then some (10, .istore_n 2, 1, [2], 0) else some (11, .iload_n 2, 1, [2], 0))) else (bif Nat.blt k 9 then some (12, .sipush 200, 3, [], nI 200) else (bif Nat.blt k 10 then some (15, .if_icmp .ge 66, 3, [42], 0) else some (18, .aload_n 0, 1, [0], 0))))) else (bif Nat.blt k 16 then (bif Nat.blt k 13 then (bif Nat.blt k 12 then some (19, .getfield 19, 3, [3, 2, 0], 0) else some (22, .aload_n 0, 1, [0], 0)) else (bif Nat.blt k 14 then some (23, .getfield 15, 3, [3, 1, 2], 0) else (bif Nat.blt k 15 then some (26, .getfield 28, 3, [6, 1, 0], 0) else some (29, .if_icmp .ge 52, 3, [42], 0)))) else (bif Nat.blt k 19 then (bif Nat.blt k 17 then some (32, .aload_n 0, 1, [0], 0) else (bif Nat.blt k 18 then some (33, .getfield 19, 3, [3, 2, 0], 0) else some (36, .istore_n 3, 1, [3], 0))) else (bif Nat.blt k 20 then some (37, .aload_n 0, 1, [0], 0) else (bif Nat.blt k 21 then some (38, .getfield 15, 3, [3, 1, 2], 0) else some (41, .iload_n 3, 1, [3], 0)))))) else (bif Nat.blt k 33 then (bif Nat.blt k 27 then (bif Nat.blt k 24 then (bif Nat.blt k 23 then some (42, .invokevirtual 33, 3, [57, 2], 0) else some (45, .istore 4, 2, [4], 0)) else (bif Nat.blt k 25 then some (47, .aload_n 0, 1, [0], 0) else (bif Nat.blt k 26 then some (48, .iload_n 3, 1, [3], 0) else some (49, .iconst 1, 1, [], nI 1)))) else (bif Nat.blt k 30 then (bif Nat.blt k 28 then some (50, .iadd, 1, [], 0) else (bif Nat.blt k 29 then some (51, .putfield 19, 3, [3, 2, 0], 0) else some (54, .aload_n 0, 1, [0], 0))) else (bif Nat.blt k 31 then some (55, .iload 4, 2, [4], 0) else (bif Nat.blt k 32 then some (57, .aload_n 1, 1, [1], 0) else some (58, .invokevirtual 37, 3, [38, 3], 0))))) else (bif Nat.blt k 38 then (bif Nat.blt k 35 then (bif Nat.blt k 34 then some (61, .ifCond .eq 12, 3, [38], 0) else some (64, .aload_n 0, 1, [0], 0)) else (bif Nat.blt k 36 then some (65, .bipush 59, 2, [], nI 59) else (bif Nat.blt k 37 then some (67, .invokevirtual 41, 3, [46, 2], 0) else some (70, .ifCond .ne 5, 3, [40], 0)))) else (bif Nat.blt k 41 then (bif Nat.blt k 39 then some (73, .iload_n 3, 1, [3], 0) else (bif Nat.blt k 40 then some (74, .ireturn, 1, [], 0) else some (75, .iinc 2 1, 3, [2], nI 1))) else (bif Nat.blt k 42 then some (78, .goto (-67), 3, [7], 0) else (bif Nat.blt k 43 then some (81, .bipush (-4), 2, [], (-4)) else some (83, .ireturn, 1, [], 0)))))))
/-- 38: OracleWheel$Scribe.copyItem(CLOracleWheel$Hill;)Z -/
def m_t38 (k : Nat) : Option ME := (bif Nat.blt k 12 then (bif Nat.blt k 6 then (bif Nat.blt k 3 then (bif Nat.blt k 1 then some (0, .iload_n 1, 1, [1], 0) else (bif Nat.blt k 2 then some (1, .lookupswitch 81 #[(97, 75), (104, 63), (114, 51), (115, 57), (119, 69)], 51, [22, 97, 18, 104, 10, 114, 2, 115, 6, 119, 14], 0) else some (52, .aload_n 0, 1, [0], 0))) else (bif Nat.blt k 4 then some (53, .aload_n 2, 1, [2], 0) else (bif Nat.blt k 5 then some (54, .invokevirtual 45, 3, [39, 2], 0) else some (57, .ireturn, 1, [], 0)))) else (bif Nat.blt k 9 then (bif Nat.blt k 7 then some (58, .aload_n 0, 1, [0], 0) else (bif Nat.blt k 8 then some (59, .aload_n 2, 1, [2], 0) else some (60, .invokevirtual 49, 3, [40, 2], 0))) else (bif Nat.blt k 10 then some (63, .ireturn, 1, [], 0) else (bif Nat.blt k 11 then some (64, .aload_n 0, 1, [0], 0) else some (65, .aload_n 2, 1, [2], 0))))) else (bif Nat.blt k 18 then (bif Nat.blt k 15 then (bif Nat.blt k 13 then some (66, .invokevirtual 52, 3, [41, 2], 0) else (bif Nat.blt k 14 then some (69, .ireturn, 1, [], 0) else some (70, .aload_n 0, 1, [0], 0))) else (bif Nat.blt k 16 then some (71, .aload_n 2, 1, [2], 0) else (bif Nat.blt k 17 then some (72, .invokevirtual 55, 3, [42, 2], 0) else some (75, .ireturn, 1, [], 0)))) else (bif Nat.blt k 21 then (bif Nat.blt k 19 then some (76, .aload_n 0, 1, [0], 0) else (bif Nat.blt k 20 then some (77, .aload_n 2, 1, [2], 0) else some (78, .invokevirtual 58, 3, [43, 2], 0))) else (bif Nat.blt k 22 then some (81, .ireturn, 1, [], 0) else (bif Nat.blt k 23 then some (82, .iconst 0, 1, [], nI 0) else some (83, .ireturn, 1, [], 0))))))
/-- 39: OracleWheel$Scribe.copyRing(LOracleWheel$Hill;)Z -/
def m_t39 (k : Nat) : Option ME := (bif Nat.blt k 19 then (bif Nat.blt k 9 then (bif Nat.blt k 4 then (bif Nat.blt k 2 then (bif Nat.blt k 1 then some (0, .aload_n 1, 1, [1], 0) else some (1, .iconst 0, 1, [], nI 0)) else (bif Nat.blt k 3 then some (2, .putfield 61, 3, [0, 7, 0], 0) else some (5, .iconst 0, 1, [], nI 0))) else (bif Nat.blt k 6 then (bif Nat.blt k 5 then some (6, .istore_n 2, 1, [2], 0) else some (7, .iload_n 2, 1, [2], 0)) else (bif Nat.blt k 7 then some (8, .bipush 12, 2, [], nI 12) else (bif Nat.blt k 8 then some (10, .if_icmp .ge 49, 3, [31], 0) else some (13, .ldc 64, 2, [1], 0))))) else (bif Nat.blt k 14 then (bif Nat.blt k 11 then (bif Nat.blt k 10 then some (15, .aload_n 0, 1, [0], 0) else some (16, .getfield 15, 3, [3, 1, 2], 0)) else (bif Nat.blt k 12 then some (19, .aload_n 0, 1, [0], 0) else (bif Nat.blt k 13 then some (20, .getfield 19, 3, [3, 2, 0], 0) else some (23, .invokevirtual 33, 3, [57, 2], 0)))) else (bif Nat.blt k 16 then (bif Nat.blt k 15 then some (26, .invokevirtual 66, 3, [1002, 2], 0) else some (29, .istore_n 3, 1, [3], 0)) else (bif Nat.blt k 17 then some (30, .iload_n 3, 1, [3], 0) else (bif Nat.blt k 18 then some (31, .ifCond .ge 6, 3, [19], 0) else some (34, .goto 25, 3, [31], 0)))))) else (bif Nat.blt k 29 then (bif Nat.blt k 24 then (bif Nat.blt k 21 then (bif Nat.blt k 20 then some (37, .aload_n 1, 1, [1], 0) else some (38, .iload_n 3, 1, [3], 0)) else (bif Nat.blt k 22 then some (39, .invokevirtual 72, 3, [2, 2], 0) else (bif Nat.blt k 23 then some (42, .pop, 1, [], 0) else some (43, .aload_n 0, 1, [0], 0)))) else (bif Nat.blt k 26 then (bif Nat.blt k 25 then some (44, .dup, 1, [], 0) else some (45, .getfield 19, 3, [3, 2, 0], 0)) else (bif Nat.blt k 27 then some (48, .iconst 1, 1, [], nI 1) else (bif Nat.blt k 28 then some (49, .iadd, 1, [], 0) else some (50, .putfield 19, 3, [3, 2, 0], 0))))) else (bif Nat.blt k 34 then (bif Nat.blt k 31 then (bif Nat.blt k 30 then some (53, .iinc 2 1, 3, [2], nI 1) else some (56, .goto (-49), 3, [5], 0)) else (bif Nat.blt k 32 then some (59, .aload_n 1, 1, [1], 0) else (bif Nat.blt k 33 then some (60, .getfield 61, 3, [0, 7, 0], 0) else some (63, .iconst 2, 1, [], nI 2)))) else (bif Nat.blt k 36 then (bif Nat.blt k 35 then some (64, .if_icmp .lt 7, 3, [37], 0) else some (67, .iconst 1, 1, [], nI 1)) else (bif Nat.blt k 37 then some (68, .goto 4, 3, [38], 0) else (bif Nat.blt k 38 then some (71, .iconst 0, 1, [], nI 0) else some (72, .ireturn, 1, [], 0)))))))
/-- 40: OracleWheel$Scribe.copyLaw(LOracleWheel$Hill;)Z -/
def m_t40 (k : Nat) : Option ME := (bif Nat.blt k 26 then (bif Nat.blt k 13 then (bif Nat.blt k 6 then (bif Nat.blt k 3 then (bif Nat.blt k 1 then some (0, .aload_n 0, 1, [0], 0) else (bif Nat.blt k 2 then some (1, .iconst 3, 1, [], nI 3) else some (2, .invokevirtual 76, 3, [44, 2], 0))) else (bif Nat.blt k 4 then some (5, .ifCond .eq 25, 3, [16], 0) else (bif Nat.blt k 5 then some (8, .aload_n 0, 1, [0], 0) else some (9, .getfield 9, 3, [3, 0, 2], 0)))) else (bif Nat.blt k 9 then (bif Nat.blt k 7 then some (12, .iconst 0, 1, [], nI 0) else (bif Nat.blt k 8 then some (13, .iaload, 1, [], 0) else some (14, .bipush 11, 2, [], nI 11))) else (bif Nat.blt k 11 then (bif Nat.blt k 10 then some (16, .if_icmp .gt 14, 3, [16], 0) else some (19, .aload_n 0, 1, [0], 0)) else (bif Nat.blt k 12 then some (20, .getfield 9, 3, [3, 0, 2], 0) else some (23, .iconst 2, 1, [], nI 2))))) else (bif Nat.blt k 19 then (bif Nat.blt k 16 then (bif Nat.blt k 14 then some (24, .iaload, 1, [], 0) else (bif Nat.blt k 15 then some (25, .bipush 11, 2, [], nI 11) else some (27, .if_icmp .le 5, 3, [18], 0))) else (bif Nat.blt k 17 then some (30, .iconst 0, 1, [], nI 0) else (bif Nat.blt k 18 then some (31, .ireturn, 1, [], 0) else some (32, .aload_n 0, 1, [0], 0)))) else (bif Nat.blt k 22 then (bif Nat.blt k 20 then some (33, .getfield 9, 3, [3, 0, 2], 0) else (bif Nat.blt k 21 then some (36, .iconst 1, 1, [], nI 1) else some (37, .iaload, 1, [], 0))) else (bif Nat.blt k 24 then (bif Nat.blt k 23 then some (38, .iconst 1, 1, [], nI 1) else some (39, .if_icmp .lt 14, 3, [30], 0)) else (bif Nat.blt k 25 then some (42, .aload_n 0, 1, [0], 0) else some (43, .getfield 9, 3, [3, 0, 2], 0)))))) else (bif Nat.blt k 39 then (bif Nat.blt k 32 then (bif Nat.blt k 29 then (bif Nat.blt k 27 then some (46, .iconst 1, 1, [], nI 1) else (bif Nat.blt k 28 then some (47, .iaload, 1, [], 0) else some (48, .bipush 24, 2, [], nI 24))) else (bif Nat.blt k 30 then some (50, .if_icmp .le 5, 3, [32], 0) else (bif Nat.blt k 31 then some (53, .iconst 0, 1, [], nI 0) else some (54, .ireturn, 1, [], 0)))) else (bif Nat.blt k 35 then (bif Nat.blt k 33 then some (55, .aload_n 1, 1, [1], 0) else (bif Nat.blt k 34 then some (56, .aload_n 0, 1, [0], 0) else some (57, .getfield 9, 3, [3, 0, 2], 0))) else (bif Nat.blt k 37 then (bif Nat.blt k 36 then some (60, .iconst 0, 1, [], nI 0) else some (61, .iaload, 1, [], 0)) else (bif Nat.blt k 38 then some (62, .putfield 79, 3, [0, 8, 0], 0) else some (65, .aload_n 1, 1, [1], 0))))) else (bif Nat.blt k 45 then (bif Nat.blt k 42 then (bif Nat.blt k 40 then some (66, .aload_n 0, 1, [0], 0) else (bif Nat.blt k 41 then some (67, .getfield 9, 3, [3, 0, 2], 0) else some (70, .iconst 1, 1, [], nI 1))) else (bif Nat.blt k 43 then some (71, .iaload, 1, [], 0) else (bif Nat.blt k 44 then some (72, .putfield 82, 3, [0, 9, 0], 0) else some (75, .aload_n 1, 1, [1], 0)))) else (bif Nat.blt k 48 then (bif Nat.blt k 46 then some (76, .aload_n 0, 1, [0], 0) else (bif Nat.blt k 47 then some (77, .getfield 9, 3, [3, 0, 2], 0) else some (80, .iconst 2, 1, [], nI 2))) else (bif Nat.blt k 50 then (bif Nat.blt k 49 then some (81, .iaload, 1, [], 0) else some (82, .putfield 85, 3, [0, 10, 0], 0)) else (bif Nat.blt k 51 then some (85, .iconst 1, 1, [], nI 1) else some (86, .ireturn, 1, [], 0)))))))
/-- 41: OracleWheel$Scribe.copyPlaces(LOracleWheel$Hill;)Z -/
def m_t41 (k : Nat) : Option ME := (bif Nat.blt k 17 then (bif Nat.blt k 8 then (bif Nat.blt k 4 then (bif Nat.blt k 2 then (bif Nat.blt k 1 then some (0, .aload_n 1, 1, [1], 0) else some (1, .getfield 88, 3, [0, 12, 0], 0)) else (bif Nat.blt k 3 then some (4, .ifCond .gt 18, 3, [10], 0) else some (7, .aload_n 1, 1, [1], 0))) else (bif Nat.blt k 6 then (bif Nat.blt k 5 then some (8, .getfield 91, 3, [0, 13, 0], 0) else some (11, .ifCond .gt 11, 3, [10], 0)) else (bif Nat.blt k 7 then some (14, .aload_n 0, 1, [0], 0) else some (15, .iconst 1, 1, [], nI 1)))) else (bif Nat.blt k 12 then (bif Nat.blt k 10 then (bif Nat.blt k 9 then some (16, .invokevirtual 76, 3, [44, 2], 0) else some (19, .ifCond .ne 5, 3, [12], 0)) else (bif Nat.blt k 11 then some (22, .iconst 0, 1, [], nI 0) else some (23, .ireturn, 1, [], 0))) else (bif Nat.blt k 14 then (bif Nat.blt k 13 then some (24, .aload_n 1, 1, [1], 0) else some (25, .aload_n 0, 1, [0], 0)) else (bif Nat.blt k 15 then some (26, .getfield 9, 3, [3, 0, 2], 0) else (bif Nat.blt k 16 then some (29, .iconst 0, 1, [], nI 0) else some (30, .iaload, 1, [], 0)))))) else (bif Nat.blt k 25 then (bif Nat.blt k 21 then (bif Nat.blt k 19 then (bif Nat.blt k 18 then some (31, .putfield 94, 3, [0, 11, 0], 0) else some (34, .aload_n 0, 1, [0], 0)) else (bif Nat.blt k 20 then some (35, .getfield 9, 3, [3, 0, 2], 0) else some (38, .iconst 0, 1, [], nI 0))) else (bif Nat.blt k 23 then (bif Nat.blt k 22 then some (39, .iaload, 1, [], 0) else some (40, .iconst 1, 1, [], nI 1)) else (bif Nat.blt k 24 then some (41, .if_icmp .lt 18, 3, [32], 0) else some (44, .aload_n 0, 1, [0], 0)))) else (bif Nat.blt k 29 then (bif Nat.blt k 27 then (bif Nat.blt k 26 then some (45, .getfield 9, 3, [3, 0, 2], 0) else some (48, .iconst 0, 1, [], nI 0)) else (bif Nat.blt k 28 then some (49, .iaload, 1, [], 0) else some (50, .bipush 8, 2, [], nI 8))) else (bif Nat.blt k 31 then (bif Nat.blt k 30 then some (52, .if_icmp .gt 7, 3, [32], 0) else some (55, .iconst 1, 1, [], nI 1)) else (bif Nat.blt k 32 then some (56, .goto 4, 3, [33], 0) else (bif Nat.blt k 33 then some (59, .iconst 0, 1, [], nI 0) else some (60, .ireturn, 1, [], 0)))))))
/-- 42: OracleWheel$Scribe.copyWay(LOracleWheel$Hill;)Z -/
def m_t42 (k : Nat) : Option ME := (bif Nat.blt k 34 then (bif Nat.blt k 17 then (bif Nat.blt k 8 then (bif Nat.blt k 4 then (bif Nat.blt k 2 then (bif Nat.blt k 1 then some (0, .aload_n 0, 1, [0], 0) else some (1, .iconst 4, 1, [], nI 4)) else (bif Nat.blt k 3 then some (2, .invokevirtual 76, 3, [44, 2], 0) else some (5, .ifCond .eq 28, 3, [19], 0))) else (bif Nat.blt k 6 then (bif Nat.blt k 5 then some (8, .aload_n 0, 1, [0], 0) else some (9, .getfield 9, 3, [3, 0, 2], 0)) else (bif Nat.blt k 7 then some (12, .iconst 0, 1, [], nI 0) else some (13, .iaload, 1, [], 0)))) else (bif Nat.blt k 12 then (bif Nat.blt k 10 then (bif Nat.blt k 9 then some (14, .iconst 3, 1, [], nI 3) else some (15, .if_icmp .gt 18, 3, [19], 0)) else (bif Nat.blt k 11 then some (18, .aload_n 0, 1, [0], 0) else some (19, .getfield 9, 3, [3, 0, 2], 0))) else (bif Nat.blt k 14 then (bif Nat.blt k 13 then some (22, .iconst 1, 1, [], nI 1) else some (23, .iaload, 1, [], 0)) else (bif Nat.blt k 15 then some (24, .aload_n 0, 1, [0], 0) else (bif Nat.blt k 16 then some (25, .getfield 9, 3, [3, 0, 2], 0) else some (28, .iconst 2, 1, [], nI 2)))))) else (bif Nat.blt k 25 then (bif Nat.blt k 21 then (bif Nat.blt k 19 then (bif Nat.blt k 18 then some (29, .iaload, 1, [], 0) else some (30, .if_icmp .ne 5, 3, [21], 0)) else (bif Nat.blt k 20 then some (33, .iconst 0, 1, [], nI 0) else some (34, .ireturn, 1, [], 0))) else (bif Nat.blt k 23 then (bif Nat.blt k 22 then some (35, .aload_n 1, 1, [1], 0) else some (36, .aload_n 0, 1, [0], 0)) else (bif Nat.blt k 24 then some (37, .getfield 9, 3, [3, 0, 2], 0) else some (40, .iconst 1, 1, [], nI 1)))) else (bif Nat.blt k 29 then (bif Nat.blt k 27 then (bif Nat.blt k 26 then some (41, .iaload, 1, [], 0) else some (42, .invokevirtual 97, 3, [5, 2], 0)) else (bif Nat.blt k 28 then some (45, .ifCond .eq 37, 3, [47], 0) else some (48, .aload_n 1, 1, [1], 0))) else (bif Nat.blt k 31 then (bif Nat.blt k 30 then some (49, .aload_n 0, 1, [0], 0) else some (50, .getfield 9, 3, [3, 0, 2], 0)) else (bif Nat.blt k 32 then some (53, .iconst 2, 1, [], nI 2) else (bif Nat.blt k 33 then some (54, .iaload, 1, [], 0) else some (55, .invokevirtual 97, 3, [5, 2], 0))))))) else (bif Nat.blt k 51 then (bif Nat.blt k 42 then (bif Nat.blt k 38 then (bif Nat.blt k 36 then (bif Nat.blt k 35 then some (58, .ifCond .eq 24, 3, [47], 0) else some (61, .aload_n 0, 1, [0], 0)) else (bif Nat.blt k 37 then some (62, .getfield 9, 3, [3, 0, 2], 0) else some (65, .iconst 3, 1, [], nI 3))) else (bif Nat.blt k 40 then (bif Nat.blt k 39 then some (66, .iaload, 1, [], 0) else some (67, .iconst 1, 1, [], nI 1)) else (bif Nat.blt k 41 then some (68, .if_icmp .lt 14, 3, [47], 0) else some (71, .aload_n 0, 1, [0], 0)))) else (bif Nat.blt k 46 then (bif Nat.blt k 44 then (bif Nat.blt k 43 then some (72, .getfield 9, 3, [3, 0, 2], 0) else some (75, .iconst 3, 1, [], nI 3)) else (bif Nat.blt k 45 then some (76, .iaload, 1, [], 0) else some (77, .bipush 12, 2, [], nI 12))) else (bif Nat.blt k 48 then (bif Nat.blt k 47 then some (79, .if_icmp .le 5, 3, [49], 0) else some (82, .iconst 0, 1, [], nI 0)) else (bif Nat.blt k 49 then some (83, .ireturn, 1, [], 0) else (bif Nat.blt k 50 then some (84, .aload_n 1, 1, [1], 0) else some (85, .aload_n 0, 1, [0], 0)))))) else (bif Nat.blt k 59 then (bif Nat.blt k 55 then (bif Nat.blt k 53 then (bif Nat.blt k 52 then some (86, .getfield 9, 3, [3, 0, 2], 0) else some (89, .iconst 0, 1, [], nI 0)) else (bif Nat.blt k 54 then some (90, .iaload, 1, [], 0) else some (91, .aload_n 0, 1, [0], 0))) else (bif Nat.blt k 57 then (bif Nat.blt k 56 then some (92, .getfield 9, 3, [3, 0, 2], 0) else some (95, .iconst 1, 1, [], nI 1)) else (bif Nat.blt k 58 then some (96, .iaload, 1, [], 0) else some (97, .aload_n 0, 1, [0], 0)))) else (bif Nat.blt k 63 then (bif Nat.blt k 61 then (bif Nat.blt k 60 then some (98, .getfield 9, 3, [3, 0, 2], 0) else some (101, .iconst 2, 1, [], nI 2)) else (bif Nat.blt k 62 then some (102, .iaload, 1, [], 0) else some (103, .aload_n 0, 1, [0], 0))) else (bif Nat.blt k 65 then (bif Nat.blt k 64 then some (104, .getfield 9, 3, [3, 0, 2], 0) else some (107, .iconst 3, 1, [], nI 3)) else (bif Nat.blt k 66 then some (108, .iaload, 1, [], 0) else (bif Nat.blt k 67 then some (109, .invokevirtual 100, 3, [3, 5], 0) else some (112, .ireturn, 1, [], 0))))))))
/-- 43: OracleWheel$Scribe.copyAsker(LOracleWheel$Hill;)Z -/
def m_t43 (k : Nat) : Option ME := (bif Nat.blt k 15 then (bif Nat.blt k 7 then (bif Nat.blt k 3 then (bif Nat.blt k 1 then some (0, .aload_n 0, 1, [0], 0) else (bif Nat.blt k 2 then some (1, .iconst 2, 1, [], nI 2) else some (2, .invokevirtual 76, 3, [44, 2], 0))) else (bif Nat.blt k 5 then (bif Nat.blt k 4 then some (5, .ifCond .eq 28, 3, [17], 0) else some (8, .aload_n 1, 1, [1], 0)) else (bif Nat.blt k 6 then some (9, .aload_n 0, 1, [0], 0) else some (10, .getfield 9, 3, [3, 0, 2], 0)))) else (bif Nat.blt k 11 then (bif Nat.blt k 9 then (bif Nat.blt k 8 then some (13, .iconst 0, 1, [], nI 0) else some (14, .iaload, 1, [], 0)) else (bif Nat.blt k 10 then some (15, .invokevirtual 97, 3, [5, 2], 0) else some (18, .ifCond .eq 15, 3, [17], 0))) else (bif Nat.blt k 13 then (bif Nat.blt k 12 then some (21, .aload_n 0, 1, [0], 0) else some (22, .getfield 9, 3, [3, 0, 2], 0)) else (bif Nat.blt k 14 then some (25, .iconst 1, 1, [], nI 1) else some (26, .iaload, 1, [], 0))))) else (bif Nat.blt k 22 then (bif Nat.blt k 18 then (bif Nat.blt k 16 then some (27, .invokestatic 104, 3, [88, 1], 0) else (bif Nat.blt k 17 then some (30, .ifCond .ne 5, 3, [19], 0) else some (33, .iconst 0, 1, [], nI 0))) else (bif Nat.blt k 20 then (bif Nat.blt k 19 then some (34, .ireturn, 1, [], 0) else some (35, .aload_n 1, 1, [1], 0)) else (bif Nat.blt k 21 then some (36, .aload_n 0, 1, [0], 0) else some (37, .getfield 9, 3, [3, 0, 2], 0)))) else (bif Nat.blt k 26 then (bif Nat.blt k 24 then (bif Nat.blt k 23 then some (40, .iconst 0, 1, [], nI 0) else some (41, .iaload, 1, [], 0)) else (bif Nat.blt k 25 then some (42, .aload_n 0, 1, [0], 0) else some (43, .getfield 9, 3, [3, 0, 2], 0))) else (bif Nat.blt k 28 then (bif Nat.blt k 27 then some (46, .iconst 1, 1, [], nI 1) else some (47, .iaload, 1, [], 0)) else (bif Nat.blt k 29 then some (48, .invokevirtual 107, 3, [4, 3], 0) else some (51, .ireturn, 1, [], 0))))))
/-- 44: OracleWheel$Scribe.takesNumbers(I)Z -/
def m_t44 (k : Nat) : Option ME := (bif Nat.blt k 23 then (bif Nat.blt k 11 then (bif Nat.blt k 5 then (bif Nat.blt k 2 then (bif Nat.blt k 1 then some (0, .iconst 0, 1, [], nI 0) else some (1, .istore_n 2, 1, [2], 0)) else (bif Nat.blt k 3 then some (2, .iload_n 2, 1, [2], 0) else (bif Nat.blt k 4 then some (3, .iload_n 1, 1, [1], 0) else some (4, .if_icmp .ge 77, 3, [45], 0)))) else (bif Nat.blt k 8 then (bif Nat.blt k 6 then some (7, .iload_n 2, 1, [2], 0) else (bif Nat.blt k 7 then some (8, .aload_n 0, 1, [0], 0) else some (9, .getfield 9, 3, [3, 0, 2], 0))) else (bif Nat.blt k 9 then some (12, .arraylength, 1, [], 0) else (bif Nat.blt k 10 then some (13, .if_icmp .ge 68, 3, [45], 0) else some (16, .iload_n 2, 1, [2], 0))))) else (bif Nat.blt k 17 then (bif Nat.blt k 14 then (bif Nat.blt k 12 then some (17, .ifCond .le 12, 3, [16], 0) else (bif Nat.blt k 13 then some (20, .aload_n 0, 1, [0], 0) else some (21, .bipush 44, 2, [], nI 44))) else (bif Nat.blt k 15 then some (23, .invokevirtual 41, 3, [46, 2], 0) else (bif Nat.blt k 16 then some (26, .ifCond .eq 10, 3, [19], 0) else some (29, .aload_n 0, 1, [0], 0)))) else (bif Nat.blt k 20 then (bif Nat.blt k 18 then some (30, .invokevirtual 111, 3, [47, 1], 0) else (bif Nat.blt k 19 then some (33, .ifCond .ne 5, 3, [21], 0) else some (36, .iconst 0, 1, [], nI 0))) else (bif Nat.blt k 21 then some (37, .ireturn, 1, [], 0) else (bif Nat.blt k 22 then some (38, .aload_n 0, 1, [0], 0) else some (39, .getfield 9, 3, [3, 0, 2], 0)))))) else (bif Nat.blt k 35 then (bif Nat.blt k 29 then (bif Nat.blt k 26 then (bif Nat.blt k 24 then some (42, .iload_n 2, 1, [2], 0) else (bif Nat.blt k 25 then some (43, .aload_n 0, 1, [0], 0) else some (44, .invokevirtual 115, 3, [45, 1], 0))) else (bif Nat.blt k 27 then some (47, .iastore, 1, [], 0) else (bif Nat.blt k 28 then some (48, .aload_n 0, 1, [0], 0) else some (49, .invokevirtual 111, 3, [47, 1], 0)))) else (bif Nat.blt k 32 then (bif Nat.blt k 30 then some (52, .ifCond .eq 23, 3, [43], 0) else (bif Nat.blt k 31 then some (55, .aload_n 0, 1, [0], 0) else some (56, .getfield 9, 3, [3, 0, 2], 0))) else (bif Nat.blt k 33 then some (59, .iload_n 2, 1, [2], 0) else (bif Nat.blt k 34 then some (60, .bipush 10, 2, [], nI 10) else some (62, .aload_n 0, 1, [0], 0))))) else (bif Nat.blt k 41 then (bif Nat.blt k 38 then (bif Nat.blt k 36 then some (63, .getfield 9, 3, [3, 0, 2], 0) else (bif Nat.blt k 37 then some (66, .iload_n 2, 1, [2], 0) else some (67, .iaload, 1, [], 0))) else (bif Nat.blt k 39 then some (68, .imul, 1, [], 0) else (bif Nat.blt k 40 then some (69, .aload_n 0, 1, [0], 0) else some (70, .invokevirtual 115, 3, [45, 1], 0)))) else (bif Nat.blt k 44 then (bif Nat.blt k 42 then some (73, .iadd, 1, [], 0) else (bif Nat.blt k 43 then some (74, .iastore, 1, [], 0) else some (75, .iinc 2 1, 3, [2], nI 1))) else (bif Nat.blt k 45 then some (78, .goto (-76), 3, [2], 0) else (bif Nat.blt k 46 then some (81, .iconst 1, 1, [], nI 1) else some (82, .ireturn, 1, [], 0)))))))
/-- 45: OracleWheel$Scribe.takeFigure()I -/
def m_t45 (k : Nat) : Option ME := (bif Nat.blt k 8 then (bif Nat.blt k 4 then (bif Nat.blt k 2 then (bif Nat.blt k 1 then some (0, .aload_n 0, 1, [0], 0) else some (1, .getfield 15, 3, [3, 1, 2], 0)) else (bif Nat.blt k 3 then some (4, .aload_n 0, 1, [0], 0) else some (5, .getfield 19, 3, [3, 2, 0], 0))) else (bif Nat.blt k 6 then (bif Nat.blt k 5 then some (8, .invokevirtual 33, 3, [57, 2], 0) else some (11, .bipush 48, 2, [], nI 48)) else (bif Nat.blt k 7 then some (13, .isub, 1, [], 0) else some (14, .istore_n 1, 1, [1], 0)))) else (bif Nat.blt k 12 then (bif Nat.blt k 10 then (bif Nat.blt k 9 then some (15, .aload_n 0, 1, [0], 0) else some (16, .dup, 1, [], 0)) else (bif Nat.blt k 11 then some (17, .getfield 19, 3, [3, 2, 0], 0) else some (20, .iconst 1, 1, [], nI 1))) else (bif Nat.blt k 14 then (bif Nat.blt k 13 then some (21, .iadd, 1, [], 0) else some (22, .putfield 19, 3, [3, 2, 0], 0)) else (bif Nat.blt k 15 then some (25, .iload_n 1, 1, [1], 0) else some (26, .ireturn, 1, [], 0)))))
/-- 46: OracleWheel$Scribe.takes(C)Z -/
def m_t46 (k : Nat) : Option ME := (bif Nat.blt k 8 then (bif Nat.blt k 4 then (bif Nat.blt k 2 then (bif Nat.blt k 1 then some (0, .aload_n 0, 1, [0], 0) else some (1, .getfield 15, 3, [3, 1, 2], 0)) else (bif Nat.blt k 3 then some (4, .aload_n 0, 1, [0], 0) else some (5, .getfield 19, 3, [3, 2, 0], 0))) else (bif Nat.blt k 6 then (bif Nat.blt k 5 then some (8, .invokevirtual 33, 3, [57, 2], 0) else some (11, .iload_n 1, 1, [1], 0)) else (bif Nat.blt k 7 then some (12, .if_icmp .eq 5, 3, [9], 0) else some (15, .iconst 0, 1, [], nI 0)))) else (bif Nat.blt k 12 then (bif Nat.blt k 10 then (bif Nat.blt k 9 then some (16, .ireturn, 1, [], 0) else some (17, .aload_n 0, 1, [0], 0)) else (bif Nat.blt k 11 then some (18, .dup, 1, [], 0) else some (19, .getfield 19, 3, [3, 2, 0], 0))) else (bif Nat.blt k 14 then (bif Nat.blt k 13 then some (22, .iconst 1, 1, [], nI 1) else some (23, .iadd, 1, [], 0)) else (bif Nat.blt k 15 then some (24, .putfield 19, 3, [3, 2, 0], 0) else (bif Nat.blt k 16 then some (27, .iconst 1, 1, [], nI 1) else some (28, .ireturn, 1, [], 0))))))
/-- 47: OracleWheel$Scribe.isAtFigure()Z -/
def m_t47 (k : Nat) : Option ME := (bif Nat.blt k 8 then (bif Nat.blt k 4 then (bif Nat.blt k 2 then (bif Nat.blt k 1 then some (0, .aload_n 0, 1, [0], 0) else some (1, .getfield 15, 3, [3, 1, 2], 0)) else (bif Nat.blt k 3 then some (4, .aload_n 0, 1, [0], 0) else some (5, .getfield 19, 3, [3, 2, 0], 0))) else (bif Nat.blt k 6 then (bif Nat.blt k 5 then some (8, .invokevirtual 33, 3, [57, 2], 0) else some (11, .istore_n 1, 1, [1], 0)) else (bif Nat.blt k 7 then some (12, .iload_n 1, 1, [1], 0) else some (13, .bipush 48, 2, [], nI 48)))) else (bif Nat.blt k 12 then (bif Nat.blt k 10 then (bif Nat.blt k 9 then some (15, .if_icmp .lt 13, 3, [14], 0) else some (18, .iload_n 1, 1, [1], 0)) else (bif Nat.blt k 11 then some (19, .bipush 57, 2, [], nI 57) else some (21, .if_icmp .gt 7, 3, [14], 0))) else (bif Nat.blt k 14 then (bif Nat.blt k 13 then some (24, .iconst 1, 1, [], nI 1) else some (25, .goto 4, 3, [15], 0)) else (bif Nat.blt k 15 then some (28, .iconst 0, 1, [], nI 0) else some (29, .ireturn, 1, [], 0)))))
/-- 48: OracleWheel$Shelf.<init>(I)V -/
def m_t48 (k : Nat) : Option ME := (bif Nat.blt k 12 then (bif Nat.blt k 6 then (bif Nat.blt k 3 then (bif Nat.blt k 1 then some (0, .aload_n 0, 1, [0], 0) else (bif Nat.blt k 2 then some (1, .invokespecial 1, 3, [900], 0) else some (4, .aload_n 0, 1, [0], 0))) else (bif Nat.blt k 4 then some (5, .iconst 1, 1, [], nI 1) else (bif Nat.blt k 5 then some (6, .iload_n 1, 1, [1], 0) else some (7, .invokestatic 7, 3, [162, 2], 0)))) else (bif Nat.blt k 9 then (bif Nat.blt k 7 then some (10, .anewarray 13, 3, [2], 0) else (bif Nat.blt k 8 then some (13, .putfield 15, 3, [4, 0, 2], 0) else some (16, .iconst 0, 1, [], nI 0))) else (bif Nat.blt k 10 then some (17, .istore_n 2, 1, [2], 0) else (bif Nat.blt k 11 then some (18, .iload_n 2, 1, [2], 0) else some (19, .aload_n 0, 1, [0], 0))))) else (bif Nat.blt k 18 then (bif Nat.blt k 15 then (bif Nat.blt k 13 then some (20, .getfield 15, 3, [4, 0, 2], 0) else (bif Nat.blt k 14 then some (23, .arraylength, 1, [], 0) else some (24, .if_icmp .ge 22, 3, [24], 0))) else (bif Nat.blt k 16 then some (27, .aload_n 0, 1, [0], 0) else (bif Nat.blt k 17 then some (28, .getfield 15, 3, [4, 0, 2], 0) else some (31, .iload_n 2, 1, [2], 0)))) else (bif Nat.blt k 21 then (bif Nat.blt k 19 then some (32, .new 13, 3, [1], 0) else (bif Nat.blt k 20 then some (35, .dup, 1, [], 0) else some (36, .invokespecial 21, 3, [12, 1], 0))) else (bif Nat.blt k 23 then (bif Nat.blt k 22 then some (39, .aastore, 1, [], 0) else some (40, .iinc 2 1, 3, [2], nI 1)) else (bif Nat.blt k 24 then some (43, .goto (-25), 3, [10], 0) else some (46, .return_, 1, [], 0))))))
/-- 49: OracleWheel$Shelf.clear()V -/
def m_t49 (k : Nat) : Option ME := (bif Nat.blt k 2 then (bif Nat.blt k 1 then some (0, .aload_n 0, 1, [0], 0) else some (1, .iconst 0, 1, [], nI 0)) else (bif Nat.blt k 3 then some (2, .putfield 22, 3, [4, 2, 0], 0) else some (5, .return_, 1, [], 0)))
/-- 50: OracleWheel$Shelf.push(LOracleWheel$Moment;)V -/
def m_t50 (k : Nat) : Option ME := (bif Nat.blt k 22 then (bif Nat.blt k 11 then (bif Nat.blt k 5 then (bif Nat.blt k 2 then (bif Nat.blt k 1 then some (0, .aload_n 0, 1, [0], 0) else some (1, .getfield 26, 3, [4, 1, 0], 0)) else (bif Nat.blt k 3 then some (4, .ifCond .lt 15, 3, [9], 0) else (bif Nat.blt k 4 then some (7, .aload_n 0, 1, [0], 0) else some (8, .getfield 26, 3, [4, 1, 0], 0)))) else (bif Nat.blt k 8 then (bif Nat.blt k 6 then some (11, .aload_n 0, 1, [0], 0) else (bif Nat.blt k 7 then some (12, .getfield 15, 3, [4, 0, 2], 0) else some (15, .arraylength, 1, [], 0))) else (bif Nat.blt k 9 then some (16, .if_icmp .lt 4, 3, [10], 0) else (bif Nat.blt k 10 then some (19, .return_, 1, [], 0) else some (20, .aload_n 0, 1, [0], 0))))) else (bif Nat.blt k 16 then (bif Nat.blt k 13 then (bif Nat.blt k 12 then some (21, .getfield 15, 3, [4, 0, 2], 0) else some (24, .aload_n 0, 1, [0], 0)) else (bif Nat.blt k 14 then some (25, .getfield 26, 3, [4, 1, 0], 0) else (bif Nat.blt k 15 then some (28, .aaload, 1, [], 0) else some (29, .aload_n 1, 1, [1], 0)))) else (bif Nat.blt k 19 then (bif Nat.blt k 17 then some (30, .invokevirtual 29, 3, [14, 2], 0) else (bif Nat.blt k 18 then some (33, .aload_n 0, 1, [0], 0) else some (34, .aload_n 0, 1, [0], 0))) else (bif Nat.blt k 20 then some (35, .getfield 26, 3, [4, 1, 0], 0) else (bif Nat.blt k 21 then some (38, .iconst 1, 1, [], nI 1) else some (39, .iadd, 1, [], 0)))))) else (bif Nat.blt k 33 then (bif Nat.blt k 27 then (bif Nat.blt k 24 then (bif Nat.blt k 23 then some (40, .aload_n 0, 1, [0], 0) else some (41, .getfield 15, 3, [4, 0, 2], 0)) else (bif Nat.blt k 25 then some (44, .arraylength, 1, [], 0) else (bif Nat.blt k 26 then some (45, .if_icmp .ge 12, 3, [31], 0) else some (48, .aload_n 0, 1, [0], 0)))) else (bif Nat.blt k 30 then (bif Nat.blt k 28 then some (49, .getfield 26, 3, [4, 1, 0], 0) else (bif Nat.blt k 29 then some (52, .iconst 1, 1, [], nI 1) else some (53, .iadd, 1, [], 0))) else (bif Nat.blt k 31 then some (54, .goto 4, 3, [32], 0) else (bif Nat.blt k 32 then some (57, .iconst 0, 1, [], nI 0) else some (58, .putfield 26, 3, [4, 1, 0], 0))))) else (bif Nat.blt k 38 then (bif Nat.blt k 35 then (bif Nat.blt k 34 then some (61, .aload_n 0, 1, [0], 0) else some (62, .aload_n 0, 1, [0], 0)) else (bif Nat.blt k 36 then some (63, .getfield 22, 3, [4, 2, 0], 0) else (bif Nat.blt k 37 then some (66, .iconst 1, 1, [], nI 1) else some (67, .iadd, 1, [], 0)))) else (bif Nat.blt k 41 then (bif Nat.blt k 39 then some (68, .aload_n 0, 1, [0], 0) else (bif Nat.blt k 40 then some (69, .getfield 15, 3, [4, 0, 2], 0) else some (72, .arraylength, 1, [], 0))) else (bif Nat.blt k 42 then some (73, .invokestatic 33, 3, [163, 2], 0) else (bif Nat.blt k 43 then some (76, .putfield 22, 3, [4, 2, 0], 0) else some (79, .return_, 1, [], 0)))))))
/-- 51: OracleWheel$Shelf.pop(LOracleWheel$Moment;)V -/
def m_t51 (k : Nat) : Option ME := (bif Nat.blt k 20 then (bif Nat.blt k 10 then (bif Nat.blt k 5 then (bif Nat.blt k 2 then (bif Nat.blt k 1 then some (0, .aload_n 0, 1, [0], 0) else some (1, .getfield 26, 3, [4, 1, 0], 0)) else (bif Nat.blt k 3 then some (4, .ifCond .le 12, 3, [8], 0) else (bif Nat.blt k 4 then some (7, .aload_n 0, 1, [0], 0) else some (8, .getfield 26, 3, [4, 1, 0], 0)))) else (bif Nat.blt k 7 then (bif Nat.blt k 6 then some (11, .iconst 1, 1, [], nI 1) else some (12, .isub, 1, [], 0)) else (bif Nat.blt k 8 then some (13, .goto 10, 3, [13], 0) else (bif Nat.blt k 9 then some (16, .aload_n 0, 1, [0], 0) else some (17, .getfield 15, 3, [4, 0, 2], 0))))) else (bif Nat.blt k 15 then (bif Nat.blt k 12 then (bif Nat.blt k 11 then some (20, .arraylength, 1, [], 0) else some (21, .iconst 1, 1, [], nI 1)) else (bif Nat.blt k 13 then some (22, .isub, 1, [], 0) else (bif Nat.blt k 14 then some (23, .istore_n 2, 1, [2], 0) else some (24, .aload_n 0, 1, [0], 0)))) else (bif Nat.blt k 17 then (bif Nat.blt k 16 then some (25, .getfield 22, 3, [4, 2, 0], 0) else some (28, .iconst 1, 1, [], nI 1)) else (bif Nat.blt k 18 then some (29, .if_icmp .lt 12, 3, [23], 0) else (bif Nat.blt k 19 then some (32, .iload_n 2, 1, [2], 0) else some (33, .aload_n 0, 1, [0], 0)))))) else (bif Nat.blt k 30 then (bif Nat.blt k 25 then (bif Nat.blt k 22 then (bif Nat.blt k 21 then some (34, .getfield 15, 3, [4, 0, 2], 0) else some (37, .arraylength, 1, [], 0)) else (bif Nat.blt k 23 then some (38, .if_icmp .lt 4, 3, [24], 0) else (bif Nat.blt k 24 then some (41, .return_, 1, [], 0) else some (42, .aload_n 1, 1, [1], 0)))) else (bif Nat.blt k 27 then (bif Nat.blt k 26 then some (43, .aload_n 0, 1, [0], 0) else some (44, .getfield 15, 3, [4, 0, 2], 0)) else (bif Nat.blt k 28 then some (47, .iload_n 2, 1, [2], 0) else (bif Nat.blt k 29 then some (48, .aaload, 1, [], 0) else some (49, .invokevirtual 29, 3, [14, 2], 0))))) else (bif Nat.blt k 35 then (bif Nat.blt k 32 then (bif Nat.blt k 31 then some (52, .aload_n 0, 1, [0], 0) else some (53, .iload_n 2, 1, [2], 0)) else (bif Nat.blt k 33 then some (54, .putfield 26, 3, [4, 1, 0], 0) else (bif Nat.blt k 34 then some (57, .aload_n 0, 1, [0], 0) else some (58, .dup, 1, [], 0)))) else (bif Nat.blt k 37 then (bif Nat.blt k 36 then some (59, .getfield 22, 3, [4, 2, 0], 0) else some (62, .iconst 1, 1, [], nI 1)) else (bif Nat.blt k 38 then some (63, .isub, 1, [], 0) else (bif Nat.blt k 39 then some (64, .putfield 22, 3, [4, 2, 0], 0) else some (67, .return_, 1, [], 0)))))))
/-- 52: OracleWheel$Sightings.<init>()V -/
def m_t52 (k : Nat) : Option ME := (bif Nat.blt k 5 then (bif Nat.blt k 2 then (bif Nat.blt k 1 then some (0, .aload_n 0, 1, [0], 0) else some (1, .invokespecial 3, 3, [900], 0)) else (bif Nat.blt k 3 then some (4, .aload_n 0, 1, [0], 0) else (bif Nat.blt k 4 then some (5, .bipush 6, 2, [], nI 6) else some (7, .newarray .int, 2, [0], 0)))) else (bif Nat.blt k 8 then (bif Nat.blt k 6 then some (9, .putfield 9, 3, [5, 0, 2], 0) else (bif Nat.blt k 7 then some (12, .aload_n 0, 1, [0], 0) else some (13, .bipush 6, 2, [], nI 6))) else (bif Nat.blt k 9 then some (15, .newarray .int, 2, [0], 0) else (bif Nat.blt k 10 then some (17, .putfield 15, 3, [5, 1, 2], 0) else some (20, .return_, 1, [], 0)))))
/-- 53: OracleWheel$Sightings.add(II)Z -/
def m_t53 (k : Nat) : Option ME := (bif Nat.blt k 14 then (bif Nat.blt k 7 then (bif Nat.blt k 3 then (bif Nat.blt k 1 then some (0, .aload_n 0, 1, [0], 0) else (bif Nat.blt k 2 then some (1, .getfield 18, 3, [5, 2, 0], 0) else some (4, .ifCond .lt 12, 3, [7], 0))) else (bif Nat.blt k 5 then (bif Nat.blt k 4 then some (7, .aload_n 0, 1, [0], 0) else some (8, .getfield 18, 3, [5, 2, 0], 0)) else (bif Nat.blt k 6 then some (11, .bipush 6, 2, [], nI 6) else some (13, .if_icmp .lt 5, 3, [9], 0)))) else (bif Nat.blt k 10 then (bif Nat.blt k 8 then some (16, .iconst 0, 1, [], nI 0) else (bif Nat.blt k 9 then some (17, .ireturn, 1, [], 0) else some (18, .aload_n 0, 1, [0], 0))) else (bif Nat.blt k 12 then (bif Nat.blt k 11 then some (19, .getfield 9, 3, [5, 0, 2], 0) else some (22, .aload_n 0, 1, [0], 0)) else (bif Nat.blt k 13 then some (23, .getfield 18, 3, [5, 2, 0], 0) else some (26, .iload_n 1, 1, [1], 0))))) else (bif Nat.blt k 21 then (bif Nat.blt k 17 then (bif Nat.blt k 15 then some (27, .iastore, 1, [], 0) else (bif Nat.blt k 16 then some (28, .aload_n 0, 1, [0], 0) else some (29, .getfield 15, 3, [5, 1, 2], 0))) else (bif Nat.blt k 19 then (bif Nat.blt k 18 then some (32, .aload_n 0, 1, [0], 0) else some (33, .getfield 18, 3, [5, 2, 0], 0)) else (bif Nat.blt k 20 then some (36, .iload_n 2, 1, [2], 0) else some (37, .iastore, 1, [], 0)))) else (bif Nat.blt k 25 then (bif Nat.blt k 23 then (bif Nat.blt k 22 then some (38, .aload_n 0, 1, [0], 0) else some (39, .dup, 1, [], 0)) else (bif Nat.blt k 24 then some (40, .getfield 18, 3, [5, 2, 0], 0) else some (43, .iconst 1, 1, [], nI 1))) else (bif Nat.blt k 27 then (bif Nat.blt k 26 then some (44, .iadd, 1, [], 0) else some (45, .putfield 18, 3, [5, 2, 0], 0)) else (bif Nat.blt k 28 then some (48, .iconst 1, 1, [], nI 1) else some (49, .ireturn, 1, [], 0))))))
/-- 54: OracleWheel$Sightings.fits(LOracleWheel$Hill;LOracleWheel$Moment;II)Z -/
def m_t54 (k : Nat) : Option ME := (bif Nat.blt k 15 then (bif Nat.blt k 7 then (bif Nat.blt k 3 then (bif Nat.blt k 1 then some (0, .iconst 0, 1, [], nI 0) else (bif Nat.blt k 2 then some (1, .istore 5, 2, [5], 0) else some (3, .iload 5, 2, [5], 0))) else (bif Nat.blt k 5 then (bif Nat.blt k 4 then some (5, .aload_n 0, 1, [0], 0) else some (6, .getfield 18, 3, [5, 2, 0], 0)) else (bif Nat.blt k 6 then some (9, .if_icmp .ge 47, 3, [29], 0) else some (12, .iload 5, 2, [5], 0)))) else (bif Nat.blt k 11 then (bif Nat.blt k 9 then (bif Nat.blt k 8 then some (14, .bipush 6, 2, [], nI 6) else some (16, .if_icmp .ge 40, 3, [29], 0)) else (bif Nat.blt k 10 then some (19, .aload_n 1, 1, [1], 0) else some (20, .aload_n 2, 1, [2], 0))) else (bif Nat.blt k 13 then (bif Nat.blt k 12 then some (21, .aload_n 1, 1, [1], 0) else some (22, .iload_n 3, 1, [3], 0)) else (bif Nat.blt k 14 then some (23, .iload 4, 2, [4], 0) else some (25, .aload_n 0, 1, [0], 0))))) else (bif Nat.blt k 23 then (bif Nat.blt k 19 then (bif Nat.blt k 17 then (bif Nat.blt k 16 then some (26, .getfield 15, 3, [5, 1, 2], 0) else some (29, .iload 5, 2, [5], 0)) else (bif Nat.blt k 18 then some (31, .iaload, 1, [], 0) else some (32, .invokevirtual 22, 3, [15, 5], 0))) else (bif Nat.blt k 21 then (bif Nat.blt k 20 then some (35, .invokevirtual 28, 3, [8, 2], 0) else some (38, .aload_n 0, 1, [0], 0)) else (bif Nat.blt k 22 then some (39, .getfield 9, 3, [5, 0, 2], 0) else some (42, .iload 5, 2, [5], 0)))) else (bif Nat.blt k 27 then (bif Nat.blt k 25 then (bif Nat.blt k 24 then some (44, .iaload, 1, [], 0) else some (45, .if_icmp .eq 5, 3, [27], 0)) else (bif Nat.blt k 26 then some (48, .iconst 0, 1, [], nI 0) else some (49, .ireturn, 1, [], 0))) else (bif Nat.blt k 29 then (bif Nat.blt k 28 then some (50, .iinc 5 1, 3, [5], nI 1) else some (53, .goto (-50), 3, [2], 0)) else (bif Nat.blt k 30 then some (56, .iconst 1, 1, [], nI 1) else some (57, .ireturn, 1, [], 0))))))
/-- 55: OracleWheel$Text.<init>()V -/
def m_t55 (k : Nat) : Option ME := (bif Nat.blt k 3 then (bif Nat.blt k 1 then some (0, .aload_n 0, 1, [0], 0) else (bif Nat.blt k 2 then some (1, .invokespecial 3, 3, [900], 0) else some (4, .aload_n 0, 1, [0], 0))) else (bif Nat.blt k 5 then (bif Nat.blt k 4 then some (5, .sipush 200, 3, [], nI 200) else some (8, .newarray .char, 2, [1], 0)) else (bif Nat.blt k 6 then some (10, .putfield 9, 3, [6, 0, 2], 0) else some (13, .return_, 1, [], 0))))
/-- 56: OracleWheel$Text.append(C)Z -/
def m_t56 (k : Nat) : Option ME := (bif Nat.blt k 12 then (bif Nat.blt k 6 then (bif Nat.blt k 3 then (bif Nat.blt k 1 then some (0, .aload_n 0, 1, [0], 0) else (bif Nat.blt k 2 then some (1, .getfield 15, 3, [6, 1, 0], 0) else some (4, .ifCond .lt 15, 3, [9], 0))) else (bif Nat.blt k 4 then some (7, .aload_n 0, 1, [0], 0) else (bif Nat.blt k 5 then some (8, .getfield 15, 3, [6, 1, 0], 0) else some (11, .aload_n 0, 1, [0], 0)))) else (bif Nat.blt k 9 then (bif Nat.blt k 7 then some (12, .getfield 9, 3, [6, 0, 2], 0) else (bif Nat.blt k 8 then some (15, .arraylength, 1, [], 0) else some (16, .if_icmp .lt 5, 3, [11], 0))) else (bif Nat.blt k 10 then some (19, .iconst 0, 1, [], nI 0) else (bif Nat.blt k 11 then some (20, .ireturn, 1, [], 0) else some (21, .aload_n 0, 1, [0], 0))))) else (bif Nat.blt k 18 then (bif Nat.blt k 15 then (bif Nat.blt k 13 then some (22, .getfield 9, 3, [6, 0, 2], 0) else (bif Nat.blt k 14 then some (25, .aload_n 0, 1, [0], 0) else some (26, .getfield 15, 3, [6, 1, 0], 0))) else (bif Nat.blt k 16 then some (29, .iload_n 1, 1, [1], 0) else (bif Nat.blt k 17 then some (30, .castore, 1, [], 0) else some (31, .aload_n 0, 1, [0], 0)))) else (bif Nat.blt k 21 then (bif Nat.blt k 19 then some (32, .dup, 1, [], 0) else (bif Nat.blt k 20 then some (33, .getfield 15, 3, [6, 1, 0], 0) else some (36, .iconst 1, 1, [], nI 1))) else (bif Nat.blt k 23 then (bif Nat.blt k 22 then some (37, .iadd, 1, [], 0) else some (38, .putfield 15, 3, [6, 1, 0], 0)) else (bif Nat.blt k 24 then some (41, .iconst 1, 1, [], nI 1) else some (42, .ireturn, 1, [], 0))))))
/-- 57: OracleWheel$Text.letterAt(I)C -/
def m_t57 (k : Nat) : Option ME := (bif Nat.blt k 9 then (bif Nat.blt k 4 then (bif Nat.blt k 2 then (bif Nat.blt k 1 then some (0, .iload_n 1, 1, [1], 0) else some (1, .ifCond .lt 29, 3, [16], 0)) else (bif Nat.blt k 3 then some (4, .iload_n 1, 1, [1], 0) else some (5, .aload_n 0, 1, [0], 0))) else (bif Nat.blt k 6 then (bif Nat.blt k 5 then some (6, .getfield 15, 3, [6, 1, 0], 0) else some (9, .if_icmp .ge 21, 3, [16], 0)) else (bif Nat.blt k 7 then some (12, .iload_n 1, 1, [1], 0) else (bif Nat.blt k 8 then some (13, .aload_n 0, 1, [0], 0) else some (14, .getfield 9, 3, [6, 0, 2], 0))))) else (bif Nat.blt k 13 then (bif Nat.blt k 11 then (bif Nat.blt k 10 then some (17, .arraylength, 1, [], 0) else some (18, .if_icmp .ge 12, 3, [16], 0)) else (bif Nat.blt k 12 then some (21, .aload_n 0, 1, [0], 0) else some (22, .getfield 9, 3, [6, 0, 2], 0))) else (bif Nat.blt k 15 then (bif Nat.blt k 14 then some (25, .iload_n 1, 1, [1], 0) else some (26, .caload, 1, [], 0)) else (bif Nat.blt k 16 then some (27, .goto 4, 3, [17], 0) else (bif Nat.blt k 17 then some (30, .iconst 0, 1, [], nI 0) else some (31, .ireturn, 1, [], 0))))))
/-- 58: OracleWheel.<init>()V -/
def m_t58 (k : Nat) : Option ME := (bif Nat.blt k 33 then (bif Nat.blt k 16 then (bif Nat.blt k 8 then (bif Nat.blt k 4 then (bif Nat.blt k 2 then (bif Nat.blt k 1 then some (0, .aload_n 0, 1, [0], 0) else some (1, .invokespecial 1, 3, [900], 0)) else (bif Nat.blt k 3 then some (4, .invokestatic 7, 3, [87, 0], 0) else some (7, .astore_n 1, 1, [1], 0))) else (bif Nat.blt k 6 then (bif Nat.blt k 5 then some (8, .aload_n 0, 1, [0], 0) else some (9, .aload_n 1, 1, [1], 0)) else (bif Nat.blt k 7 then some (10, .putfield 13, 3, [7, 9, 2], 0) else some (13, .aload_n 0, 1, [0], 0)))) else (bif Nat.blt k 12 then (bif Nat.blt k 10 then (bif Nat.blt k 9 then some (14, .new 17, 3, [0], 0) else some (17, .dup, 1, [], 0)) else (bif Nat.blt k 11 then some (18, .invokespecial 19, 3, [0, 1], 0) else some (21, .putfield 20, 3, [7, 10, 2], 0))) else (bif Nat.blt k 14 then (bif Nat.blt k 13 then some (24, .new 23, 3, [6], 0) else some (27, .dup, 1, [], 0)) else (bif Nat.blt k 15 then some (28, .invokespecial 25, 3, [55, 1], 0) else some (31, .astore_n 2, 1, [2], 0))))) else (bif Nat.blt k 24 then (bif Nat.blt k 20 then (bif Nat.blt k 18 then (bif Nat.blt k 17 then some (32, .aload_n 0, 1, [0], 0) else some (33, .aload_n 2, 1, [2], 0)) else (bif Nat.blt k 19 then some (34, .putfield 26, 3, [7, 0, 2], 0) else some (37, .aload_n 0, 1, [0], 0))) else (bif Nat.blt k 22 then (bif Nat.blt k 21 then some (38, .new 30, 3, [3], 0) else some (41, .dup, 1, [], 0)) else (bif Nat.blt k 23 then some (42, .aload_n 2, 1, [2], 0) else some (43, .invokespecial 32, 3, [36, 2], 0)))) else (bif Nat.blt k 28 then (bif Nat.blt k 26 then (bif Nat.blt k 25 then some (46, .putfield 35, 3, [7, 1, 2], 0) else some (49, .aload_n 0, 1, [0], 0)) else (bif Nat.blt k 27 then some (50, .new 39, 3, [1], 0) else some (53, .dup, 1, [], 0))) else (bif Nat.blt k 30 then (bif Nat.blt k 29 then some (54, .invokespecial 41, 3, [12, 1], 0) else some (57, .putfield 42, 3, [7, 2, 2], 0)) else (bif Nat.blt k 31 then some (60, .aload_n 0, 1, [0], 0) else (bif Nat.blt k 32 then some (61, .new 39, 3, [1], 0) else some (64, .dup, 1, [], 0))))))) else (bif Nat.blt k 49 then (bif Nat.blt k 41 then (bif Nat.blt k 37 then (bif Nat.blt k 35 then (bif Nat.blt k 34 then some (65, .invokespecial 41, 3, [12, 1], 0) else some (68, .putfield 46, 3, [7, 3, 2], 0)) else (bif Nat.blt k 36 then some (71, .aload_n 0, 1, [0], 0) else some (72, .new 49, 3, [4], 0))) else (bif Nat.blt k 39 then (bif Nat.blt k 38 then some (75, .dup, 1, [], 0) else some (76, .bipush 8, 2, [], nI 8)) else (bif Nat.blt k 40 then some (78, .invokespecial 51, 3, [48, 2], 0) else some (81, .putfield 54, 3, [7, 4, 2], 0)))) else (bif Nat.blt k 45 then (bif Nat.blt k 43 then (bif Nat.blt k 42 then some (84, .aload_n 0, 1, [0], 0) else some (85, .new 49, 3, [4], 0)) else (bif Nat.blt k 44 then some (88, .dup, 1, [], 0) else some (89, .iconst 2, 1, [], nI 2))) else (bif Nat.blt k 47 then (bif Nat.blt k 46 then some (90, .invokespecial 51, 3, [48, 2], 0) else some (93, .putfield 58, 3, [7, 5, 2], 0)) else (bif Nat.blt k 48 then some (96, .aload_n 0, 1, [0], 0) else some (97, .new 61, 3, [5], 0))))) else (bif Nat.blt k 57 then (bif Nat.blt k 53 then (bif Nat.blt k 51 then (bif Nat.blt k 50 then some (100, .dup, 1, [], 0) else some (101, .invokespecial 63, 3, [52, 1], 0)) else (bif Nat.blt k 52 then some (104, .putfield 64, 3, [7, 6, 2], 0) else some (107, .aload_n 0, 1, [0], 0))) else (bif Nat.blt k 55 then (bif Nat.blt k 54 then some (108, .new 68, 3, [2], 0) else some (111, .dup, 1, [], 0)) else (bif Nat.blt k 56 then some (112, .invokespecial 70, 3, [24, 1], 0) else some (115, .putfield 71, 3, [7, 7, 2], 0)))) else (bif Nat.blt k 61 then (bif Nat.blt k 59 then (bif Nat.blt k 58 then some (118, .aload_n 0, 1, [0], 0) else some (119, .bipush 9, 2, [], nI 9)) else (bif Nat.blt k 60 then some (121, .newarray .int, 2, [0], 0) else some (123, .putfield 75, 3, [7, 8, 2], 0))) else (bif Nat.blt k 63 then (bif Nat.blt k 62 then some (126, .aload_n 0, 1, [0], 0) else some (127, .getfield 42, 3, [7, 2, 2], 0)) else (bif Nat.blt k 64 then some (130, .aload_n 1, 1, [1], 0) else (bif Nat.blt k 65 then some (131, .invokevirtual 79, 3, [13, 2], 0) else some (134, .return_, 1, [], 0))))))))
/-- 59: OracleWheel.write(I)I -/
def m_t59 (k : Nat) : Option ME := (bif Nat.blt k 10 then (bif Nat.blt k 5 then (bif Nat.blt k 2 then (bif Nat.blt k 1 then some (0, .iload_n 1, 1, [1], 0) else some (1, .bipush 32, 2, [], nI 32)) else (bif Nat.blt k 3 then some (3, .if_icmp .lt 9, 3, [6], 0) else (bif Nat.blt k 4 then some (6, .iload_n 1, 1, [1], 0) else some (7, .bipush 126, 2, [], nI 126)))) else (bif Nat.blt k 7 then (bif Nat.blt k 6 then some (9, .if_icmp .le 5, 3, [8], 0) else some (12, .iconst (-1), 1, [], (-1))) else (bif Nat.blt k 8 then some (13, .ireturn, 1, [], 0) else (bif Nat.blt k 9 then some (14, .aload_n 0, 1, [0], 0) else some (15, .getfield 26, 3, [7, 0, 2], 0))))) else (bif Nat.blt k 15 then (bif Nat.blt k 12 then (bif Nat.blt k 11 then some (18, .iload_n 1, 1, [1], 0) else some (19, .i2c, 1, [], 0)) else (bif Nat.blt k 13 then some (20, .invokevirtual 83, 3, [56, 2], 0) else (bif Nat.blt k 14 then some (23, .ifCond .eq 13, 3, [18], 0) else some (26, .aload_n 0, 1, [0], 0)))) else (bif Nat.blt k 17 then (bif Nat.blt k 16 then some (27, .getfield 26, 3, [7, 0, 2], 0) else some (30, .getfield 87, 3, [6, 1, 0], 0)) else (bif Nat.blt k 18 then some (33, .goto 5, 3, [19], 0) else (bif Nat.blt k 19 then some (36, .bipush (-3), 2, [], (-3)) else some (38, .ireturn, 1, [], 0))))))
/-- 60: OracleWheel.wipe()I -/
def m_t60 (k : Nat) : Option ME := (bif Nat.blt k 5 then (bif Nat.blt k 2 then (bif Nat.blt k 1 then some (0, .aload_n 0, 1, [0], 0) else some (1, .getfield 26, 3, [7, 0, 2], 0)) else (bif Nat.blt k 3 then some (4, .getfield 87, 3, [6, 1, 0], 0) else (bif Nat.blt k 4 then some (7, .istore_n 1, 1, [1], 0) else some (8, .aload_n 0, 1, [0], 0)))) else (bif Nat.blt k 7 then (bif Nat.blt k 6 then some (9, .getfield 26, 3, [7, 0, 2], 0) else some (12, .iconst 0, 1, [], nI 0)) else (bif Nat.blt k 8 then some (13, .putfield 87, 3, [6, 1, 0], 0) else (bif Nat.blt k 9 then some (16, .iload_n 1, 1, [1], 0) else some (17, .ireturn, 1, [], 0)))))
/-- 61: OracleWheel.fault()I -/
def m_t61 (k : Nat) : Option ME := (bif Nat.blt k 3 then (bif Nat.blt k 1 then some (0, .aload_n 0, 1, [0], 0) else (bif Nat.blt k 2 then some (1, .getfield 35, 3, [7, 1, 2], 0) else some (4, .aload_n 0, 1, [0], 0))) else (bif Nat.blt k 4 then some (5, .getfield 20, 3, [7, 10, 2], 0) else (bif Nat.blt k 5 then some (8, .invokevirtual 91, 3, [37, 2], 0) else some (11, .ireturn, 1, [], 0))))
/-- 62: OracleWheel.lay()I -/
def m_t62 (k : Nat) : Option ME := (bif Nat.blt k 21 then (bif Nat.blt k 10 then (bif Nat.blt k 5 then (bif Nat.blt k 2 then (bif Nat.blt k 1 then some (0, .aload_n 0, 1, [0], 0) else some (1, .getfield 35, 3, [7, 1, 2], 0)) else (bif Nat.blt k 3 then some (4, .aload_n 0, 1, [0], 0) else (bif Nat.blt k 4 then some (5, .getfield 20, 3, [7, 10, 2], 0) else some (8, .invokevirtual 91, 3, [37, 2], 0)))) else (bif Nat.blt k 7 then (bif Nat.blt k 6 then some (11, .bipush (-4), 2, [], (-4)) else some (13, .if_icmp .ne 13, 3, [11], 0)) else (bif Nat.blt k 8 then some (16, .aload_n 0, 1, [0], 0) else (bif Nat.blt k 9 then some (17, .getfield 20, 3, [7, 10, 2], 0) else some (20, .getfield 95, 3, [0, 13, 0], 0))))) else (bif Nat.blt k 15 then (bif Nat.blt k 12 then (bif Nat.blt k 11 then some (23, .ifCond .ne 6, 3, [13], 0) else some (26, .bipush (-2), 2, [], (-2))) else (bif Nat.blt k 13 then some (28, .ireturn, 1, [], 0) else (bif Nat.blt k 14 then some (29, .aload_n 0, 1, [0], 0) else some (30, .getfield 20, 3, [7, 10, 2], 0)))) else (bif Nat.blt k 18 then (bif Nat.blt k 16 then some (33, .astore_n 1, 1, [1], 0) else (bif Nat.blt k 17 then some (34, .aload_n 0, 1, [0], 0) else some (35, .aload_n 0, 1, [0], 0))) else (bif Nat.blt k 19 then some (36, .getfield 13, 3, [7, 9, 2], 0) else (bif Nat.blt k 20 then some (39, .putfield 20, 3, [7, 10, 2], 0) else some (42, .aload_n 0, 1, [0], 0)))))) else (bif Nat.blt k 31 then (bif Nat.blt k 26 then (bif Nat.blt k 23 then (bif Nat.blt k 22 then some (43, .aload_n 1, 1, [1], 0) else some (44, .putfield 13, 3, [7, 9, 2], 0)) else (bif Nat.blt k 24 then some (47, .aload_n 0, 1, [0], 0) else (bif Nat.blt k 25 then some (48, .getfield 42, 3, [7, 2, 2], 0) else some (51, .aload_n 0, 1, [0], 0)))) else (bif Nat.blt k 28 then (bif Nat.blt k 27 then some (52, .getfield 13, 3, [7, 9, 2], 0) else some (55, .invokevirtual 79, 3, [13, 2], 0)) else (bif Nat.blt k 29 then some (58, .aload_n 0, 1, [0], 0) else (bif Nat.blt k 30 then some (59, .getfield 64, 3, [7, 6, 2], 0) else some (62, .iconst 0, 1, [], nI 0))))) else (bif Nat.blt k 36 then (bif Nat.blt k 33 then (bif Nat.blt k 32 then some (63, .putfield 98, 3, [5, 2, 0], 0) else some (66, .aload_n 0, 1, [0], 0)) else (bif Nat.blt k 34 then some (67, .getfield 54, 3, [7, 4, 2], 0) else (bif Nat.blt k 35 then some (70, .invokevirtual 101, 3, [49, 1], 0) else some (73, .aload_n 0, 1, [0], 0)))) else (bif Nat.blt k 39 then (bif Nat.blt k 37 then some (74, .getfield 58, 3, [7, 5, 2], 0) else (bif Nat.blt k 38 then some (77, .invokevirtual 101, 3, [49, 1], 0) else some (80, .aload_n 0, 1, [0], 0))) else (bif Nat.blt k 40 then some (81, .getfield 13, 3, [7, 9, 2], 0) else (bif Nat.blt k 41 then some (84, .getfield 104, 3, [0, 11, 0], 0) else some (87, .ireturn, 1, [], 0)))))))
/-- 63: OracleWheel.word(I)I -/
def m_t63 (k : Nat) : Option ME := (bif Nat.blt k 4 then (bif Nat.blt k 2 then (bif Nat.blt k 1 then some (0, .iload_n 1, 1, [1], 0) else some (1, .ifCond .ge 7, 3, [4], 0)) else (bif Nat.blt k 3 then some (4, .iconst (-1), 1, [], (-1)) else some (5, .goto 11, 3, [8], 0))) else (bif Nat.blt k 6 then (bif Nat.blt k 5 then some (8, .aload_n 0, 1, [0], 0) else some (9, .getfield 13, 3, [7, 9, 2], 0)) else (bif Nat.blt k 7 then some (12, .iload_n 1, 1, [1], 0) else (bif Nat.blt k 8 then some (13, .invokevirtual 107, 3, [8, 2], 0) else some (16, .ireturn, 1, [], 0)))))
/-- 64: OracleWheel.way(II)I -/
def m_t64 (k : Nat) : Option ME := (bif Nat.blt k 23 then (bif Nat.blt k 11 then (bif Nat.blt k 5 then (bif Nat.blt k 2 then (bif Nat.blt k 1 then some (0, .aload_n 0, 1, [0], 0) else some (1, .getfield 13, 3, [7, 9, 2], 0)) else (bif Nat.blt k 3 then some (4, .iload_n 1, 1, [1], 0) else (bif Nat.blt k 4 then some (5, .invokevirtual 111, 3, [6, 2], 0) else some (8, .ifCond .eq 12, 3, [10], 0)))) else (bif Nat.blt k 8 then (bif Nat.blt k 6 then some (11, .iload_n 2, 1, [2], 0) else (bif Nat.blt k 7 then some (12, .ifCond .lt 8, 3, [10], 0) else some (15, .iload_n 2, 1, [2], 0))) else (bif Nat.blt k 9 then some (16, .iconst 3, 1, [], nI 3) else (bif Nat.blt k 10 then some (17, .if_icmp .le 5, 3, [12], 0) else some (20, .iconst (-1), 1, [], (-1)))))) else (bif Nat.blt k 17 then (bif Nat.blt k 14 then (bif Nat.blt k 12 then some (21, .ireturn, 1, [], 0) else (bif Nat.blt k 13 then some (22, .iload_n 2, 1, [2], 0) else some (23, .tableswitch 55 0 2 #[25, 35, 45], 25, [32, 0, 14, 1, 20, 2, 26], 0))) else (bif Nat.blt k 15 then some (48, .aload_n 0, 1, [0], 0) else (bif Nat.blt k 16 then some (49, .getfield 13, 3, [7, 9, 2], 0) else some (52, .getfield 115, 3, [0, 1, 2], 0)))) else (bif Nat.blt k 20 then (bif Nat.blt k 18 then some (55, .iload_n 1, 1, [1], 0) else (bif Nat.blt k 19 then some (56, .iaload, 1, [], 0) else some (57, .ireturn, 1, [], 0))) else (bif Nat.blt k 21 then some (58, .aload_n 0, 1, [0], 0) else (bif Nat.blt k 22 then some (59, .getfield 13, 3, [7, 9, 2], 0) else some (62, .getfield 118, 3, [0, 2, 2], 0)))))) else (bif Nat.blt k 34 then (bif Nat.blt k 28 then (bif Nat.blt k 25 then (bif Nat.blt k 24 then some (65, .iload_n 1, 1, [1], 0) else some (66, .iaload, 1, [], 0)) else (bif Nat.blt k 26 then some (67, .ireturn, 1, [], 0) else (bif Nat.blt k 27 then some (68, .aload_n 0, 1, [0], 0) else some (69, .getfield 13, 3, [7, 9, 2], 0)))) else (bif Nat.blt k 31 then (bif Nat.blt k 29 then some (72, .getfield 121, 3, [0, 3, 2], 0) else (bif Nat.blt k 30 then some (75, .iload_n 1, 1, [1], 0) else some (76, .iaload, 1, [], 0))) else (bif Nat.blt k 32 then some (77, .ireturn, 1, [], 0) else (bif Nat.blt k 33 then some (78, .aload_n 0, 1, [0], 0) else some (79, .getfield 13, 3, [7, 9, 2], 0))))) else (bif Nat.blt k 40 then (bif Nat.blt k 37 then (bif Nat.blt k 35 then some (82, .iload_n 1, 1, [1], 0) else (bif Nat.blt k 36 then some (83, .aload_n 0, 1, [0], 0) else some (84, .getfield 42, 3, [7, 2, 2], 0))) else (bif Nat.blt k 38 then some (87, .getfield 124, 3, [1, 2, 0], 0) else (bif Nat.blt k 39 then some (90, .aload_n 0, 1, [0], 0) else some (91, .getfield 42, 3, [7, 2, 2], 0)))) else (bif Nat.blt k 43 then (bif Nat.blt k 41 then some (94, .aload_n 0, 1, [0], 0) else (bif Nat.blt k 42 then some (95, .getfield 13, 3, [7, 9, 2], 0) else some (98, .iconst 0, 1, [], nI 0))) else (bif Nat.blt k 44 then some (99, .invokevirtual 127, 3, [16, 3], 0) else (bif Nat.blt k 45 then some (102, .invokevirtual 131, 3, [11, 4], 0) else some (105, .ireturn, 1, [], 0)))))))
/-- 65: OracleWheel.asker(II)I -/
def m_t65 (k : Nat) : Option ME := (bif Nat.blt k 23 then (bif Nat.blt k 11 then (bif Nat.blt k 5 then (bif Nat.blt k 2 then (bif Nat.blt k 1 then some (0, .aload_n 0, 1, [0], 0) else some (1, .getfield 13, 3, [7, 9, 2], 0)) else (bif Nat.blt k 3 then some (4, .iload_n 1, 1, [1], 0) else (bif Nat.blt k 4 then some (5, .invokevirtual 135, 3, [7, 2], 0) else some (8, .ifCond .eq 12, 3, [10], 0)))) else (bif Nat.blt k 8 then (bif Nat.blt k 6 then some (11, .iload_n 2, 1, [2], 0) else (bif Nat.blt k 7 then some (12, .ifCond .lt 8, 3, [10], 0) else some (15, .iload_n 2, 1, [2], 0))) else (bif Nat.blt k 9 then some (16, .iconst 3, 1, [], nI 3) else (bif Nat.blt k 10 then some (17, .if_icmp .le 5, 3, [12], 0) else some (20, .iconst (-1), 1, [], (-1)))))) else (bif Nat.blt k 17 then (bif Nat.blt k 14 then (bif Nat.blt k 12 then some (21, .ireturn, 1, [], 0) else (bif Nat.blt k 13 then some (22, .iload_n 2, 1, [2], 0) else some (23, .tableswitch 55 0 2 #[25, 35, 45], 25, [32, 0, 14, 1, 20, 2, 26], 0))) else (bif Nat.blt k 15 then some (48, .aload_n 0, 1, [0], 0) else (bif Nat.blt k 16 then some (49, .getfield 42, 3, [7, 2, 2], 0) else some (52, .getfield 138, 3, [1, 0, 2], 0)))) else (bif Nat.blt k 20 then (bif Nat.blt k 18 then some (55, .iload_n 1, 1, [1], 0) else (bif Nat.blt k 19 then some (56, .iaload, 1, [], 0) else some (57, .ireturn, 1, [], 0))) else (bif Nat.blt k 21 then some (58, .aload_n 0, 1, [0], 0) else (bif Nat.blt k 22 then some (59, .getfield 13, 3, [7, 9, 2], 0) else some (62, .getfield 141, 3, [0, 6, 2], 0)))))) else (bif Nat.blt k 34 then (bif Nat.blt k 28 then (bif Nat.blt k 25 then (bif Nat.blt k 24 then some (65, .iload_n 1, 1, [1], 0) else some (66, .iaload, 1, [], 0)) else (bif Nat.blt k 26 then some (67, .ireturn, 1, [], 0) else (bif Nat.blt k 27 then some (68, .aload_n 0, 1, [0], 0) else some (69, .getfield 42, 3, [7, 2, 2], 0)))) else (bif Nat.blt k 31 then (bif Nat.blt k 29 then some (72, .getfield 144, 3, [1, 1, 2], 0) else (bif Nat.blt k 30 then some (75, .iload_n 1, 1, [1], 0) else some (76, .iaload, 1, [], 0))) else (bif Nat.blt k 32 then some (77, .ireturn, 1, [], 0) else (bif Nat.blt k 33 then some (78, .aload_n 0, 1, [0], 0) else some (79, .getfield 42, 3, [7, 2, 2], 0))))) else (bif Nat.blt k 40 then (bif Nat.blt k 37 then (bif Nat.blt k 35 then some (82, .iload_n 1, 1, [1], 0) else (bif Nat.blt k 36 then some (83, .invokevirtual 147, 3, [19, 2], 0) else some (86, .ifCond .eq 18, 3, [44], 0))) else (bif Nat.blt k 38 then some (89, .aload_n 0, 1, [0], 0) else (bif Nat.blt k 39 then some (90, .getfield 42, 3, [7, 2, 2], 0) else some (93, .aload_n 0, 1, [0], 0)))) else (bif Nat.blt k 43 then (bif Nat.blt k 41 then some (94, .getfield 13, 3, [7, 9, 2], 0) else (bif Nat.blt k 42 then some (97, .iconst 0, 1, [], nI 0) else some (98, .invokevirtual 127, 3, [16, 3], 0))) else (bif Nat.blt k 44 then some (101, .goto 5, 3, [45], 0) else (bif Nat.blt k 45 then some (104, .bipush (-4), 2, [], (-4)) else some (106, .ireturn, 1, [], 0)))))))
/-- 66: OracleWheel.pass(I)I -/
def m_t66 (k : Nat) : Option ME := (bif Nat.blt k 13 then (bif Nat.blt k 6 then (bif Nat.blt k 3 then (bif Nat.blt k 1 then some (0, .iload_n 1, 1, [1], 0) else (bif Nat.blt k 2 then some (1, .iconst 1, 1, [], nI 1) else some (2, .if_icmp .lt 9, 3, [6], 0))) else (bif Nat.blt k 4 then some (5, .iload_n 1, 1, [1], 0) else (bif Nat.blt k 5 then some (6, .bipush 48, 2, [], nI 48) else some (8, .if_icmp .le 5, 3, [8], 0)))) else (bif Nat.blt k 9 then (bif Nat.blt k 7 then some (11, .iconst (-1), 1, [], (-1)) else (bif Nat.blt k 8 then some (12, .ireturn, 1, [], 0) else some (13, .aload_n 0, 1, [0], 0))) else (bif Nat.blt k 11 then (bif Nat.blt k 10 then some (14, .getfield 54, 3, [7, 4, 2], 0) else some (17, .aload_n 0, 1, [0], 0)) else (bif Nat.blt k 12 then some (18, .getfield 42, 3, [7, 2, 2], 0) else some (21, .invokevirtual 150, 3, [50, 2], 0))))) else (bif Nat.blt k 19 then (bif Nat.blt k 16 then (bif Nat.blt k 14 then some (24, .aload_n 0, 1, [0], 0) else (bif Nat.blt k 15 then some (25, .getfield 42, 3, [7, 2, 2], 0) else some (28, .aload_n 0, 1, [0], 0))) else (bif Nat.blt k 17 then some (29, .getfield 13, 3, [7, 9, 2], 0) else (bif Nat.blt k 18 then some (32, .iload_n 1, 1, [1], 0) else some (33, .invokevirtual 154, 3, [17, 3], 0)))) else (bif Nat.blt k 22 then (bif Nat.blt k 20 then some (36, .aload_n 0, 1, [0], 0) else (bif Nat.blt k 21 then some (37, .getfield 42, 3, [7, 2, 2], 0) else some (40, .aload_n 0, 1, [0], 0))) else (bif Nat.blt k 24 then (bif Nat.blt k 23 then some (41, .getfield 13, 3, [7, 9, 2], 0) else some (44, .iconst 0, 1, [], nI 0)) else (bif Nat.blt k 25 then some (45, .invokevirtual 127, 3, [16, 3], 0) else some (48, .ireturn, 1, [], 0))))))
/-- 67: OracleWheel.setOut(II)I -/
def m_t67 (k : Nat) : Option ME := (bif Nat.blt k 19 then (bif Nat.blt k 9 then (bif Nat.blt k 4 then (bif Nat.blt k 2 then (bif Nat.blt k 1 then some (0, .aload_n 0, 1, [0], 0) else some (1, .getfield 13, 3, [7, 9, 2], 0)) else (bif Nat.blt k 3 then some (4, .iload_n 1, 1, [1], 0) else some (5, .invokevirtual 135, 3, [7, 2], 0))) else (bif Nat.blt k 6 then (bif Nat.blt k 5 then some (8, .ifCond .eq 14, 3, [10], 0) else some (11, .aload_n 0, 1, [0], 0)) else (bif Nat.blt k 7 then some (12, .getfield 13, 3, [7, 9, 2], 0) else (bif Nat.blt k 8 then some (15, .iload_n 2, 1, [2], 0) else some (16, .invokevirtual 111, 3, [6, 2], 0))))) else (bif Nat.blt k 14 then (bif Nat.blt k 11 then (bif Nat.blt k 10 then some (19, .ifCond .ne 5, 3, [12], 0) else some (22, .iconst (-1), 1, [], (-1))) else (bif Nat.blt k 12 then some (23, .ireturn, 1, [], 0) else (bif Nat.blt k 13 then some (24, .aload_n 0, 1, [0], 0) else some (25, .getfield 42, 3, [7, 2, 2], 0)))) else (bif Nat.blt k 16 then (bif Nat.blt k 15 then some (28, .aload_n 0, 1, [0], 0) else some (29, .getfield 13, 3, [7, 9, 2], 0)) else (bif Nat.blt k 17 then some (32, .iload_n 1, 1, [1], 0) else (bif Nat.blt k 18 then some (33, .iload_n 2, 1, [2], 0) else some (34, .invokevirtual 158, 3, [22, 4], 0)))))) else (bif Nat.blt k 29 then (bif Nat.blt k 24 then (bif Nat.blt k 21 then (bif Nat.blt k 20 then some (37, .istore_n 3, 1, [3], 0) else some (38, .iload_n 3, 1, [3], 0)) else (bif Nat.blt k 22 then some (39, .bipush (-4), 2, [], (-4)) else (bif Nat.blt k 23 then some (41, .if_icmp .ne 6, 3, [25], 0) else some (44, .bipush (-2), 2, [], (-2))))) else (bif Nat.blt k 26 then (bif Nat.blt k 25 then some (46, .ireturn, 1, [], 0) else some (47, .aload_n 0, 1, [0], 0)) else (bif Nat.blt k 27 then some (48, .getfield 54, 3, [7, 4, 2], 0) else (bif Nat.blt k 28 then some (51, .aload_n 0, 1, [0], 0) else some (52, .getfield 42, 3, [7, 2, 2], 0))))) else (bif Nat.blt k 34 then (bif Nat.blt k 31 then (bif Nat.blt k 30 then some (55, .invokevirtual 150, 3, [50, 2], 0) else some (58, .aload_n 0, 1, [0], 0)) else (bif Nat.blt k 32 then some (59, .getfield 42, 3, [7, 2, 2], 0) else (bif Nat.blt k 33 then some (62, .aload_n 0, 1, [0], 0) else some (63, .getfield 13, 3, [7, 9, 2], 0)))) else (bif Nat.blt k 36 then (bif Nat.blt k 35 then some (66, .iload_n 1, 1, [1], 0) else some (67, .iload_n 2, 1, [2], 0)) else (bif Nat.blt k 37 then some (68, .invokevirtual 162, 3, [23, 4], 0) else (bif Nat.blt k 38 then some (71, .iload_n 3, 1, [3], 0) else some (72, .ireturn, 1, [], 0)))))))
/-- 68: OracleWheel.foot(I)I -/
def m_t68 (k : Nat) : Option ME := (bif Nat.blt k 17 then (bif Nat.blt k 8 then (bif Nat.blt k 4 then (bif Nat.blt k 2 then (bif Nat.blt k 1 then some (0, .iload_n 1, 1, [1], 0) else some (1, .iconst 1, 1, [], nI 1)) else (bif Nat.blt k 3 then some (2, .if_icmp .lt 9, 3, [6], 0) else some (5, .iload_n 1, 1, [1], 0))) else (bif Nat.blt k 6 then (bif Nat.blt k 5 then some (6, .bipush 12, 2, [], nI 12) else some (8, .if_icmp .le 5, 3, [8], 0)) else (bif Nat.blt k 7 then some (11, .iconst (-1), 1, [], (-1)) else some (12, .ireturn, 1, [], 0)))) else (bif Nat.blt k 12 then (bif Nat.blt k 10 then (bif Nat.blt k 9 then some (13, .aload_n 0, 1, [0], 0) else some (14, .getfield 42, 3, [7, 2, 2], 0)) else (bif Nat.blt k 11 then some (17, .getfield 166, 3, [1, 5, 1], 0) else some (20, .ifCond .eq 6, 3, [14], 0))) else (bif Nat.blt k 14 then (bif Nat.blt k 13 then some (23, .bipush (-2), 2, [], (-2)) else some (25, .ireturn, 1, [], 0)) else (bif Nat.blt k 15 then some (26, .aload_n 0, 1, [0], 0) else (bif Nat.blt k 16 then some (27, .getfield 54, 3, [7, 4, 2], 0) else some (30, .aload_n 0, 1, [0], 0)))))) else (bif Nat.blt k 25 then (bif Nat.blt k 21 then (bif Nat.blt k 19 then (bif Nat.blt k 18 then some (31, .getfield 42, 3, [7, 2, 2], 0) else some (34, .invokevirtual 150, 3, [50, 2], 0)) else (bif Nat.blt k 20 then some (37, .aload_n 0, 1, [0], 0) else some (38, .getfield 42, 3, [7, 2, 2], 0))) else (bif Nat.blt k 23 then (bif Nat.blt k 22 then some (41, .iconst 1, 1, [], nI 1) else some (42, .putfield 166, 3, [1, 5, 1], 0)) else (bif Nat.blt k 24 then some (45, .aload_n 0, 1, [0], 0) else some (46, .getfield 42, 3, [7, 2, 2], 0)))) else (bif Nat.blt k 29 then (bif Nat.blt k 27 then (bif Nat.blt k 26 then some (49, .iload_n 1, 1, [1], 0) else some (50, .putfield 170, 3, [1, 4, 0], 0)) else (bif Nat.blt k 28 then some (53, .aload_n 0, 1, [0], 0) else some (54, .getfield 42, 3, [7, 2, 2], 0))) else (bif Nat.blt k 31 then (bif Nat.blt k 30 then some (57, .aload_n 0, 1, [0], 0) else some (58, .getfield 13, 3, [7, 9, 2], 0)) else (bif Nat.blt k 32 then some (61, .iconst 0, 1, [], nI 0) else (bif Nat.blt k 33 then some (62, .invokevirtual 127, 3, [16, 3], 0) else some (65, .ireturn, 1, [], 0)))))))
/-- 69: OracleWheel.graze()I -/
def m_t69 (k : Nat) : Option ME := (bif Nat.blt k 8 then (bif Nat.blt k 4 then (bif Nat.blt k 2 then (bif Nat.blt k 1 then some (0, .aload_n 0, 1, [0], 0) else some (1, .getfield 54, 3, [7, 4, 2], 0)) else (bif Nat.blt k 3 then some (4, .aload_n 0, 1, [0], 0) else some (5, .getfield 42, 3, [7, 2, 2], 0))) else (bif Nat.blt k 6 then (bif Nat.blt k 5 then some (8, .invokevirtual 150, 3, [50, 2], 0) else some (11, .aload_n 0, 1, [0], 0)) else (bif Nat.blt k 7 then some (12, .getfield 42, 3, [7, 2, 2], 0) else some (15, .aload_n 0, 1, [0], 0)))) else (bif Nat.blt k 12 then (bif Nat.blt k 10 then (bif Nat.blt k 9 then some (16, .getfield 13, 3, [7, 9, 2], 0) else some (19, .invokevirtual 173, 3, [18, 2], 0)) else (bif Nat.blt k 11 then some (22, .aload_n 0, 1, [0], 0) else some (23, .getfield 42, 3, [7, 2, 2], 0))) else (bif Nat.blt k 14 then (bif Nat.blt k 13 then some (26, .aload_n 0, 1, [0], 0) else some (27, .getfield 13, 3, [7, 9, 2], 0)) else (bif Nat.blt k 15 then some (30, .iconst 0, 1, [], nI 0) else (bif Nat.blt k 16 then some (31, .invokevirtual 127, 3, [16, 3], 0) else some (34, .ireturn, 1, [], 0))))))
/-- 70: OracleWheel.undo()I -/
def m_t70 (k : Nat) : Option ME := (bif Nat.blt k 7 then (bif Nat.blt k 3 then (bif Nat.blt k 1 then some (0, .aload_n 0, 1, [0], 0) else (bif Nat.blt k 2 then some (1, .getfield 54, 3, [7, 4, 2], 0) else some (4, .getfield 176, 3, [4, 2, 0], 0))) else (bif Nat.blt k 5 then (bif Nat.blt k 4 then some (7, .ifCond .ne 6, 3, [6], 0) else some (10, .bipush (-2), 2, [], (-2))) else (bif Nat.blt k 6 then some (12, .ireturn, 1, [], 0) else some (13, .aload_n 0, 1, [0], 0)))) else (bif Nat.blt k 11 then (bif Nat.blt k 9 then (bif Nat.blt k 8 then some (14, .getfield 54, 3, [7, 4, 2], 0) else some (17, .aload_n 0, 1, [0], 0)) else (bif Nat.blt k 10 then some (18, .getfield 42, 3, [7, 2, 2], 0) else some (21, .invokevirtual 177, 3, [51, 2], 0))) else (bif Nat.blt k 13 then (bif Nat.blt k 12 then some (24, .aload_n 0, 1, [0], 0) else some (25, .getfield 54, 3, [7, 4, 2], 0)) else (bif Nat.blt k 14 then some (28, .getfield 176, 3, [4, 2, 0], 0) else some (31, .ireturn, 1, [], 0)))))
/-- 71: OracleWheel.upper(I)I -/
def m_t71 (k : Nat) : Option ME := (bif Nat.blt k 7 then (bif Nat.blt k 3 then (bif Nat.blt k 1 then some (0, .iload_n 1, 1, [1], 0) else (bif Nat.blt k 2 then some (1, .ifCond .lt 10, 3, [5], 0) else some (4, .iload_n 1, 1, [1], 0))) else (bif Nat.blt k 5 then (bif Nat.blt k 4 then some (5, .sipush 200, 3, [], nI 200) else some (8, .if_icmp .le 5, 3, [7], 0)) else (bif Nat.blt k 6 then some (11, .iconst (-1), 1, [], (-1)) else some (12, .ireturn, 1, [], 0)))) else (bif Nat.blt k 10 then (bif Nat.blt k 8 then some (13, .aload_n 0, 1, [0], 0) else (bif Nat.blt k 9 then some (14, .getfield 42, 3, [7, 2, 2], 0) else some (17, .aload_n 0, 1, [0], 0))) else (bif Nat.blt k 12 then (bif Nat.blt k 11 then some (18, .getfield 13, 3, [7, 9, 2], 0) else some (21, .iload_n 1, 1, [1], 0)) else (bif Nat.blt k 13 then some (22, .invokevirtual 127, 3, [16, 3], 0) else some (25, .ireturn, 1, [], 0)))))
/-- 72: OracleWheel.round()I -/
def m_t72 (k : Nat) : Option ME := (bif Nat.blt k 15 then (bif Nat.blt k 7 then (bif Nat.blt k 3 then (bif Nat.blt k 1 then some (0, .aload_n 0, 1, [0], 0) else (bif Nat.blt k 2 then some (1, .getfield 42, 3, [7, 2, 2], 0) else some (4, .getfield 170, 3, [1, 4, 0], 0))) else (bif Nat.blt k 5 then (bif Nat.blt k 4 then some (7, .ifCond .le 6, 3, [6], 0) else some (10, .bipush (-4), 2, [], (-4))) else (bif Nat.blt k 6 then some (12, .ireturn, 1, [], 0) else some (13, .aload_n 0, 1, [0], 0)))) else (bif Nat.blt k 11 then (bif Nat.blt k 9 then (bif Nat.blt k 8 then some (14, .getfield 71, 3, [7, 7, 2], 0) else some (17, .aload_n 0, 1, [0], 0)) else (bif Nat.blt k 10 then some (18, .getfield 13, 3, [7, 9, 2], 0) else some (21, .aload_n 0, 1, [0], 0))) else (bif Nat.blt k 13 then (bif Nat.blt k 12 then some (22, .getfield 42, 3, [7, 2, 2], 0) else some (25, .sipush 575, 3, [], nI 575)) else (bif Nat.blt k 14 then some (28, .invokevirtual 180, 3, [25, 4], 0) else some (31, .iconst 1, 1, [], nI 1))))) else (bif Nat.blt k 22 then (bif Nat.blt k 18 then (bif Nat.blt k 16 then some (32, .istore_n 1, 1, [1], 0) else (bif Nat.blt k 17 then some (33, .iload_n 1, 1, [1], 0) else some (34, .sipush 288, 3, [], nI 288))) else (bif Nat.blt k 20 then (bif Nat.blt k 19 then some (37, .if_icmp .gt 22, 3, [28], 0) else some (40, .aload_n 0, 1, [0], 0)) else (bif Nat.blt k 21 then some (41, .getfield 71, 3, [7, 7, 2], 0) else some (44, .iload_n 1, 1, [1], 0)))) else (bif Nat.blt k 26 then (bif Nat.blt k 24 then (bif Nat.blt k 23 then some (45, .invokevirtual 184, 3, [26, 2], 0) else some (48, .ifCond .eq 5, 3, [26], 0)) else (bif Nat.blt k 25 then some (51, .iload_n 1, 1, [1], 0) else some (52, .ireturn, 1, [], 0))) else (bif Nat.blt k 28 then (bif Nat.blt k 27 then some (53, .iinc 1 1, 3, [1], nI 1) else some (56, .goto (-23), 3, [16], 0)) else (bif Nat.blt k 29 then some (59, .bipush (-4), 2, [], (-4)) else some (61, .ireturn, 1, [], 0))))))
/-- 73: OracleWheel.top(I)I -/
def m_t73 (k : Nat) : Option ME := (bif Nat.blt k 6 then (bif Nat.blt k 3 then (bif Nat.blt k 1 then some (0, .aload_n 0, 1, [0], 0) else (bif Nat.blt k 2 then some (1, .getfield 13, 3, [7, 9, 2], 0) else some (4, .iload_n 1, 1, [1], 0))) else (bif Nat.blt k 4 then some (5, .invokevirtual 135, 3, [7, 2], 0) else (bif Nat.blt k 5 then some (8, .ifCond .eq 15, 3, [11], 0) else some (11, .aload_n 0, 1, [0], 0)))) else (bif Nat.blt k 9 then (bif Nat.blt k 7 then some (12, .aload_n 0, 1, [0], 0) else (bif Nat.blt k 8 then some (13, .getfield 42, 3, [7, 2, 2], 0) else some (16, .iload_n 1, 1, [1], 0))) else (bif Nat.blt k 11 then (bif Nat.blt k 10 then some (17, .invokevirtual 187, 3, [89, 3], 0) else some (20, .goto 4, 3, [12], 0)) else (bif Nat.blt k 12 then some (23, .iconst (-1), 1, [], (-1)) else some (24, .ireturn, 1, [], 0)))))
/-- 74: OracleWheel.read(II)I -/
def m_t74 (k : Nat) : Option ME := (bif Nat.blt k 10 then (bif Nat.blt k 5 then (bif Nat.blt k 2 then (bif Nat.blt k 1 then some (0, .aload_n 0, 1, [0], 0) else some (1, .getfield 13, 3, [7, 9, 2], 0)) else (bif Nat.blt k 3 then some (4, .iload_n 1, 1, [1], 0) else (bif Nat.blt k 4 then some (5, .invokevirtual 135, 3, [7, 2], 0) else some (8, .ifCond .eq 10, 3, [8], 0)))) else (bif Nat.blt k 7 then (bif Nat.blt k 6 then some (11, .iload_n 2, 1, [2], 0) else some (12, .invokestatic 191, 3, [88, 1], 0)) else (bif Nat.blt k 8 then some (15, .ifCond .ne 5, 3, [10], 0) else (bif Nat.blt k 9 then some (18, .iconst (-1), 1, [], (-1)) else some (19, .ireturn, 1, [], 0))))) else (bif Nat.blt k 15 then (bif Nat.blt k 12 then (bif Nat.blt k 11 then some (20, .aload_n 0, 1, [0], 0) else some (21, .getfield 71, 3, [7, 7, 2], 0)) else (bif Nat.blt k 13 then some (24, .iload_n 2, 1, [2], 0) else (bif Nat.blt k 14 then some (25, .aload_n 0, 1, [0], 0) else some (26, .aload_n 0, 1, [0], 0)))) else (bif Nat.blt k 17 then (bif Nat.blt k 16 then some (27, .getfield 42, 3, [7, 2, 2], 0) else some (30, .iload_n 1, 1, [1], 0)) else (bif Nat.blt k 18 then some (31, .invokevirtual 187, 3, [89, 3], 0) else (bif Nat.blt k 19 then some (34, .invokevirtual 194, 3, [28, 3], 0) else some (37, .ireturn, 1, [], 0))))))
/-- 75: OracleWheel.both(III)I -/
def m_t75 (k : Nat) : Option ME := (bif Nat.blt k 23 then (bif Nat.blt k 11 then (bif Nat.blt k 5 then (bif Nat.blt k 2 then (bif Nat.blt k 1 then some (0, .aload_n 0, 1, [0], 0) else some (1, .getfield 13, 3, [7, 9, 2], 0)) else (bif Nat.blt k 3 then some (4, .iload_n 1, 1, [1], 0) else (bif Nat.blt k 4 then some (5, .invokevirtual 135, 3, [7, 2], 0) else some (8, .ifCond .eq 26, 3, [16], 0)))) else (bif Nat.blt k 8 then (bif Nat.blt k 6 then some (11, .aload_n 0, 1, [0], 0) else (bif Nat.blt k 7 then some (12, .getfield 13, 3, [7, 9, 2], 0) else some (15, .iload_n 2, 1, [2], 0))) else (bif Nat.blt k 9 then some (16, .invokevirtual 135, 3, [7, 2], 0) else (bif Nat.blt k 10 then some (19, .ifCond .eq 15, 3, [16], 0) else some (22, .iload_n 1, 1, [1], 0))))) else (bif Nat.blt k 17 then (bif Nat.blt k 14 then (bif Nat.blt k 12 then some (23, .iload_n 2, 1, [2], 0) else (bif Nat.blt k 13 then some (24, .if_icmp .eq 10, 3, [16], 0) else some (27, .iload_n 3, 1, [3], 0))) else (bif Nat.blt k 15 then some (28, .invokestatic 191, 3, [88, 1], 0) else (bif Nat.blt k 16 then some (31, .ifCond .ne 5, 3, [18], 0) else some (34, .iconst (-1), 1, [], (-1))))) else (bif Nat.blt k 20 then (bif Nat.blt k 18 then some (35, .ireturn, 1, [], 0) else (bif Nat.blt k 19 then some (36, .aload_n 0, 1, [0], 0) else some (37, .aload_n 0, 1, [0], 0))) else (bif Nat.blt k 21 then some (38, .getfield 42, 3, [7, 2, 2], 0) else (bif Nat.blt k 22 then some (41, .iload_n 1, 1, [1], 0) else some (42, .invokevirtual 187, 3, [89, 3], 0)))))) else (bif Nat.blt k 34 then (bif Nat.blt k 28 then (bif Nat.blt k 25 then (bif Nat.blt k 24 then some (45, .istore 4, 2, [4], 0) else some (47, .aload_n 0, 1, [0], 0)) else (bif Nat.blt k 26 then some (48, .aload_n 0, 1, [0], 0) else (bif Nat.blt k 27 then some (49, .getfield 42, 3, [7, 2, 2], 0) else some (52, .iload_n 2, 1, [2], 0)))) else (bif Nat.blt k 31 then (bif Nat.blt k 29 then some (53, .invokevirtual 187, 3, [89, 3], 0) else (bif Nat.blt k 30 then some (56, .istore 5, 2, [5], 0) else some (58, .iload 4, 2, [4], 0))) else (bif Nat.blt k 32 then some (60, .bipush (-4), 2, [], (-4)) else (bif Nat.blt k 33 then some (62, .if_icmp .eq 10, 3, [36], 0) else some (65, .iload 5, 2, [5], 0))))) else (bif Nat.blt k 40 then (bif Nat.blt k 37 then (bif Nat.blt k 35 then some (67, .bipush (-4), 2, [], (-4)) else (bif Nat.blt k 36 then some (69, .if_icmp .ne 6, 3, [38], 0) else some (72, .bipush (-4), 2, [], (-4)))) else (bif Nat.blt k 38 then some (74, .ireturn, 1, [], 0) else (bif Nat.blt k 39 then some (75, .aload_n 0, 1, [0], 0) else some (76, .getfield 71, 3, [7, 7, 2], 0)))) else (bif Nat.blt k 43 then (bif Nat.blt k 41 then some (79, .iload_n 3, 1, [3], 0) else (bif Nat.blt k 42 then some (80, .iload 4, 2, [4], 0) else some (82, .iload 5, 2, [5], 0))) else (bif Nat.blt k 44 then some (84, .invokestatic 198, 3, [162, 2], 0) else (bif Nat.blt k 45 then some (87, .invokevirtual 194, 3, [28, 3], 0) else some (90, .ireturn, 1, [], 0)))))))
/-- 76: OracleWheel.hold(I)I -/
def m_t76 (k : Nat) : Option ME := (bif Nat.blt k 24 then (bif Nat.blt k 12 then (bif Nat.blt k 6 then (bif Nat.blt k 3 then (bif Nat.blt k 1 then some (0, .aload_n 0, 1, [0], 0) else (bif Nat.blt k 2 then some (1, .getfield 13, 3, [7, 9, 2], 0) else some (4, .iload_n 1, 1, [1], 0))) else (bif Nat.blt k 4 then some (5, .invokevirtual 135, 3, [7, 2], 0) else (bif Nat.blt k 5 then some (8, .ifCond .ne 5, 3, [7], 0) else some (11, .iconst (-1), 1, [], (-1))))) else (bif Nat.blt k 9 then (bif Nat.blt k 7 then some (12, .ireturn, 1, [], 0) else (bif Nat.blt k 8 then some (13, .aload_n 0, 1, [0], 0) else some (14, .aload_n 0, 1, [0], 0))) else (bif Nat.blt k 10 then some (15, .getfield 42, 3, [7, 2, 2], 0) else (bif Nat.blt k 11 then some (18, .iload_n 1, 1, [1], 0) else some (19, .invokevirtual 203, 3, [90, 3], 0))))) else (bif Nat.blt k 18 then (bif Nat.blt k 15 then (bif Nat.blt k 13 then some (22, .ifCond .eq 5, 3, [15], 0) else (bif Nat.blt k 14 then some (25, .iconst 0, 1, [], nI 0) else some (26, .ireturn, 1, [], 0))) else (bif Nat.blt k 16 then some (27, .aload_n 0, 1, [0], 0) else (bif Nat.blt k 17 then some (28, .getfield 42, 3, [7, 2, 2], 0) else some (31, .getfield 166, 3, [1, 5, 1], 0)))) else (bif Nat.blt k 21 then (bif Nat.blt k 19 then some (34, .ifCond .eq 7, 3, [21], 0) else (bif Nat.blt k 20 then some (37, .iconst 0, 1, [], nI 0) else some (38, .goto 5, 3, [22], 0))) else (bif Nat.blt k 22 then some (41, .bipush 12, 2, [], nI 12) else (bif Nat.blt k 23 then some (43, .istore_n 2, 1, [2], 0) else some (44, .iconst 1, 1, [], nI 1)))))) else (bif Nat.blt k 36 then (bif Nat.blt k 30 then (bif Nat.blt k 27 then (bif Nat.blt k 25 then some (45, .istore_n 3, 1, [3], 0) else (bif Nat.blt k 26 then some (46, .iload_n 3, 1, [3], 0) else some (47, .iload_n 2, 1, [2], 0))) else (bif Nat.blt k 28 then some (48, .if_icmp .gt 42, 3, [47], 0) else (bif Nat.blt k 29 then some (51, .aload_n 0, 1, [0], 0) else some (52, .getfield 46, 3, [7, 3, 2], 0)))) else (bif Nat.blt k 33 then (bif Nat.blt k 31 then some (55, .aload_n 0, 1, [0], 0) else (bif Nat.blt k 32 then some (56, .getfield 42, 3, [7, 2, 2], 0) else some (59, .invokevirtual 207, 3, [14, 2], 0))) else (bif Nat.blt k 34 then some (62, .aload_n 0, 1, [0], 0) else (bif Nat.blt k 35 then some (63, .getfield 46, 3, [7, 3, 2], 0) else some (66, .iload_n 3, 1, [3], 0))))) else (bif Nat.blt k 42 then (bif Nat.blt k 39 then (bif Nat.blt k 37 then some (67, .putfield 170, 3, [1, 4, 0], 0) else (bif Nat.blt k 38 then some (70, .aload_n 0, 1, [0], 0) else some (71, .aload_n 0, 1, [0], 0))) else (bif Nat.blt k 40 then some (72, .getfield 46, 3, [7, 3, 2], 0) else (bif Nat.blt k 41 then some (75, .iload_n 1, 1, [1], 0) else some (76, .invokevirtual 203, 3, [90, 3], 0)))) else (bif Nat.blt k 45 then (bif Nat.blt k 43 then some (79, .ifCond .eq 5, 3, [45], 0) else (bif Nat.blt k 44 then some (82, .iload_n 3, 1, [3], 0) else some (83, .ireturn, 1, [], 0))) else (bif Nat.blt k 47 then (bif Nat.blt k 46 then some (84, .iinc 3 1, 3, [3], nI 1) else some (87, .goto (-41), 3, [25], 0)) else (bif Nat.blt k 48 then some (90, .bipush (-4), 2, [], (-4)) else some (92, .ireturn, 1, [], 0)))))))
/-- 77: OracleWheel.first(I)I -/
def m_t77 (k : Nat) : Option ME := (bif Nat.blt k 45 then (bif Nat.blt k 22 then (bif Nat.blt k 11 then (bif Nat.blt k 5 then (bif Nat.blt k 2 then (bif Nat.blt k 1 then some (0, .aload_n 0, 1, [0], 0) else some (1, .getfield 13, 3, [7, 9, 2], 0)) else (bif Nat.blt k 3 then some (4, .iload_n 1, 1, [1], 0) else (bif Nat.blt k 4 then some (5, .invokevirtual 135, 3, [7, 2], 0) else some (8, .ifCond .ne 5, 3, [7], 0)))) else (bif Nat.blt k 8 then (bif Nat.blt k 6 then some (11, .iconst (-1), 1, [], (-1)) else (bif Nat.blt k 7 then some (12, .ireturn, 1, [], 0) else some (13, .aload_n 0, 1, [0], 0))) else (bif Nat.blt k 9 then some (14, .getfield 42, 3, [7, 2, 2], 0) else (bif Nat.blt k 10 then some (17, .getfield 144, 3, [1, 1, 2], 0) else some (20, .iload_n 1, 1, [1], 0))))) else (bif Nat.blt k 16 then (bif Nat.blt k 13 then (bif Nat.blt k 12 then some (21, .iaload, 1, [], 0) else some (22, .ifCond .gt 15, 3, [19], 0)) else (bif Nat.blt k 14 then some (25, .aload_n 0, 1, [0], 0) else (bif Nat.blt k 15 then some (26, .getfield 42, 3, [7, 2, 2], 0) else some (29, .getfield 138, 3, [1, 0, 2], 0)))) else (bif Nat.blt k 19 then (bif Nat.blt k 17 then some (32, .iload_n 1, 1, [1], 0) else (bif Nat.blt k 18 then some (33, .iaload, 1, [], 0) else some (34, .ifCond .ne 6, 3, [21], 0))) else (bif Nat.blt k 20 then some (37, .bipush (-4), 2, [], (-4)) else (bif Nat.blt k 21 then some (39, .ireturn, 1, [], 0) else some (40, .aload_n 0, 1, [0], 0)))))) else (bif Nat.blt k 33 then (bif Nat.blt k 27 then (bif Nat.blt k 24 then (bif Nat.blt k 23 then some (41, .getfield 71, 3, [7, 7, 2], 0) else some (44, .aload_n 0, 1, [0], 0)) else (bif Nat.blt k 25 then some (45, .getfield 13, 3, [7, 9, 2], 0) else (bif Nat.blt k 26 then some (48, .aload_n 0, 1, [0], 0) else some (49, .getfield 42, 3, [7, 2, 2], 0)))) else (bif Nat.blt k 30 then (bif Nat.blt k 28 then some (52, .invokevirtual 210, 3, [29, 3], 0) else (bif Nat.blt k 29 then some (55, .aload_n 0, 1, [0], 0) else some (56, .getfield 71, 3, [7, 7, 2], 0))) else (bif Nat.blt k 31 then some (59, .iconst 0, 1, [], nI 0) else (bif Nat.blt k 32 then some (60, .aload_n 0, 1, [0], 0) else some (61, .getfield 42, 3, [7, 2, 2], 0))))) else (bif Nat.blt k 39 then (bif Nat.blt k 36 then (bif Nat.blt k 34 then some (64, .getfield 138, 3, [1, 0, 2], 0) else (bif Nat.blt k 35 then some (67, .iload_n 1, 1, [1], 0) else some (68, .iaload, 1, [], 0))) else (bif Nat.blt k 37 then some (69, .sipush 1024, 3, [], nI 1024) else (bif Nat.blt k 38 then some (72, .invokevirtual 214, 3, [30, 4], 0) else some (75, .iconst 0, 1, [], nI 0)))) else (bif Nat.blt k 42 then (bif Nat.blt k 40 then some (76, .istore_n 2, 1, [2], 0) else (bif Nat.blt k 41 then some (77, .iload_n 2, 1, [2], 0) else some (78, .aload_n 0, 1, [0], 0))) else (bif Nat.blt k 43 then some (79, .getfield 13, 3, [7, 9, 2], 0) else (bif Nat.blt k 44 then some (82, .getfield 218, 3, [0, 12, 0], 0) else some (85, .if_icmp .ge 57, 3, [74], 0))))))) else (bif Nat.blt k 67 then (bif Nat.blt k 56 then (bif Nat.blt k 50 then (bif Nat.blt k 47 then (bif Nat.blt k 46 then some (88, .aload_n 0, 1, [0], 0) else some (89, .getfield 42, 3, [7, 2, 2], 0)) else (bif Nat.blt k 48 then some (92, .aload_n 0, 1, [0], 0) else (bif Nat.blt k 49 then some (93, .getfield 13, 3, [7, 9, 2], 0) else some (96, .iload_n 1, 1, [1], 0)))) else (bif Nat.blt k 53 then (bif Nat.blt k 51 then some (97, .iload_n 2, 1, [2], 0) else (bif Nat.blt k 52 then some (98, .invokevirtual 158, 3, [22, 4], 0) else some (101, .istore_n 3, 1, [3], 0))) else (bif Nat.blt k 54 then some (102, .iload_n 3, 1, [3], 0) else (bif Nat.blt k 55 then some (103, .bipush (-4), 2, [], (-4)) else some (105, .if_icmp .eq 31, 3, [72], 0))))) else (bif Nat.blt k 61 then (bif Nat.blt k 58 then (bif Nat.blt k 57 then some (108, .aload_n 0, 1, [0], 0) else some (109, .getfield 71, 3, [7, 7, 2], 0)) else (bif Nat.blt k 59 then some (112, .iload_n 3, 1, [3], 0) else (bif Nat.blt k 60 then some (113, .aload_n 0, 1, [0], 0) else some (114, .getfield 13, 3, [7, 9, 2], 0)))) else (bif Nat.blt k 64 then (bif Nat.blt k 62 then some (117, .iload_n 2, 1, [2], 0) else (bif Nat.blt k 63 then some (118, .aload_n 0, 1, [0], 0) else some (119, .getfield 42, 3, [7, 2, 2], 0))) else (bif Nat.blt k 65 then some (122, .getfield 138, 3, [1, 0, 2], 0) else (bif Nat.blt k 66 then some (125, .iload_n 1, 1, [1], 0) else some (126, .iaload, 1, [], 0)))))) else (bif Nat.blt k 78 then (bif Nat.blt k 72 then (bif Nat.blt k 69 then (bif Nat.blt k 68 then some (127, .invokevirtual 221, 3, [10, 3], 0) else some (130, .iconst 1, 1, [], nI 1)) else (bif Nat.blt k 70 then some (131, .iload_n 2, 1, [2], 0) else (bif Nat.blt k 71 then some (132, .ishl, 1, [], 0) else some (133, .invokevirtual 214, 3, [30, 4], 0)))) else (bif Nat.blt k 75 then (bif Nat.blt k 73 then some (136, .iinc 2 1, 3, [2], nI 1) else (bif Nat.blt k 74 then some (139, .goto (-62), 3, [40], 0) else some (142, .aload_n 0, 1, [0], 0))) else (bif Nat.blt k 76 then some (143, .getfield 71, 3, [7, 7, 2], 0) else (bif Nat.blt k 77 then some (146, .aload_n 0, 1, [0], 0) else some (147, .getfield 13, 3, [7, 9, 2], 0))))) else (bif Nat.blt k 84 then (bif Nat.blt k 81 then (bif Nat.blt k 79 then some (150, .aload_n 0, 1, [0], 0) else (bif Nat.blt k 80 then some (151, .getfield 42, 3, [7, 2, 2], 0) else some (154, .getfield 124, 3, [1, 2, 0], 0))) else (bif Nat.blt k 82 then some (157, .invokevirtual 224, 3, [32, 3], 0) else (bif Nat.blt k 83 then some (160, .aload_n 0, 1, [0], 0) else some (161, .getfield 71, 3, [7, 7, 2], 0)))) else (bif Nat.blt k 87 then (bif Nat.blt k 85 then some (164, .aload_n 0, 1, [0], 0) else (bif Nat.blt k 86 then some (165, .getfield 71, 3, [7, 7, 2], 0) else some (168, .invokevirtual 227, 3, [35, 1], 0))) else (bif Nat.blt k 88 then some (171, .invokevirtual 231, 3, [34, 2], 0) else (bif Nat.blt k 89 then some (174, .invokestatic 234, 3, [91, 1], 0) else some (177, .ireturn, 1, [], 0))))))))
/-- 78: OracleWheel.see(II)I -/
def m_t78 (k : Nat) : Option ME := (bif Nat.blt k 11 then (bif Nat.blt k 5 then (bif Nat.blt k 2 then (bif Nat.blt k 1 then some (0, .iload_n 1, 1, [1], 0) else some (1, .invokestatic 191, 3, [88, 1], 0)) else (bif Nat.blt k 3 then some (4, .ifCond .eq 13, 3, [8], 0) else (bif Nat.blt k 4 then some (7, .iload_n 2, 1, [2], 0) else some (8, .ifCond .lt 9, 3, [8], 0)))) else (bif Nat.blt k 8 then (bif Nat.blt k 6 then some (11, .iload_n 2, 1, [2], 0) else (bif Nat.blt k 7 then some (12, .bipush 99, 2, [], nI 99) else some (14, .if_icmp .le 5, 3, [10], 0))) else (bif Nat.blt k 9 then some (17, .iconst (-1), 1, [], (-1)) else (bif Nat.blt k 10 then some (18, .ireturn, 1, [], 0) else some (19, .aload_n 0, 1, [0], 0))))) else (bif Nat.blt k 16 then (bif Nat.blt k 13 then (bif Nat.blt k 12 then some (20, .getfield 64, 3, [7, 6, 2], 0) else some (23, .iload_n 1, 1, [1], 0)) else (bif Nat.blt k 14 then some (24, .iload_n 2, 1, [2], 0) else (bif Nat.blt k 15 then some (25, .invokevirtual 237, 3, [53, 3], 0) else some (28, .ifCond .eq 13, 3, [20], 0)))) else (bif Nat.blt k 19 then (bif Nat.blt k 17 then some (31, .aload_n 0, 1, [0], 0) else (bif Nat.blt k 18 then some (32, .getfield 64, 3, [7, 6, 2], 0) else some (35, .getfield 98, 3, [5, 2, 0], 0))) else (bif Nat.blt k 20 then some (38, .goto 5, 3, [21], 0) else (bif Nat.blt k 21 then some (41, .bipush (-3), 2, [], (-3)) else some (43, .ireturn, 1, [], 0))))))
/-- 79: OracleWheel.forget()I -/
def m_t79 (k : Nat) : Option ME := (bif Nat.blt k 5 then (bif Nat.blt k 2 then (bif Nat.blt k 1 then some (0, .aload_n 0, 1, [0], 0) else some (1, .getfield 64, 3, [7, 6, 2], 0)) else (bif Nat.blt k 3 then some (4, .getfield 98, 3, [5, 2, 0], 0) else (bif Nat.blt k 4 then some (7, .istore_n 1, 1, [1], 0) else some (8, .aload_n 0, 1, [0], 0)))) else (bif Nat.blt k 7 then (bif Nat.blt k 6 then some (9, .getfield 64, 3, [7, 6, 2], 0) else some (12, .iconst 0, 1, [], nI 0)) else (bif Nat.blt k 8 then some (13, .putfield 98, 3, [5, 2, 0], 0) else (bif Nat.blt k 9 then some (16, .iload_n 1, 1, [1], 0) else some (17, .ireturn, 1, [], 0)))))
/-- 80: OracleWheel.laws(I)I -/
def m_t80 (k : Nat) : Option ME := (bif Nat.blt k 26 then (bif Nat.blt k 13 then (bif Nat.blt k 6 then (bif Nat.blt k 3 then (bif Nat.blt k 1 then some (0, .iload_n 1, 1, [1], 0) else (bif Nat.blt k 2 then some (1, .ifCond .lt 8, 3, [5], 0) else some (4, .iload_n 1, 1, [1], 0))) else (bif Nat.blt k 4 then some (5, .iconst 1, 1, [], nI 1) else (bif Nat.blt k 5 then some (6, .if_icmp .le 5, 3, [7], 0) else some (9, .iconst (-1), 1, [], (-1))))) else (bif Nat.blt k 9 then (bif Nat.blt k 7 then some (10, .ireturn, 1, [], 0) else (bif Nat.blt k 8 then some (11, .iconst 0, 1, [], nI 0) else some (12, .istore_n 2, 1, [2], 0))) else (bif Nat.blt k 11 then (bif Nat.blt k 10 then some (13, .bipush (-4), 2, [], (-4)) else some (15, .istore_n 3, 1, [3], 0)) else (bif Nat.blt k 12 then some (16, .iconst 0, 1, [], nI 0) else some (17, .istore 4, 2, [4], 0))))) else (bif Nat.blt k 19 then (bif Nat.blt k 16 then (bif Nat.blt k 14 then some (19, .iload 4, 2, [4], 0) else (bif Nat.blt k 15 then some (21, .bipush 11, 2, [], nI 11) else some (23, .if_icmp .gt 67, 3, [46], 0))) else (bif Nat.blt k 17 then some (26, .iconst 1, 1, [], nI 1) else (bif Nat.blt k 18 then some (27, .istore 5, 2, [5], 0) else some (29, .iload 5, 2, [5], 0)))) else (bif Nat.blt k 22 then (bif Nat.blt k 20 then some (31, .bipush 24, 2, [], nI 24) else (bif Nat.blt k 21 then some (33, .if_icmp .gt 51, 3, [44], 0) else some (36, .aload_n 0, 1, [0], 0))) else (bif Nat.blt k 24 then (bif Nat.blt k 23 then some (37, .getfield 64, 3, [7, 6, 2], 0) else some (40, .aload_n 0, 1, [0], 0)) else (bif Nat.blt k 25 then some (41, .getfield 13, 3, [7, 9, 2], 0) else some (44, .aload_n 0, 1, [0], 0)))))) else (bif Nat.blt k 39 then (bif Nat.blt k 32 then (bif Nat.blt k 29 then (bif Nat.blt k 27 then some (45, .getfield 42, 3, [7, 2, 2], 0) else (bif Nat.blt k 28 then some (48, .iload 4, 2, [4], 0) else some (50, .iload 5, 2, [5], 0))) else (bif Nat.blt k 30 then some (52, .invokevirtual 241, 3, [54, 5], 0) else (bif Nat.blt k 31 then some (55, .ifCond .eq 23, 3, [42], 0) else some (58, .iload_n 2, 1, [2], 0)))) else (bif Nat.blt k 35 then (bif Nat.blt k 33 then some (59, .ifCond .ne 14, 3, [39], 0) else (bif Nat.blt k 34 then some (62, .bipush 100, 2, [], nI 100) else some (64, .iload 4, 2, [4], 0))) else (bif Nat.blt k 37 then (bif Nat.blt k 36 then some (66, .imul, 1, [], 0) else some (67, .iload 5, 2, [5], 0)) else (bif Nat.blt k 38 then some (69, .iadd, 1, [], 0) else some (70, .goto 4, 3, [40], 0))))) else (bif Nat.blt k 45 then (bif Nat.blt k 42 then (bif Nat.blt k 40 then some (73, .iload_n 3, 1, [3], 0) else (bif Nat.blt k 41 then some (74, .istore_n 3, 1, [3], 0) else some (75, .iinc 2 1, 3, [2], nI 1))) else (bif Nat.blt k 43 then some (78, .iinc 5 1, 3, [5], nI 1) else (bif Nat.blt k 44 then some (81, .goto (-52), 3, [18], 0) else some (84, .iinc 4 1, 3, [4], nI 1)))) else (bif Nat.blt k 48 then (bif Nat.blt k 46 then some (87, .goto (-68), 3, [13], 0) else (bif Nat.blt k 47 then some (90, .iload_n 1, 1, [1], 0) else some (91, .ifCond .ne 7, 3, [50], 0))) else (bif Nat.blt k 50 then (bif Nat.blt k 49 then some (94, .iload_n 2, 1, [2], 0) else some (95, .goto 4, 3, [51], 0)) else (bif Nat.blt k 51 then some (98, .iload_n 3, 1, [3], 0) else some (99, .ireturn, 1, [], 0)))))))
/-- 81: OracleWheel.from(II)I -/
def m_t81 (k : Nat) : Option ME := (bif Nat.blt k 28 then (bif Nat.blt k 14 then (bif Nat.blt k 7 then (bif Nat.blt k 3 then (bif Nat.blt k 1 then some (0, .iload_n 1, 1, [1], 0) else (bif Nat.blt k 2 then some (1, .invokestatic 191, 3, [88, 1], 0) else some (4, .ifCond .eq 13, 3, [8], 0))) else (bif Nat.blt k 5 then (bif Nat.blt k 4 then some (7, .iload_n 2, 1, [2], 0) else some (8, .ifCond .lt 9, 3, [8], 0)) else (bif Nat.blt k 6 then some (11, .iload_n 2, 1, [2], 0) else some (12, .bipush 99, 2, [], nI 99)))) else (bif Nat.blt k 10 then (bif Nat.blt k 8 then some (14, .if_icmp .le 5, 3, [10], 0) else (bif Nat.blt k 9 then some (17, .iconst (-1), 1, [], (-1)) else some (18, .ireturn, 1, [], 0))) else (bif Nat.blt k 12 then (bif Nat.blt k 11 then some (19, .aload_n 0, 1, [0], 0) else some (20, .getfield 42, 3, [7, 2, 2], 0)) else (bif Nat.blt k 13 then some (23, .aload_n 0, 1, [0], 0) else some (24, .getfield 13, 3, [7, 9, 2], 0))))) else (bif Nat.blt k 21 then (bif Nat.blt k 17 then (bif Nat.blt k 15 then some (27, .iload_n 2, 1, [2], 0) else (bif Nat.blt k 16 then some (28, .invokevirtual 127, 3, [16, 3], 0) else some (31, .iload_n 1, 1, [1], 0))) else (bif Nat.blt k 19 then (bif Nat.blt k 18 then some (32, .if_icmp .eq 5, 3, [20], 0) else some (35, .iconst 0, 1, [], nI 0)) else (bif Nat.blt k 20 then some (36, .ireturn, 1, [], 0) else some (37, .aload_n 0, 1, [0], 0)))) else (bif Nat.blt k 24 then (bif Nat.blt k 22 then some (38, .getfield 71, 3, [7, 7, 2], 0) else (bif Nat.blt k 23 then some (41, .aload_n 0, 1, [0], 0) else some (42, .getfield 13, 3, [7, 9, 2], 0))) else (bif Nat.blt k 26 then (bif Nat.blt k 25 then some (45, .aload_n 0, 1, [0], 0) else some (46, .getfield 42, 3, [7, 2, 2], 0)) else (bif Nat.blt k 27 then some (49, .invokevirtual 210, 3, [29, 3], 0) else some (52, .iconst 0, 1, [], nI 0)))))) else (bif Nat.blt k 42 then (bif Nat.blt k 35 then (bif Nat.blt k 31 then (bif Nat.blt k 29 then some (53, .istore_n 3, 1, [3], 0) else (bif Nat.blt k 30 then some (54, .iload_n 3, 1, [3], 0) else some (55, .aload_n 0, 1, [0], 0))) else (bif Nat.blt k 33 then (bif Nat.blt k 32 then some (56, .getfield 13, 3, [7, 9, 2], 0) else some (59, .getfield 104, 3, [0, 11, 0], 0)) else (bif Nat.blt k 34 then some (62, .if_icmp .ge 21, 3, [44], 0) else some (65, .aload_n 0, 1, [0], 0)))) else (bif Nat.blt k 38 then (bif Nat.blt k 36 then some (66, .getfield 71, 3, [7, 7, 2], 0) else (bif Nat.blt k 37 then some (69, .iconst 0, 1, [], nI 0) else some (70, .iload_n 3, 1, [3], 0))) else (bif Nat.blt k 40 then (bif Nat.blt k 39 then some (71, .iconst 1, 1, [], nI 1) else some (72, .iload_n 3, 1, [3], 0)) else (bif Nat.blt k 41 then some (73, .ishl, 1, [], 0) else some (74, .invokevirtual 214, 3, [30, 4], 0))))) else (bif Nat.blt k 49 then (bif Nat.blt k 45 then (bif Nat.blt k 43 then some (77, .iinc 3 1, 3, [3], nI 1) else (bif Nat.blt k 44 then some (80, .goto (-26), 3, [29], 0) else some (83, .aload_n 0, 1, [0], 0))) else (bif Nat.blt k 47 then (bif Nat.blt k 46 then some (84, .getfield 71, 3, [7, 7, 2], 0) else some (87, .aload_n 0, 1, [0], 0)) else (bif Nat.blt k 48 then some (88, .getfield 13, 3, [7, 9, 2], 0) else some (91, .aload_n 0, 1, [0], 0)))) else (bif Nat.blt k 53 then (bif Nat.blt k 51 then (bif Nat.blt k 50 then some (92, .getfield 42, 3, [7, 2, 2], 0) else some (95, .getfield 124, 3, [1, 2, 0], 0)) else (bif Nat.blt k 52 then some (98, .invokevirtual 224, 3, [32, 3], 0) else some (101, .aload_n 0, 1, [0], 0))) else (bif Nat.blt k 55 then (bif Nat.blt k 54 then some (102, .getfield 71, 3, [7, 7, 2], 0) else some (105, .iload_n 2, 1, [2], 0)) else (bif Nat.blt k 56 then some (106, .invokevirtual 231, 3, [34, 2], 0) else some (109, .ireturn, 1, [], 0)))))))
/-- 82: OracleWheel.grazing(IIII)I -/
def m_t82 (k : Nat) : Option ME := (bif Nat.blt k 43 then (bif Nat.blt k 21 then (bif Nat.blt k 10 then (bif Nat.blt k 5 then (bif Nat.blt k 2 then (bif Nat.blt k 1 then some (0, .iload_n 1, 1, [1], 0) else some (1, .invokestatic 191, 3, [88, 1], 0)) else (bif Nat.blt k 3 then some (4, .ifCond .eq 34, 3, [18], 0) else (bif Nat.blt k 4 then some (7, .iload_n 2, 1, [2], 0) else some (8, .ifCond .lt 30, 3, [18], 0)))) else (bif Nat.blt k 7 then (bif Nat.blt k 6 then some (11, .iload_n 2, 1, [2], 0) else some (12, .bipush 8, 2, [], nI 8)) else (bif Nat.blt k 8 then some (14, .if_icmp .gt 24, 3, [18], 0) else (bif Nat.blt k 9 then some (17, .iload_n 3, 1, [3], 0) else some (18, .ifCond .lt 20, 3, [18], 0))))) else (bif Nat.blt k 15 then (bif Nat.blt k 12 then (bif Nat.blt k 11 then some (21, .iload_n 3, 1, [3], 0) else some (22, .bipush 10, 2, [], nI 10)) else (bif Nat.blt k 13 then some (24, .if_icmp .gt 14, 3, [18], 0) else (bif Nat.blt k 14 then some (27, .iload 4, 2, [4], 0) else some (29, .ifCond .lt 9, 3, [18], 0)))) else (bif Nat.blt k 18 then (bif Nat.blt k 16 then some (32, .iload 4, 2, [4], 0) else (bif Nat.blt k 17 then some (34, .iconst 1, 1, [], nI 1) else some (35, .if_icmp .le 5, 3, [20], 0))) else (bif Nat.blt k 19 then some (38, .iconst (-1), 1, [], (-1)) else (bif Nat.blt k 20 then some (39, .ireturn, 1, [], 0) else some (40, .aload_n 0, 1, [0], 0)))))) else (bif Nat.blt k 32 then (bif Nat.blt k 26 then (bif Nat.blt k 23 then (bif Nat.blt k 22 then some (41, .iload_n 2, 1, [2], 0) else some (42, .iload_n 3, 1, [3], 0)) else (bif Nat.blt k 24 then some (43, .invokevirtual 245, 3, [92, 3], 0) else (bif Nat.blt k 25 then some (46, .istore 5, 2, [5], 0) else some (48, .iconst 0, 1, [], nI 0)))) else (bif Nat.blt k 29 then (bif Nat.blt k 27 then some (49, .istore 6, 2, [6], 0) else (bif Nat.blt k 28 then some (51, .aload_n 0, 1, [0], 0) else some (52, .getfield 42, 3, [7, 2, 2], 0))) else (bif Nat.blt k 30 then some (55, .aload_n 0, 1, [0], 0) else (bif Nat.blt k 31 then some (56, .getfield 13, 3, [7, 9, 2], 0) else some (59, .aload_n 0, 1, [0], 0))))) else (bif Nat.blt k 37 then (bif Nat.blt k 34 then (bif Nat.blt k 33 then some (60, .getfield 13, 3, [7, 9, 2], 0) else some (63, .getfield 248, 3, [0, 8, 0], 0)) else (bif Nat.blt k 35 then some (66, .aload_n 0, 1, [0], 0) else (bif Nat.blt k 36 then some (67, .getfield 13, 3, [7, 9, 2], 0) else some (70, .getfield 251, 3, [0, 9, 0], 0)))) else (bif Nat.blt k 40 then (bif Nat.blt k 38 then some (73, .iload_n 2, 1, [2], 0) else (bif Nat.blt k 39 then some (74, .invokevirtual 254, 3, [15, 5], 0) else some (77, .istore 7, 2, [7], 0))) else (bif Nat.blt k 41 then some (79, .iconst 0, 1, [], nI 0) else (bif Nat.blt k 42 then some (80, .istore 8, 2, [8], 0) else some (82, .iload 8, 2, [8], 0))))))) else (bif Nat.blt k 65 then (bif Nat.blt k 54 then (bif Nat.blt k 48 then (bif Nat.blt k 45 then (bif Nat.blt k 44 then some (84, .iload_n 2, 1, [2], 0) else some (85, .if_icmp .gt 54, 3, [70], 0)) else (bif Nat.blt k 46 then some (88, .iload 8, 2, [8], 0) else (bif Nat.blt k 47 then some (90, .aload_n 0, 1, [0], 0) else some (91, .getfield 75, 3, [7, 8, 2], 0)))) else (bif Nat.blt k 51 then (bif Nat.blt k 49 then some (94, .arraylength, 1, [], 0) else (bif Nat.blt k 50 then some (95, .if_icmp .ge 44, 3, [70], 0) else some (98, .aload_n 0, 1, [0], 0))) else (bif Nat.blt k 52 then some (99, .getfield 13, 3, [7, 9, 2], 0) else (bif Nat.blt k 53 then some (102, .aload_n 0, 1, [0], 0) else some (103, .getfield 13, 3, [7, 9, 2], 0))))) else (bif Nat.blt k 59 then (bif Nat.blt k 56 then (bif Nat.blt k 55 then some (106, .iload 7, 2, [7], 0) else some (108, .iload 8, 2, [8], 0)) else (bif Nat.blt k 57 then some (110, .iadd, 1, [], 0) else (bif Nat.blt k 58 then some (111, .invokevirtual 258, 3, [9, 2], 0) else some (114, .invokevirtual 107, 3, [8, 2], 0)))) else (bif Nat.blt k 62 then (bif Nat.blt k 60 then some (117, .iload_n 1, 1, [1], 0) else (bif Nat.blt k 61 then some (118, .if_icmp .ne 15, 3, [68], 0) else some (121, .iload 6, 2, [6], 0))) else (bif Nat.blt k 63 then some (123, .aload_n 0, 1, [0], 0) else (bif Nat.blt k 64 then some (124, .getfield 75, 3, [7, 8, 2], 0) else some (127, .iload 8, 2, [8], 0)))))) else (bif Nat.blt k 76 then (bif Nat.blt k 70 then (bif Nat.blt k 67 then (bif Nat.blt k 66 then some (129, .iaload, 1, [], 0) else some (130, .iadd, 1, [], 0)) else (bif Nat.blt k 68 then some (131, .istore 6, 2, [6], 0) else (bif Nat.blt k 69 then some (133, .iinc 8 1, 3, [8], nI 1) else some (136, .goto (-54), 3, [42], 0)))) else (bif Nat.blt k 73 then (bif Nat.blt k 71 then some (139, .iload 5, 2, [5], 0) else (bif Nat.blt k 72 then some (141, .iload 6, 2, [6], 0) else some (143, .invokestatic 261, 3, [93, 2], 0))) else (bif Nat.blt k 74 then some (146, .istore 8, 2, [8], 0) else (bif Nat.blt k 75 then some (148, .iload 8, 2, [8], 0) else some (150, .iconst 1, 1, [], nI 1))))) else (bif Nat.blt k 81 then (bif Nat.blt k 78 then (bif Nat.blt k 77 then some (151, .if_icmp .ge 7, 3, [79], 0) else some (154, .iconst (-1), 1, [], (-1))) else (bif Nat.blt k 79 then some (155, .goto 18, 3, [86], 0) else (bif Nat.blt k 80 then some (158, .iload 4, 2, [4], 0) else some (160, .ifCond .ne 8, 3, [83], 0)))) else (bif Nat.blt k 84 then (bif Nat.blt k 82 then some (163, .iload 6, 2, [6], 0) else (bif Nat.blt k 83 then some (165, .goto 5, 3, [84], 0) else some (168, .iload 5, 2, [5], 0))) else (bif Nat.blt k 85 then some (170, .iload 8, 2, [8], 0) else (bif Nat.blt k 86 then some (172, .idiv, 1, [], 0) else some (173, .ireturn, 1, [], 0))))))))
/-- 83: OracleWheel.year(III)I -/
def m_t83 (k : Nat) : Option ME := (bif Nat.blt k 30 then (bif Nat.blt k 15 then (bif Nat.blt k 7 then (bif Nat.blt k 3 then (bif Nat.blt k 1 then some (0, .iload_n 1, 1, [1], 0) else (bif Nat.blt k 2 then some (1, .ifCond .lt 30, 3, [16], 0) else some (4, .iload_n 1, 1, [1], 0))) else (bif Nat.blt k 5 then (bif Nat.blt k 4 then some (5, .sipush 9999, 3, [], nI 9999) else some (8, .if_icmp .gt 23, 3, [16], 0)) else (bif Nat.blt k 6 then some (11, .iload_n 2, 1, [2], 0) else some (12, .iconst 1, 1, [], nI 1)))) else (bif Nat.blt k 11 then (bif Nat.blt k 9 then (bif Nat.blt k 8 then some (13, .if_icmp .lt 18, 3, [16], 0) else some (16, .iload_n 2, 1, [2], 0)) else (bif Nat.blt k 10 then some (17, .bipush 60, 2, [], nI 60) else some (19, .if_icmp .gt 12, 3, [16], 0))) else (bif Nat.blt k 13 then (bif Nat.blt k 12 then some (22, .iload_n 3, 1, [3], 0) else some (23, .ifCond .lt 8, 3, [16], 0)) else (bif Nat.blt k 14 then some (26, .iload_n 3, 1, [3], 0) else some (27, .iconst 1, 1, [], nI 1))))) else (bif Nat.blt k 22 then (bif Nat.blt k 18 then (bif Nat.blt k 16 then some (28, .if_icmp .le 5, 3, [18], 0) else (bif Nat.blt k 17 then some (31, .iconst (-1), 1, [], (-1)) else some (32, .ireturn, 1, [], 0))) else (bif Nat.blt k 20 then (bif Nat.blt k 19 then some (33, .aload_n 0, 1, [0], 0) else some (34, .getfield 46, 3, [7, 3, 2], 0)) else (bif Nat.blt k 21 then some (37, .aload_n 0, 1, [0], 0) else some (38, .getfield 42, 3, [7, 2, 2], 0)))) else (bif Nat.blt k 26 then (bif Nat.blt k 24 then (bif Nat.blt k 23 then some (41, .invokevirtual 207, 3, [14, 2], 0) else some (44, .iconst 0, 1, [], nI 0)) else (bif Nat.blt k 25 then some (45, .istore 4, 2, [4], 0) else some (47, .iconst 0, 1, [], nI 0))) else (bif Nat.blt k 28 then (bif Nat.blt k 27 then some (48, .istore 5, 2, [5], 0) else some (50, .iload 5, 2, [5], 0)) else (bif Nat.blt k 29 then some (52, .iload_n 2, 1, [2], 0) else some (53, .if_icmp .ge 47, 3, [51], 0)))))) else (bif Nat.blt k 45 then (bif Nat.blt k 37 then (bif Nat.blt k 33 then (bif Nat.blt k 31 then some (56, .aload_n 0, 1, [0], 0) else (bif Nat.blt k 32 then some (57, .iload_n 1, 1, [1], 0) else some (58, .iload 5, 2, [5], 0))) else (bif Nat.blt k 35 then (bif Nat.blt k 34 then some (60, .invokestatic 264, 3, [94, 2], 0) else some (63, .invokevirtual 267, 3, [95, 2], 0)) else (bif Nat.blt k 36 then some (66, .aload_n 0, 1, [0], 0) else some (67, .getfield 46, 3, [7, 3, 2], 0)))) else (bif Nat.blt k 41 then (bif Nat.blt k 39 then (bif Nat.blt k 38 then some (70, .aload_n 0, 1, [0], 0) else some (71, .getfield 13, 3, [7, 9, 2], 0)) else (bif Nat.blt k 40 then some (74, .iconst 1, 1, [], nI 1) else some (75, .invokevirtual 154, 3, [17, 3], 0))) else (bif Nat.blt k 43 then (bif Nat.blt k 42 then some (78, .iload 4, 2, [4], 0) else some (80, .aload_n 0, 1, [0], 0)) else (bif Nat.blt k 44 then some (81, .getfield 46, 3, [7, 3, 2], 0) else some (84, .aload_n 0, 1, [0], 0))))) else (bif Nat.blt k 53 then (bif Nat.blt k 49 then (bif Nat.blt k 47 then (bif Nat.blt k 46 then some (85, .getfield 13, 3, [7, 9, 2], 0) else some (88, .invokevirtual 270, 3, [21, 2], 0)) else (bif Nat.blt k 48 then some (91, .iadd, 1, [], 0) else some (92, .istore 4, 2, [4], 0))) else (bif Nat.blt k 51 then (bif Nat.blt k 50 then some (94, .iinc 5 1, 3, [5], nI 1) else some (97, .goto (-47), 3, [27], 0)) else (bif Nat.blt k 52 then some (100, .iload_n 3, 1, [3], 0) else some (101, .ifCond .ne 17, 3, [59], 0)))) else (bif Nat.blt k 57 then (bif Nat.blt k 55 then (bif Nat.blt k 54 then some (104, .aload_n 0, 1, [0], 0) else some (105, .getfield 46, 3, [7, 3, 2], 0)) else (bif Nat.blt k 56 then some (108, .aload_n 0, 1, [0], 0) else some (109, .getfield 13, 3, [7, 9, 2], 0))) else (bif Nat.blt k 59 then (bif Nat.blt k 58 then some (112, .invokevirtual 273, 3, [20, 2], 0) else some (115, .goto 5, 3, [60], 0)) else (bif Nat.blt k 60 then some (118, .iload 4, 2, [4], 0) else some (120, .ireturn, 1, [], 0)))))))
/-- 84: OracleWheel.keep()I -/
def m_t84 (k : Nat) : Option ME := (bif Nat.blt k 8 then (bif Nat.blt k 4 then (bif Nat.blt k 2 then (bif Nat.blt k 1 then some (0, .aload_n 0, 1, [0], 0) else some (1, .getfield 58, 3, [7, 5, 2], 0)) else (bif Nat.blt k 3 then some (4, .getfield 176, 3, [4, 2, 0], 0) else some (7, .iconst 2, 1, [], nI 2))) else (bif Nat.blt k 6 then (bif Nat.blt k 5 then some (8, .if_icmp .lt 6, 3, [7], 0) else some (11, .bipush (-3), 2, [], (-3))) else (bif Nat.blt k 7 then some (13, .ireturn, 1, [], 0) else some (14, .aload_n 0, 1, [0], 0)))) else (bif Nat.blt k 12 then (bif Nat.blt k 10 then (bif Nat.blt k 9 then some (15, .getfield 58, 3, [7, 5, 2], 0) else some (18, .aload_n 0, 1, [0], 0)) else (bif Nat.blt k 11 then some (19, .getfield 42, 3, [7, 2, 2], 0) else some (22, .invokevirtual 150, 3, [50, 2], 0))) else (bif Nat.blt k 14 then (bif Nat.blt k 13 then some (25, .aload_n 0, 1, [0], 0) else some (26, .getfield 58, 3, [7, 5, 2], 0)) else (bif Nat.blt k 15 then some (29, .getfield 176, 3, [4, 2, 0], 0) else some (32, .ireturn, 1, [], 0)))))
/-- 85: OracleWheel.back()I -/
def m_t85 (k : Nat) : Option ME := (bif Nat.blt k 9 then (bif Nat.blt k 4 then (bif Nat.blt k 2 then (bif Nat.blt k 1 then some (0, .aload_n 0, 1, [0], 0) else some (1, .getfield 58, 3, [7, 5, 2], 0)) else (bif Nat.blt k 3 then some (4, .getfield 176, 3, [4, 2, 0], 0) else some (7, .ifCond .ne 6, 3, [6], 0))) else (bif Nat.blt k 6 then (bif Nat.blt k 5 then some (10, .bipush (-2), 2, [], (-2)) else some (12, .ireturn, 1, [], 0)) else (bif Nat.blt k 7 then some (13, .aload_n 0, 1, [0], 0) else (bif Nat.blt k 8 then some (14, .getfield 58, 3, [7, 5, 2], 0) else some (17, .aload_n 0, 1, [0], 0))))) else (bif Nat.blt k 13 then (bif Nat.blt k 11 then (bif Nat.blt k 10 then some (18, .getfield 42, 3, [7, 2, 2], 0) else some (21, .invokevirtual 177, 3, [51, 2], 0)) else (bif Nat.blt k 12 then some (24, .aload_n 0, 1, [0], 0) else some (25, .getfield 54, 3, [7, 4, 2], 0))) else (bif Nat.blt k 15 then (bif Nat.blt k 14 then some (28, .invokevirtual 101, 3, [49, 1], 0) else some (31, .aload_n 0, 1, [0], 0)) else (bif Nat.blt k 16 then some (32, .getfield 58, 3, [7, 5, 2], 0) else (bif Nat.blt k 17 then some (35, .getfield 176, 3, [4, 2, 0], 0) else some (38, .ireturn, 1, [], 0))))))
/-- 86: OracleWheel.count(I)I -/
def m_t86 (k : Nat) : Option ME := (bif Nat.blt k 25 then (bif Nat.blt k 12 then (bif Nat.blt k 6 then (bif Nat.blt k 3 then (bif Nat.blt k 1 then some (0, .iload_n 1, 1, [1], 0) else (bif Nat.blt k 2 then some (1, .tableswitch 151 0 10 #[59, 67, 75, 83, 91, 99, 107, 119, 127, 135, 143], 59, [48, 0, 2, 1, 6, 2, 10, 3, 14, 4, 18, 5, 22, 6, 26, 7, 32, 8, 36, 9, 40, 10, 44], 0) else some (60, .aload_n 0, 1, [0], 0))) else (bif Nat.blt k 4 then some (61, .getfield 13, 3, [7, 9, 2], 0) else (bif Nat.blt k 5 then some (64, .getfield 104, 3, [0, 11, 0], 0) else some (67, .ireturn, 1, [], 0)))) else (bif Nat.blt k 9 then (bif Nat.blt k 7 then some (68, .aload_n 0, 1, [0], 0) else (bif Nat.blt k 8 then some (69, .getfield 13, 3, [7, 9, 2], 0) else some (72, .getfield 218, 3, [0, 12, 0], 0))) else (bif Nat.blt k 10 then some (75, .ireturn, 1, [], 0) else (bif Nat.blt k 11 then some (76, .aload_n 0, 1, [0], 0) else some (77, .getfield 13, 3, [7, 9, 2], 0))))) else (bif Nat.blt k 18 then (bif Nat.blt k 15 then (bif Nat.blt k 13 then some (80, .getfield 95, 3, [0, 13, 0], 0) else (bif Nat.blt k 14 then some (83, .ireturn, 1, [], 0) else some (84, .aload_n 0, 1, [0], 0))) else (bif Nat.blt k 16 then some (85, .getfield 13, 3, [7, 9, 2], 0) else (bif Nat.blt k 17 then some (88, .getfield 276, 3, [0, 7, 0], 0) else some (91, .ireturn, 1, [], 0)))) else (bif Nat.blt k 21 then (bif Nat.blt k 19 then some (92, .aload_n 0, 1, [0], 0) else (bif Nat.blt k 20 then some (93, .getfield 42, 3, [7, 2, 2], 0) else some (96, .getfield 124, 3, [1, 2, 0], 0))) else (bif Nat.blt k 23 then (bif Nat.blt k 22 then some (99, .ireturn, 1, [], 0) else some (100, .aload_n 0, 1, [0], 0)) else (bif Nat.blt k 24 then some (101, .getfield 42, 3, [7, 2, 2], 0) else some (104, .getfield 170, 3, [1, 4, 0], 0)))))) else (bif Nat.blt k 37 then (bif Nat.blt k 31 then (bif Nat.blt k 28 then (bif Nat.blt k 26 then some (107, .ireturn, 1, [], 0) else (bif Nat.blt k 27 then some (108, .aload_n 0, 1, [0], 0) else some (109, .getfield 42, 3, [7, 2, 2], 0))) else (bif Nat.blt k 29 then some (112, .aload_n 0, 1, [0], 0) else (bif Nat.blt k 30 then some (113, .getfield 13, 3, [7, 9, 2], 0) else some (116, .invokevirtual 273, 3, [20, 2], 0)))) else (bif Nat.blt k 34 then (bif Nat.blt k 32 then some (119, .ireturn, 1, [], 0) else (bif Nat.blt k 33 then some (120, .aload_n 0, 1, [0], 0) else some (121, .getfield 64, 3, [7, 6, 2], 0))) else (bif Nat.blt k 35 then some (124, .getfield 98, 3, [5, 2, 0], 0) else (bif Nat.blt k 36 then some (127, .ireturn, 1, [], 0) else some (128, .aload_n 0, 1, [0], 0))))) else (bif Nat.blt k 43 then (bif Nat.blt k 40 then (bif Nat.blt k 38 then some (129, .getfield 54, 3, [7, 4, 2], 0) else (bif Nat.blt k 39 then some (132, .getfield 176, 3, [4, 2, 0], 0) else some (135, .ireturn, 1, [], 0))) else (bif Nat.blt k 41 then some (136, .aload_n 0, 1, [0], 0) else (bif Nat.blt k 42 then some (137, .getfield 58, 3, [7, 5, 2], 0) else some (140, .getfield 176, 3, [4, 2, 0], 0)))) else (bif Nat.blt k 46 then (bif Nat.blt k 44 then some (143, .ireturn, 1, [], 0) else (bif Nat.blt k 45 then some (144, .aload_n 0, 1, [0], 0) else some (145, .getfield 26, 3, [7, 0, 2], 0))) else (bif Nat.blt k 48 then (bif Nat.blt k 47 then some (148, .getfield 87, 3, [6, 1, 0], 0) else some (151, .ireturn, 1, [], 0)) else (bif Nat.blt k 49 then some (152, .iconst (-1), 1, [], (-1)) else some (153, .ireturn, 1, [], 0)))))))
/-- 87: OracleWheel.firstHill()LOracleWheel$Hill; -/
def m_t87 (k : Nat) : Option ME := (bif Nat.blt k 15 then (bif Nat.blt k 7 then (bif Nat.blt k 3 then (bif Nat.blt k 1 then some (0, .new 23, 3, [6], 0) else (bif Nat.blt k 2 then some (3, .dup, 1, [], 0) else some (4, .invokespecial 25, 3, [55, 1], 0))) else (bif Nat.blt k 5 then (bif Nat.blt k 4 then some (7, .astore_n 0, 1, [0], 0) else some (8, .iconst 0, 1, [], nI 0)) else (bif Nat.blt k 6 then some (9, .istore_n 1, 1, [1], 0) else some (10, .iload_n 1, 1, [1], 0)))) else (bif Nat.blt k 11 then (bif Nat.blt k 9 then (bif Nat.blt k 8 then some (11, .ldc_w 279, 3, [0], 0) else some (14, .invokevirtual 281, 3, [1000, 1], 0)) else (bif Nat.blt k 10 then some (17, .if_icmp .ge 21, 3, [18], 0) else some (20, .aload_n 0, 1, [0], 0))) else (bif Nat.blt k 13 then (bif Nat.blt k 12 then some (21, .ldc_w 279, 3, [0], 0) else some (24, .iload_n 1, 1, [1], 0)) else (bif Nat.blt k 14 then some (25, .invokevirtual 285, 3, [1001, 2], 0) else some (28, .invokevirtual 83, 3, [56, 2], 0))))) else (bif Nat.blt k 23 then (bif Nat.blt k 19 then (bif Nat.blt k 17 then (bif Nat.blt k 16 then some (31, .pop, 1, [], 0) else some (32, .iinc 1 1, 3, [1], nI 1)) else (bif Nat.blt k 18 then some (35, .goto (-25), 3, [6], 0) else some (38, .new 17, 3, [0], 0))) else (bif Nat.blt k 21 then (bif Nat.blt k 20 then some (41, .dup, 1, [], 0) else some (42, .invokespecial 19, 3, [0, 1], 0)) else (bif Nat.blt k 22 then some (45, .astore_n 1, 1, [1], 0) else some (46, .new 30, 3, [3], 0)))) else (bif Nat.blt k 27 then (bif Nat.blt k 25 then (bif Nat.blt k 24 then some (49, .dup, 1, [], 0) else some (50, .aload_n 0, 1, [0], 0)) else (bif Nat.blt k 26 then some (51, .invokespecial 32, 3, [36, 2], 0) else some (54, .aload_n 1, 1, [1], 0))) else (bif Nat.blt k 29 then (bif Nat.blt k 28 then some (55, .invokevirtual 91, 3, [37, 2], 0) else some (58, .pop, 1, [], 0)) else (bif Nat.blt k 30 then some (59, .aload_n 1, 1, [1], 0) else some (60, .areturn, 1, [], 0))))))
/-- 88: OracleWheel.isWord(I)Z -/
def m_t88 (k : Nat) : Option ME := (bif Nat.blt k 4 then (bif Nat.blt k 2 then (bif Nat.blt k 1 then some (0, .iload_n 0, 1, [0], 0) else some (1, .ifCond .lt 12, 3, [7], 0)) else (bif Nat.blt k 3 then some (4, .iload_n 0, 1, [0], 0) else some (5, .iconst 3, 1, [], nI 3))) else (bif Nat.blt k 6 then (bif Nat.blt k 5 then some (6, .if_icmp .gt 7, 3, [7], 0) else some (9, .iconst 1, 1, [], nI 1)) else (bif Nat.blt k 7 then some (10, .goto 4, 3, [8], 0) else (bif Nat.blt k 8 then some (13, .iconst 0, 1, [], nI 0) else some (14, .ireturn, 1, [], 0)))))
/-- 89: OracleWheel.soonestTop(LOracleWheel$Moment;I)I -/
def m_t89 (k : Nat) : Option ME := (bif Nat.blt k 18 then (bif Nat.blt k 9 then (bif Nat.blt k 4 then (bif Nat.blt k 2 then (bif Nat.blt k 1 then some (0, .aload_n 0, 1, [0], 0) else some (1, .getfield 13, 3, [7, 9, 2], 0)) else (bif Nat.blt k 3 then some (4, .iload_n 2, 1, [2], 0) else some (5, .invokevirtual 135, 3, [7, 2], 0))) else (bif Nat.blt k 6 then (bif Nat.blt k 5 then some (8, .ifCond .ne 6, 3, [7], 0) else some (11, .bipush (-4), 2, [], (-4))) else (bif Nat.blt k 7 then some (13, .ireturn, 1, [], 0) else (bif Nat.blt k 8 then some (14, .aload_n 0, 1, [0], 0) else some (15, .getfield 71, 3, [7, 7, 2], 0))))) else (bif Nat.blt k 13 then (bif Nat.blt k 11 then (bif Nat.blt k 10 then some (18, .aload_n 0, 1, [0], 0) else some (19, .getfield 13, 3, [7, 9, 2], 0)) else (bif Nat.blt k 12 then some (22, .aload_n 1, 1, [1], 0) else some (23, .invokevirtual 210, 3, [29, 3], 0))) else (bif Nat.blt k 15 then (bif Nat.blt k 14 then some (26, .aload_n 0, 1, [0], 0) else some (27, .getfield 71, 3, [7, 7, 2], 0)) else (bif Nat.blt k 16 then some (30, .aload_n 1, 1, [1], 0) else (bif Nat.blt k 17 then some (31, .getfield 144, 3, [1, 1, 2], 0) else some (34, .iload_n 2, 1, [2], 0)))))) else (bif Nat.blt k 27 then (bif Nat.blt k 22 then (bif Nat.blt k 20 then (bif Nat.blt k 19 then some (35, .iaload, 1, [], 0) else some (36, .aload_n 1, 1, [1], 0)) else (bif Nat.blt k 21 then some (37, .getfield 138, 3, [1, 0, 2], 0) else some (40, .iload_n 2, 1, [2], 0))) else (bif Nat.blt k 24 then (bif Nat.blt k 23 then some (41, .iaload, 1, [], 0) else some (42, .iconst 1, 1, [], nI 1)) else (bif Nat.blt k 25 then some (43, .invokevirtual 214, 3, [30, 4], 0) else (bif Nat.blt k 26 then some (46, .aload_n 0, 1, [0], 0) else some (47, .getfield 71, 3, [7, 7, 2], 0))))) else (bif Nat.blt k 31 then (bif Nat.blt k 29 then (bif Nat.blt k 28 then some (50, .aload_n 0, 1, [0], 0) else some (51, .getfield 13, 3, [7, 9, 2], 0)) else (bif Nat.blt k 30 then some (54, .aload_n 1, 1, [1], 0) else some (55, .getfield 124, 3, [1, 2, 0], 0))) else (bif Nat.blt k 33 then (bif Nat.blt k 32 then some (58, .invokevirtual 224, 3, [32, 3], 0) else some (61, .aload_n 0, 1, [0], 0)) else (bif Nat.blt k 34 then some (62, .getfield 71, 3, [7, 7, 2], 0) else (bif Nat.blt k 35 then some (65, .invokevirtual 227, 3, [35, 1], 0) else some (68, .ireturn, 1, [], 0)))))))
/-- 90: OracleWheel.getsHisWish(LOracleWheel$Moment;I)Z -/
def m_t90 (k : Nat) : Option ME := (bif Nat.blt k 11 then (bif Nat.blt k 5 then (bif Nat.blt k 2 then (bif Nat.blt k 1 then some (0, .aload_n 0, 1, [0], 0) else some (1, .aload_n 1, 1, [1], 0)) else (bif Nat.blt k 3 then some (2, .iload_n 2, 1, [2], 0) else (bif Nat.blt k 4 then some (3, .invokevirtual 187, 3, [89, 3], 0) else some (6, .istore_n 3, 1, [3], 0)))) else (bif Nat.blt k 8 then (bif Nat.blt k 6 then some (7, .iload_n 3, 1, [3], 0) else (bif Nat.blt k 7 then some (8, .bipush (-4), 2, [], (-4)) else some (10, .if_icmp .eq 28, 3, [21], 0))) else (bif Nat.blt k 9 then some (13, .aload_n 1, 1, [1], 0) else (bif Nat.blt k 10 then some (14, .aload_n 0, 1, [0], 0) else some (15, .getfield 13, 3, [7, 9, 2], 0))))) else (bif Nat.blt k 17 then (bif Nat.blt k 14 then (bif Nat.blt k 12 then some (18, .iload_n 3, 1, [3], 0) else (bif Nat.blt k 13 then some (19, .invokevirtual 127, 3, [16, 3], 0) else some (22, .aload_n 0, 1, [0], 0))) else (bif Nat.blt k 15 then some (23, .getfield 13, 3, [7, 9, 2], 0) else (bif Nat.blt k 16 then some (26, .getfield 141, 3, [0, 6, 2], 0) else some (29, .iload_n 2, 1, [2], 0)))) else (bif Nat.blt k 20 then (bif Nat.blt k 18 then some (30, .iaload, 1, [], 0) else (bif Nat.blt k 19 then some (31, .if_icmp .ne 7, 3, [21], 0) else some (34, .iconst 1, 1, [], nI 1))) else (bif Nat.blt k 21 then some (35, .goto 4, 3, [22], 0) else (bif Nat.blt k 22 then some (38, .iconst 0, 1, [], nI 0) else some (39, .ireturn, 1, [], 0))))))
/-- 91: OracleWheel.lowestBit(I)I -/
def m_t91 (k : Nat) : Option ME := (bif Nat.blt k 9 then (bif Nat.blt k 4 then (bif Nat.blt k 2 then (bif Nat.blt k 1 then some (0, .iconst 0, 1, [], nI 0) else some (1, .istore_n 1, 1, [1], 0)) else (bif Nat.blt k 3 then some (2, .iload_n 1, 1, [1], 0) else some (3, .bipush 32, 2, [], nI 32))) else (bif Nat.blt k 6 then (bif Nat.blt k 5 then some (5, .if_icmp .ge 20, 3, [16], 0) else some (8, .iload_n 0, 1, [0], 0)) else (bif Nat.blt k 7 then some (9, .iload_n 1, 1, [1], 0) else (bif Nat.blt k 8 then some (10, .ishr, 1, [], 0) else some (11, .iconst 1, 1, [], nI 1))))) else (bif Nat.blt k 13 then (bif Nat.blt k 11 then (bif Nat.blt k 10 then some (12, .iand, 1, [], 0) else some (13, .iconst 1, 1, [], nI 1)) else (bif Nat.blt k 12 then some (14, .if_icmp .ne 5, 3, [14], 0) else some (17, .iload_n 1, 1, [1], 0))) else (bif Nat.blt k 15 then (bif Nat.blt k 14 then some (18, .ireturn, 1, [], 0) else some (19, .iinc 1 1, 3, [1], nI 1)) else (bif Nat.blt k 16 then some (22, .goto (-20), 3, [2], 0) else (bif Nat.blt k 17 then some (25, .bipush (-4), 2, [], (-4)) else some (27, .ireturn, 1, [], 0))))))
/-- 92: OracleWheel.weighTurns(II)I -/
def m_t92 (k : Nat) : Option ME := (bif Nat.blt k 37 then (bif Nat.blt k 18 then (bif Nat.blt k 9 then (bif Nat.blt k 4 then (bif Nat.blt k 2 then (bif Nat.blt k 1 then some (0, .iconst 1, 1, [], nI 1) else some (1, .istore_n 3, 1, [3], 0)) else (bif Nat.blt k 3 then some (2, .iconst 0, 1, [], nI 0) else some (3, .istore 4, 2, [4], 0))) else (bif Nat.blt k 6 then (bif Nat.blt k 5 then some (5, .iload 4, 2, [4], 0) else some (7, .aload_n 0, 1, [0], 0)) else (bif Nat.blt k 7 then some (8, .getfield 75, 3, [7, 8, 2], 0) else (bif Nat.blt k 8 then some (11, .arraylength, 1, [], 0) else some (12, .if_icmp .ge 26, 3, [20], 0))))) else (bif Nat.blt k 13 then (bif Nat.blt k 11 then (bif Nat.blt k 10 then some (15, .aload_n 0, 1, [0], 0) else some (16, .getfield 75, 3, [7, 8, 2], 0)) else (bif Nat.blt k 12 then some (19, .iload 4, 2, [4], 0) else some (21, .iload 4, 2, [4], 0))) else (bif Nat.blt k 15 then (bif Nat.blt k 14 then some (23, .ifCond .ne 7, 3, [16], 0) else some (26, .iconst 1, 1, [], nI 1)) else (bif Nat.blt k 16 then some (27, .goto 4, 3, [17], 0) else (bif Nat.blt k 17 then some (30, .iconst 0, 1, [], nI 0) else some (31, .iastore, 1, [], 0)))))) else (bif Nat.blt k 27 then (bif Nat.blt k 22 then (bif Nat.blt k 20 then (bif Nat.blt k 19 then some (32, .iinc 4 1, 3, [4], nI 1) else some (35, .goto (-30), 3, [4], 0)) else (bif Nat.blt k 21 then some (38, .iconst 0, 1, [], nI 0) else some (39, .istore 4, 2, [4], 0))) else (bif Nat.blt k 24 then (bif Nat.blt k 23 then some (41, .iload 4, 2, [4], 0) else some (43, .iload_n 1, 1, [1], 0)) else (bif Nat.blt k 25 then some (44, .if_icmp .ge 78, 3, [72], 0) else (bif Nat.blt k 26 then some (47, .aload_n 0, 1, [0], 0) else some (48, .getfield 75, 3, [7, 8, 2], 0))))) else (bif Nat.blt k 32 then (bif Nat.blt k 29 then (bif Nat.blt k 28 then some (51, .arraylength, 1, [], 0) else some (52, .iconst 1, 1, [], nI 1)) else (bif Nat.blt k 30 then some (53, .isub, 1, [], 0) else (bif Nat.blt k 31 then some (54, .istore 5, 2, [5], 0) else some (56, .iload 5, 2, [5], 0)))) else (bif Nat.blt k 34 then (bif Nat.blt k 33 then some (58, .ifCond .le 40, 3, [56], 0) else some (61, .aload_n 0, 1, [0], 0)) else (bif Nat.blt k 35 then some (62, .getfield 75, 3, [7, 8, 2], 0) else (bif Nat.blt k 36 then some (65, .iload 5, 2, [5], 0) else some (67, .aload_n 0, 1, [0], 0))))))) else (bif Nat.blt k 55 then (bif Nat.blt k 46 then (bif Nat.blt k 41 then (bif Nat.blt k 39 then (bif Nat.blt k 38 then some (68, .getfield 75, 3, [7, 8, 2], 0) else some (71, .iload 5, 2, [5], 0)) else (bif Nat.blt k 40 then some (73, .iaload, 1, [], 0) else some (74, .bipush 10, 2, [], nI 10))) else (bif Nat.blt k 43 then (bif Nat.blt k 42 then some (76, .iload_n 2, 1, [2], 0) else some (77, .isub, 1, [], 0)) else (bif Nat.blt k 44 then some (78, .imul, 1, [], 0) else (bif Nat.blt k 45 then some (79, .aload_n 0, 1, [0], 0) else some (80, .getfield 75, 3, [7, 8, 2], 0))))) else (bif Nat.blt k 50 then (bif Nat.blt k 48 then (bif Nat.blt k 47 then some (83, .iload 5, 2, [5], 0) else some (85, .iconst 1, 1, [], nI 1)) else (bif Nat.blt k 49 then some (86, .isub, 1, [], 0) else some (87, .iaload, 1, [], 0))) else (bif Nat.blt k 52 then (bif Nat.blt k 51 then some (88, .iload_n 2, 1, [2], 0) else some (89, .imul, 1, [], 0)) else (bif Nat.blt k 53 then some (90, .iadd, 1, [], 0) else (bif Nat.blt k 54 then some (91, .iastore, 1, [], 0) else some (92, .iinc 5 (-1), 3, [5], (-1))))))) else (bif Nat.blt k 64 then (bif Nat.blt k 59 then (bif Nat.blt k 57 then (bif Nat.blt k 56 then some (95, .goto (-39), 3, [31], 0) else some (98, .aload_n 0, 1, [0], 0)) else (bif Nat.blt k 58 then some (99, .getfield 75, 3, [7, 8, 2], 0) else some (102, .iconst 0, 1, [], nI 0))) else (bif Nat.blt k 61 then (bif Nat.blt k 60 then some (103, .dup2, 1, [], 0) else some (104, .iaload, 1, [], 0)) else (bif Nat.blt k 62 then some (105, .bipush 10, 2, [], nI 10) else (bif Nat.blt k 63 then some (107, .iload_n 2, 1, [2], 0) else some (108, .isub, 1, [], 0))))) else (bif Nat.blt k 69 then (bif Nat.blt k 66 then (bif Nat.blt k 65 then some (109, .imul, 1, [], 0) else some (110, .iastore, 1, [], 0)) else (bif Nat.blt k 67 then some (111, .iload_n 3, 1, [3], 0) else (bif Nat.blt k 68 then some (112, .bipush 10, 2, [], nI 10) else some (114, .imul, 1, [], 0)))) else (bif Nat.blt k 71 then (bif Nat.blt k 70 then some (115, .istore_n 3, 1, [3], 0) else some (116, .iinc 4 1, 3, [4], nI 1)) else (bif Nat.blt k 72 then some (119, .goto (-78), 3, [22], 0) else (bif Nat.blt k 73 then some (122, .iload_n 3, 1, [3], 0) else some (123, .ireturn, 1, [], 0))))))))
/-- 93: OracleWheel.commonDivisor(II)I -/
def m_t93 (k : Nat) : Option ME := (bif Nat.blt k 9 then (bif Nat.blt k 4 then (bif Nat.blt k 2 then (bif Nat.blt k 1 then some (0, .iconst 0, 1, [], nI 0) else some (1, .istore_n 2, 1, [2], 0)) else (bif Nat.blt k 3 then some (2, .iload_n 2, 1, [2], 0) else some (3, .bipush 64, 2, [], nI 64))) else (bif Nat.blt k 6 then (bif Nat.blt k 5 then some (5, .if_icmp .ge 21, 3, [17], 0) else some (8, .iload_n 1, 1, [1], 0)) else (bif Nat.blt k 7 then some (9, .ifCond .eq 17, 3, [17], 0) else (bif Nat.blt k 8 then some (12, .iload_n 0, 1, [0], 0) else some (13, .iload_n 1, 1, [1], 0))))) else (bif Nat.blt k 14 then (bif Nat.blt k 11 then (bif Nat.blt k 10 then some (14, .irem, 1, [], 0) else some (15, .istore_n 3, 1, [3], 0)) else (bif Nat.blt k 12 then some (16, .iload_n 1, 1, [1], 0) else (bif Nat.blt k 13 then some (17, .istore_n 0, 1, [0], 0) else some (18, .iload_n 3, 1, [3], 0)))) else (bif Nat.blt k 16 then (bif Nat.blt k 15 then some (19, .istore_n 1, 1, [1], 0) else some (20, .iinc 2 1, 3, [2], nI 1)) else (bif Nat.blt k 17 then some (23, .goto (-21), 3, [2], 0) else (bif Nat.blt k 18 then some (26, .iload_n 0, 1, [0], 0) else some (27, .ireturn, 1, [], 0))))))
/-- 94: OracleWheel.draw(II)I -/
def m_t94 (k : Nat) : Option ME := (bif Nat.blt k 9 then (bif Nat.blt k 4 then (bif Nat.blt k 2 then (bif Nat.blt k 1 then some (0, .ldc2_w 289, 3, [7919], 0) else some (3, .iload_n 0, 1, [0], 0)) else (bif Nat.blt k 3 then some (4, .i2l, 1, [], 0) else some (5, .lmul, 1, [], 0))) else (bif Nat.blt k 6 then (bif Nat.blt k 5 then some (6, .ldc2_w 291, 3, [6151], 0) else some (9, .iload_n 1, 1, [1], 0)) else (bif Nat.blt k 7 then some (10, .i2l, 1, [], 0) else (bif Nat.blt k 8 then some (11, .lmul, 1, [], 0) else some (12, .ladd, 1, [], 0))))) else (bif Nat.blt k 14 then (bif Nat.blt k 11 then (bif Nat.blt k 10 then some (13, .lconst 1, 1, [1], 0) else some (14, .ladd, 1, [], 0)) else (bif Nat.blt k 12 then some (15, .lstore_n 2, 1, [2], 0) else (bif Nat.blt k 13 then some (16, .lload_n 2, 1, [2], 0) else some (17, .lload_n 2, 1, [2], 0)))) else (bif Nat.blt k 16 then (bif Nat.blt k 15 then some (18, .lmul, 1, [], 0) else some (19, .ldc2_w 293, 3, [65521], 0)) else (bif Nat.blt k 17 then some (22, .lrem, 1, [], 0) else (bif Nat.blt k 18 then some (23, .l2i, 1, [], 0) else some (24, .ireturn, 1, [], 0))))))
/-- 95: OracleWheel.setOutByDraw(I)V -/
def m_t95 (k : Nat) : Option ME := (bif Nat.blt k 14 then (bif Nat.blt k 7 then (bif Nat.blt k 3 then (bif Nat.blt k 1 then some (0, .aload_n 0, 1, [0], 0) else (bif Nat.blt k 2 then some (1, .getfield 13, 3, [7, 9, 2], 0) else some (4, .getfield 95, 3, [0, 13, 0], 0))) else (bif Nat.blt k 5 then (bif Nat.blt k 4 then some (7, .iconst 1, 1, [], nI 1) else some (8, .if_icmp .lt 14, 3, [10], 0)) else (bif Nat.blt k 6 then some (11, .aload_n 0, 1, [0], 0) else some (12, .getfield 13, 3, [7, 9, 2], 0)))) else (bif Nat.blt k 10 then (bif Nat.blt k 8 then some (15, .getfield 218, 3, [0, 12, 0], 0) else (bif Nat.blt k 9 then some (18, .iconst 1, 1, [], nI 1) else some (19, .if_icmp .ge 4, 3, [11], 0))) else (bif Nat.blt k 12 then (bif Nat.blt k 11 then some (22, .return_, 1, [], 0) else some (23, .aload_n 0, 1, [0], 0)) else (bif Nat.blt k 13 then some (24, .getfield 46, 3, [7, 3, 2], 0) else some (27, .aload_n 0, 1, [0], 0))))) else (bif Nat.blt k 21 then (bif Nat.blt k 17 then (bif Nat.blt k 15 then some (28, .getfield 13, 3, [7, 9, 2], 0) else (bif Nat.blt k 16 then some (31, .iload_n 1, 1, [1], 0) else some (32, .aload_n 0, 1, [0], 0))) else (bif Nat.blt k 19 then (bif Nat.blt k 18 then some (33, .getfield 13, 3, [7, 9, 2], 0) else some (36, .getfield 95, 3, [0, 13, 0], 0)) else (bif Nat.blt k 20 then some (39, .irem, 1, [], 0) else some (40, .iload_n 1, 1, [1], 0)))) else (bif Nat.blt k 25 then (bif Nat.blt k 23 then (bif Nat.blt k 22 then some (41, .iconst 4, 1, [], nI 4) else some (42, .idiv, 1, [], 0)) else (bif Nat.blt k 24 then some (43, .aload_n 0, 1, [0], 0) else some (44, .getfield 13, 3, [7, 9, 2], 0))) else (bif Nat.blt k 27 then (bif Nat.blt k 26 then some (47, .getfield 218, 3, [0, 12, 0], 0) else some (50, .irem, 1, [], 0)) else (bif Nat.blt k 28 then some (51, .invokevirtual 162, 3, [23, 4], 0) else some (54, .return_, 1, [], 0))))))
/-- 96: OracleWheelModel.<init>()V -/
def m_t96 (k : Nat) : Option ME := (bif Nat.blt k 69 then (bif Nat.blt k 34 then (bif Nat.blt k 17 then (bif Nat.blt k 8 then (bif Nat.blt k 4 then (bif Nat.blt k 2 then (bif Nat.blt k 1 then some (0, .aload_n 0, 1, [0], 0) else some (1, .invokespecial 1, 3, [900], 0)) else (bif Nat.blt k 3 then some (4, .aload_n 0, 1, [0], 0) else some (5, .bipush 12, 2, [], nI 12))) else (bif Nat.blt k 6 then (bif Nat.blt k 5 then some (7, .newarray .int, 2, [0], 0) else some (9, .putfield 7, 3, [8, 1, 2], 0)) else (bif Nat.blt k 7 then some (12, .aload_n 0, 1, [0], 0) else some (13, .bipush 40, 2, [], nI 40)))) else (bif Nat.blt k 12 then (bif Nat.blt k 10 then (bif Nat.blt k 9 then some (15, .newarray .int, 2, [0], 0) else some (17, .putfield 13, 3, [8, 7, 2], 0)) else (bif Nat.blt k 11 then some (20, .aload_n 0, 1, [0], 0) else some (21, .iconst 4, 1, [], nI 4))) else (bif Nat.blt k 14 then (bif Nat.blt k 13 then some (22, .newarray .int, 2, [0], 0) else some (24, .putfield 16, 3, [8, 9, 2], 0)) else (bif Nat.blt k 15 then some (27, .aload_n 0, 1, [0], 0) else (bif Nat.blt k 16 then some (28, .bipush 12, 2, [], nI 12) else some (30, .newarray .int, 2, [0], 0)))))) else (bif Nat.blt k 25 then (bif Nat.blt k 21 then (bif Nat.blt k 19 then (bif Nat.blt k 18 then some (32, .putfield 19, 3, [8, 10, 2], 0) else some (35, .aload_n 0, 1, [0], 0)) else (bif Nat.blt k 20 then some (36, .bipush 96, 2, [], nI 96) else some (38, .newarray .int, 2, [0], 0))) else (bif Nat.blt k 23 then (bif Nat.blt k 22 then some (40, .putfield 22, 3, [8, 12, 2], 0) else some (43, .aload_n 0, 1, [0], 0)) else (bif Nat.blt k 24 then some (44, .bipush 24, 2, [], nI 24) else some (46, .newarray .int, 2, [0], 0)))) else (bif Nat.blt k 29 then (bif Nat.blt k 27 then (bif Nat.blt k 26 then some (48, .putfield 25, 3, [8, 14, 2], 0) else some (51, .aload_n 0, 1, [0], 0)) else (bif Nat.blt k 28 then some (52, .bipush 12, 2, [], nI 12) else some (54, .newarray .int, 2, [0], 0))) else (bif Nat.blt k 31 then (bif Nat.blt k 30 then some (56, .putfield 28, 3, [8, 16, 2], 0) else some (59, .aload_n 0, 1, [0], 0)) else (bif Nat.blt k 32 then some (60, .sipush 200, 3, [], nI 200) else (bif Nat.blt k 33 then some (63, .newarray .int, 2, [0], 0) else some (65, .putfield 31, 3, [8, 17, 2], 0))))))) else (bif Nat.blt k 51 then (bif Nat.blt k 42 then (bif Nat.blt k 38 then (bif Nat.blt k 36 then (bif Nat.blt k 35 then some (68, .aload_n 0, 1, [0], 0) else some (69, .iconst 4, 1, [], nI 4)) else (bif Nat.blt k 37 then some (70, .newarray .int, 2, [0], 0) else some (72, .putfield 34, 3, [8, 20, 2], 0))) else (bif Nat.blt k 40 then (bif Nat.blt k 39 then some (75, .aload_n 0, 1, [0], 0) else some (76, .bipush 12, 2, [], nI 12)) else (bif Nat.blt k 41 then some (78, .newarray .int, 2, [0], 0) else some (80, .putfield 37, 3, [8, 23, 2], 0)))) else (bif Nat.blt k 46 then (bif Nat.blt k 44 then (bif Nat.blt k 43 then some (83, .aload_n 0, 1, [0], 0) else some (84, .bipush 40, 2, [], nI 40)) else (bif Nat.blt k 45 then some (86, .newarray .int, 2, [0], 0) else some (88, .putfield 40, 3, [8, 29, 2], 0))) else (bif Nat.blt k 48 then (bif Nat.blt k 47 then some (91, .aload_n 0, 1, [0], 0) else some (92, .iconst 4, 1, [], nI 4)) else (bif Nat.blt k 49 then some (93, .newarray .int, 2, [0], 0) else (bif Nat.blt k 50 then some (95, .putfield 43, 3, [8, 31, 2], 0) else some (98, .aload_n 0, 1, [0], 0)))))) else (bif Nat.blt k 60 then (bif Nat.blt k 55 then (bif Nat.blt k 53 then (bif Nat.blt k 52 then some (99, .iconst 4, 1, [], nI 4) else some (100, .newarray .int, 2, [0], 0)) else (bif Nat.blt k 54 then some (102, .putfield 46, 3, [8, 32, 2], 0) else some (105, .aload_n 0, 1, [0], 0))) else (bif Nat.blt k 57 then (bif Nat.blt k 56 then some (106, .sipush 577, 3, [], nI 577) else some (109, .newarray .int, 2, [0], 0)) else (bif Nat.blt k 58 then some (111, .putfield 49, 3, [8, 33, 2], 0) else (bif Nat.blt k 59 then some (114, .aload_n 0, 1, [0], 0) else some (115, .bipush 100, 2, [], nI 100))))) else (bif Nat.blt k 64 then (bif Nat.blt k 62 then (bif Nat.blt k 61 then some (117, .newarray .int, 2, [0], 0) else some (119, .putfield 52, 3, [8, 34, 2], 0)) else (bif Nat.blt k 63 then some (122, .aload_n 0, 1, [0], 0) else some (123, .bipush 12, 2, [], nI 12))) else (bif Nat.blt k 66 then (bif Nat.blt k 65 then some (125, .newarray .int, 2, [0], 0) else some (127, .putfield 55, 3, [8, 35, 2], 0)) else (bif Nat.blt k 67 then some (130, .aload_n 0, 1, [0], 0) else (bif Nat.blt k 68 then some (131, .invokevirtual 58, 3, [111, 1], 0) else some (134, .aload_n 0, 1, [0], 0)))))))) else (bif Nat.blt k 104 then (bif Nat.blt k 86 then (bif Nat.blt k 77 then (bif Nat.blt k 73 then (bif Nat.blt k 71 then (bif Nat.blt k 70 then some (135, .invokevirtual 61, 3, [97, 1], 0) else some (138, .aload_n 0, 1, [0], 0)) else (bif Nat.blt k 72 then some (139, .iconst 2, 1, [], nI 2) else some (140, .putfield 64, 3, [8, 24, 0], 0))) else (bif Nat.blt k 75 then (bif Nat.blt k 74 then some (143, .aload_n 0, 1, [0], 0) else some (144, .iconst 5, 1, [], nI 5)) else (bif Nat.blt k 76 then some (145, .putfield 68, 3, [8, 25, 0], 0) else some (148, .aload_n 0, 1, [0], 0)))) else (bif Nat.blt k 81 then (bif Nat.blt k 79 then (bif Nat.blt k 78 then some (149, .iconst 1, 1, [], nI 1) else some (150, .putfield 71, 3, [8, 26, 0], 0)) else (bif Nat.blt k 80 then some (153, .aload_n 0, 1, [0], 0) else some (154, .bipush 6, 2, [], nI 6))) else (bif Nat.blt k 83 then (bif Nat.blt k 82 then some (156, .putfield 74, 3, [8, 27, 0], 0) else some (159, .aload_n 0, 1, [0], 0)) else (bif Nat.blt k 84 then some (160, .iconst 0, 1, [], nI 0) else (bif Nat.blt k 85 then some (161, .iconst 0, 1, [], nI 0) else some (162, .iconst 1, 1, [], nI 1)))))) else (bif Nat.blt k 95 then (bif Nat.blt k 90 then (bif Nat.blt k 88 then (bif Nat.blt k 87 then some (163, .iconst 3, 1, [], nI 3) else some (164, .invokevirtual 77, 3, [98, 5], 0)) else (bif Nat.blt k 89 then some (167, .aload_n 0, 1, [0], 0) else some (168, .iconst 1, 1, [], nI 1))) else (bif Nat.blt k 92 then (bif Nat.blt k 91 then some (169, .iconst 1, 1, [], nI 1) else some (170, .iconst 2, 1, [], nI 2)) else (bif Nat.blt k 93 then some (171, .iconst 4, 1, [], nI 4) else (bif Nat.blt k 94 then some (172, .invokevirtual 77, 3, [98, 5], 0) else some (175, .aload_n 0, 1, [0], 0))))) else (bif Nat.blt k 99 then (bif Nat.blt k 97 then (bif Nat.blt k 96 then some (176, .iconst 2, 1, [], nI 2) else some (177, .iconst 2, 1, [], nI 2)) else (bif Nat.blt k 98 then some (178, .iconst 3, 1, [], nI 3) else some (179, .iconst 2, 1, [], nI 2))) else (bif Nat.blt k 101 then (bif Nat.blt k 100 then some (180, .invokevirtual 77, 3, [98, 5], 0) else some (183, .aload_n 0, 1, [0], 0)) else (bif Nat.blt k 102 then some (184, .iconst 3, 1, [], nI 3) else (bif Nat.blt k 103 then some (185, .iconst 0, 1, [], nI 0) else some (186, .iconst 3, 1, [], nI 3))))))) else (bif Nat.blt k 121 then (bif Nat.blt k 112 then (bif Nat.blt k 108 then (bif Nat.blt k 106 then (bif Nat.blt k 105 then some (187, .bipush 6, 2, [], nI 6) else some (189, .invokevirtual 77, 3, [98, 5], 0)) else (bif Nat.blt k 107 then some (192, .aload_n 0, 1, [0], 0) else some (193, .iconst 0, 1, [], nI 0))) else (bif Nat.blt k 110 then (bif Nat.blt k 109 then some (194, .iconst 3, 1, [], nI 3) else some (195, .iconst 4, 1, [], nI 4)) else (bif Nat.blt k 111 then some (196, .iconst 5, 1, [], nI 5) else some (197, .invokevirtual 77, 3, [98, 5], 0)))) else (bif Nat.blt k 116 then (bif Nat.blt k 114 then (bif Nat.blt k 113 then some (200, .aload_n 0, 1, [0], 0) else some (201, .iconst 1, 1, [], nI 1)) else (bif Nat.blt k 115 then some (202, .iconst 4, 1, [], nI 4) else some (203, .iconst 5, 1, [], nI 5))) else (bif Nat.blt k 118 then (bif Nat.blt k 117 then some (204, .iconst 2, 1, [], nI 2) else some (205, .invokevirtual 77, 3, [98, 5], 0)) else (bif Nat.blt k 119 then some (208, .aload_n 0, 1, [0], 0) else (bif Nat.blt k 120 then some (209, .iconst 3, 1, [], nI 3) else some (210, .iconst 5, 1, [], nI 5)))))) else (bif Nat.blt k 130 then (bif Nat.blt k 125 then (bif Nat.blt k 123 then (bif Nat.blt k 122 then some (211, .iconst 0, 1, [], nI 0) else some (212, .bipush 9, 2, [], nI 9)) else (bif Nat.blt k 124 then some (214, .invokevirtual 77, 3, [98, 5], 0) else some (217, .aload_n 0, 1, [0], 0))) else (bif Nat.blt k 127 then (bif Nat.blt k 126 then some (218, .iconst 4, 1, [], nI 4) else some (219, .iconst 0, 1, [], nI 0)) else (bif Nat.blt k 128 then some (220, .invokevirtual 81, 3, [99, 3], 0) else (bif Nat.blt k 129 then some (223, .aload_n 0, 1, [0], 0) else some (224, .iconst 3, 1, [], nI 3))))) else (bif Nat.blt k 134 then (bif Nat.blt k 132 then (bif Nat.blt k 131 then some (225, .iconst 1, 1, [], nI 1) else some (226, .invokevirtual 81, 3, [99, 3], 0)) else (bif Nat.blt k 133 then some (229, .aload_n 0, 1, [0], 0) else some (230, .iconst 5, 1, [], nI 5))) else (bif Nat.blt k 136 then (bif Nat.blt k 135 then some (231, .iconst 2, 1, [], nI 2) else some (232, .invokevirtual 81, 3, [99, 3], 0)) else (bif Nat.blt k 137 then some (235, .aload_n 0, 1, [0], 0) else (bif Nat.blt k 138 then some (236, .invokevirtual 85, 3, [122, 1], 0) else some (239, .return_, 1, [], 0)))))))))
/-- 97: OracleWheelModel.tellsRing()V -/
def m_t97 (k : Nat) : Option ME := (bif Nat.blt k 17 then (bif Nat.blt k 8 then (bif Nat.blt k 4 then (bif Nat.blt k 2 then (bif Nat.blt k 1 then some (0, .aload_n 0, 1, [0], 0) else some (1, .bipush 6, 2, [], nI 6)) else (bif Nat.blt k 3 then some (3, .putfield 88, 3, [8, 22, 0], 0) else some (6, .aload_n 0, 1, [0], 0))) else (bif Nat.blt k 6 then (bif Nat.blt k 5 then some (7, .getfield 37, 3, [8, 23, 2], 0) else some (10, .iconst 0, 1, [], nI 0)) else (bif Nat.blt k 7 then some (11, .iconst 0, 1, [], nI 0) else some (12, .iastore, 1, [], 0)))) else (bif Nat.blt k 12 then (bif Nat.blt k 10 then (bif Nat.blt k 9 then some (13, .aload_n 0, 1, [0], 0) else some (14, .getfield 37, 3, [8, 23, 2], 0)) else (bif Nat.blt k 11 then some (17, .iconst 1, 1, [], nI 1) else some (18, .iconst 1, 1, [], nI 1))) else (bif Nat.blt k 14 then (bif Nat.blt k 13 then some (19, .iastore, 1, [], 0) else some (20, .aload_n 0, 1, [0], 0)) else (bif Nat.blt k 15 then some (21, .getfield 37, 3, [8, 23, 2], 0) else (bif Nat.blt k 16 then some (24, .iconst 2, 1, [], nI 2) else some (25, .iconst 2, 1, [], nI 2)))))) else (bif Nat.blt k 25 then (bif Nat.blt k 21 then (bif Nat.blt k 19 then (bif Nat.blt k 18 then some (26, .iastore, 1, [], 0) else some (27, .aload_n 0, 1, [0], 0)) else (bif Nat.blt k 20 then some (28, .getfield 37, 3, [8, 23, 2], 0) else some (31, .iconst 3, 1, [], nI 3))) else (bif Nat.blt k 23 then (bif Nat.blt k 22 then some (32, .iconst 0, 1, [], nI 0) else some (33, .iastore, 1, [], 0)) else (bif Nat.blt k 24 then some (34, .aload_n 0, 1, [0], 0) else some (35, .getfield 37, 3, [8, 23, 2], 0)))) else (bif Nat.blt k 29 then (bif Nat.blt k 27 then (bif Nat.blt k 26 then some (38, .iconst 4, 1, [], nI 4) else some (39, .iconst 3, 1, [], nI 3)) else (bif Nat.blt k 28 then some (40, .iastore, 1, [], 0) else some (41, .aload_n 0, 1, [0], 0))) else (bif Nat.blt k 31 then (bif Nat.blt k 30 then some (42, .getfield 37, 3, [8, 23, 2], 0) else some (45, .iconst 5, 1, [], nI 5)) else (bif Nat.blt k 32 then some (46, .iconst 1, 1, [], nI 1) else (bif Nat.blt k 33 then some (47, .iastore, 1, [], 0) else some (48, .return_, 1, [], 0)))))))
/-- 98: OracleWheelModel.tellsWay(IIII)V -/
def m_t98 (k : Nat) : Option ME := (bif Nat.blt k 22 then (bif Nat.blt k 11 then (bif Nat.blt k 5 then (bif Nat.blt k 2 then (bif Nat.blt k 1 then some (0, .aload_n 0, 1, [0], 0) else some (1, .getfield 40, 3, [8, 29, 2], 0)) else (bif Nat.blt k 3 then some (4, .iconst 4, 1, [], nI 4) else (bif Nat.blt k 4 then some (5, .aload_n 0, 1, [0], 0) else some (6, .getfield 91, 3, [8, 28, 0], 0)))) else (bif Nat.blt k 8 then (bif Nat.blt k 6 then some (9, .imul, 1, [], 0) else (bif Nat.blt k 7 then some (10, .iload_n 1, 1, [1], 0) else some (11, .iastore, 1, [], 0))) else (bif Nat.blt k 9 then some (12, .aload_n 0, 1, [0], 0) else (bif Nat.blt k 10 then some (13, .getfield 40, 3, [8, 29, 2], 0) else some (16, .iconst 4, 1, [], nI 4))))) else (bif Nat.blt k 16 then (bif Nat.blt k 13 then (bif Nat.blt k 12 then some (17, .aload_n 0, 1, [0], 0) else some (18, .getfield 91, 3, [8, 28, 0], 0)) else (bif Nat.blt k 14 then some (21, .imul, 1, [], 0) else (bif Nat.blt k 15 then some (22, .iconst 1, 1, [], nI 1) else some (23, .iadd, 1, [], 0)))) else (bif Nat.blt k 19 then (bif Nat.blt k 17 then some (24, .iload_n 2, 1, [2], 0) else (bif Nat.blt k 18 then some (25, .iastore, 1, [], 0) else some (26, .aload_n 0, 1, [0], 0))) else (bif Nat.blt k 20 then some (27, .getfield 40, 3, [8, 29, 2], 0) else (bif Nat.blt k 21 then some (30, .iconst 4, 1, [], nI 4) else some (31, .aload_n 0, 1, [0], 0)))))) else (bif Nat.blt k 33 then (bif Nat.blt k 27 then (bif Nat.blt k 24 then (bif Nat.blt k 23 then some (32, .getfield 91, 3, [8, 28, 0], 0) else some (35, .imul, 1, [], 0)) else (bif Nat.blt k 25 then some (36, .iconst 2, 1, [], nI 2) else (bif Nat.blt k 26 then some (37, .iadd, 1, [], 0) else some (38, .iload_n 3, 1, [3], 0)))) else (bif Nat.blt k 30 then (bif Nat.blt k 28 then some (39, .iastore, 1, [], 0) else (bif Nat.blt k 29 then some (40, .aload_n 0, 1, [0], 0) else some (41, .getfield 40, 3, [8, 29, 2], 0))) else (bif Nat.blt k 31 then some (44, .iconst 4, 1, [], nI 4) else (bif Nat.blt k 32 then some (45, .aload_n 0, 1, [0], 0) else some (46, .getfield 91, 3, [8, 28, 0], 0))))) else (bif Nat.blt k 39 then (bif Nat.blt k 36 then (bif Nat.blt k 34 then some (49, .imul, 1, [], 0) else (bif Nat.blt k 35 then some (50, .iconst 3, 1, [], nI 3) else some (51, .iadd, 1, [], 0))) else (bif Nat.blt k 37 then some (52, .iload 4, 2, [4], 0) else (bif Nat.blt k 38 then some (54, .iastore, 1, [], 0) else some (55, .aload_n 0, 1, [0], 0)))) else (bif Nat.blt k 42 then (bif Nat.blt k 40 then some (56, .dup, 1, [], 0) else (bif Nat.blt k 41 then some (57, .getfield 91, 3, [8, 28, 0], 0) else some (60, .iconst 1, 1, [], nI 1))) else (bif Nat.blt k 43 then some (61, .iadd, 1, [], 0) else (bif Nat.blt k 44 then some (62, .putfield 91, 3, [8, 28, 0], 0) else some (65, .return_, 1, [], 0)))))))
/-- 99: OracleWheelModel.tellsAsker(II)V -/
def m_t99 (k : Nat) : Option ME := (bif Nat.blt k 9 then (bif Nat.blt k 4 then (bif Nat.blt k 2 then (bif Nat.blt k 1 then some (0, .aload_n 0, 1, [0], 0) else some (1, .getfield 43, 3, [8, 31, 2], 0)) else (bif Nat.blt k 3 then some (4, .aload_n 0, 1, [0], 0) else some (5, .getfield 94, 3, [8, 30, 0], 0))) else (bif Nat.blt k 6 then (bif Nat.blt k 5 then some (8, .iload_n 1, 1, [1], 0) else some (9, .iastore, 1, [], 0)) else (bif Nat.blt k 7 then some (10, .aload_n 0, 1, [0], 0) else (bif Nat.blt k 8 then some (11, .getfield 46, 3, [8, 32, 2], 0) else some (14, .aload_n 0, 1, [0], 0))))) else (bif Nat.blt k 14 then (bif Nat.blt k 11 then (bif Nat.blt k 10 then some (15, .getfield 94, 3, [8, 30, 0], 0) else some (18, .iload_n 2, 1, [2], 0)) else (bif Nat.blt k 12 then some (19, .iastore, 1, [], 0) else (bif Nat.blt k 13 then some (20, .aload_n 0, 1, [0], 0) else some (21, .dup, 1, [], 0)))) else (bif Nat.blt k 16 then (bif Nat.blt k 15 then some (22, .getfield 94, 3, [8, 30, 0], 0) else some (25, .iconst 1, 1, [], nI 1)) else (bif Nat.blt k 17 then some (26, .iadd, 1, [], 0) else (bif Nat.blt k 18 then some (27, .putfield 94, 3, [8, 30, 0], 0) else some (30, .return_, 1, [], 0))))))
/-- 100: OracleWheelModel.in(III)Z -/
def m_t100 (k : Nat) : Option ME := (bif Nat.blt k 5 then (bif Nat.blt k 2 then (bif Nat.blt k 1 then some (0, .iload_n 0, 1, [0], 0) else some (1, .iload_n 1, 1, [1], 0)) else (bif Nat.blt k 3 then some (2, .if_icmp .lt 12, 3, [8], 0) else (bif Nat.blt k 4 then some (5, .iload_n 0, 1, [0], 0) else some (6, .iload_n 2, 1, [2], 0)))) else (bif Nat.blt k 7 then (bif Nat.blt k 6 then some (7, .if_icmp .gt 7, 3, [8], 0) else some (10, .iconst 1, 1, [], nI 1)) else (bif Nat.blt k 8 then some (11, .goto 4, 3, [9], 0) else (bif Nat.blt k 9 then some (14, .iconst 0, 1, [], nI 0) else some (15, .ireturn, 1, [], 0)))))
/-- 101: OracleWheelModel.has(II)Z -/
def m_t101 (k : Nat) : Option ME := (bif Nat.blt k 5 then (bif Nat.blt k 2 then (bif Nat.blt k 1 then some (0, .iload_n 0, 1, [0], 0) else some (1, .iload_n 1, 1, [1], 0)) else (bif Nat.blt k 3 then some (2, .ishr, 1, [], 0) else (bif Nat.blt k 4 then some (3, .iconst 1, 1, [], nI 1) else some (4, .iand, 1, [], 0)))) else (bif Nat.blt k 8 then (bif Nat.blt k 6 then some (5, .iconst 1, 1, [], nI 1) else (bif Nat.blt k 7 then some (6, .if_icmp .ne 7, 3, [9], 0) else some (9, .iconst 1, 1, [], nI 1))) else (bif Nat.blt k 9 then some (10, .goto 4, 3, [10], 0) else (bif Nat.blt k 10 then some (13, .iconst 0, 1, [], nI 0) else some (14, .ireturn, 1, [], 0)))))
/-- 102: OracleWheelModel.isWay(I)Z -/
def m_t102 (k : Nat) : Option ME := (bif Nat.blt k 4 then (bif Nat.blt k 2 then (bif Nat.blt k 1 then some (0, .iload_n 1, 1, [1], 0) else some (1, .iconst 0, 1, [], nI 0)) else (bif Nat.blt k 3 then some (2, .aload_n 0, 1, [0], 0) else some (3, .getfield 97, 3, [8, 6, 0], 0))) else (bif Nat.blt k 6 then (bif Nat.blt k 5 then some (6, .iconst 1, 1, [], nI 1) else some (7, .isub, 1, [], 0)) else (bif Nat.blt k 7 then some (8, .invokestatic 100, 3, [100, 3], 0) else some (11, .ireturn, 1, [], 0))))
/-- 103: OracleWheelModel.isAsker(I)Z -/
def m_t103 (k : Nat) : Option ME := (bif Nat.blt k 4 then (bif Nat.blt k 2 then (bif Nat.blt k 1 then some (0, .iload_n 1, 1, [1], 0) else some (1, .iconst 0, 1, [], nI 0)) else (bif Nat.blt k 3 then some (2, .aload_n 0, 1, [0], 0) else some (3, .getfield 104, 3, [8, 8, 0], 0))) else (bif Nat.blt k 6 then (bif Nat.blt k 5 then some (6, .iconst 1, 1, [], nI 1) else some (7, .isub, 1, [], 0)) else (bif Nat.blt k 7 then some (8, .invokestatic 100, 3, [100, 3], 0) else some (11, .ireturn, 1, [], 0))))
/-- 104: OracleWheelModel.isWord(I)Z -/
def m_t104 (k : Nat) : Option ME := (bif Nat.blt k 2 then (bif Nat.blt k 1 then some (0, .iload_n 0, 1, [0], 0) else some (1, .iconst 0, 1, [], nI 0)) else (bif Nat.blt k 3 then some (2, .iconst 3, 1, [], nI 3) else (bif Nat.blt k 4 then some (3, .invokestatic 100, 3, [100, 3], 0) else some (6, .ireturn, 1, [], 0))))
/-- 105: OracleWheelModel.write(I)I -/
def m_t105 (k : Nat) : Option ME := (bif Nat.blt k 14 then (bif Nat.blt k 7 then (bif Nat.blt k 3 then (bif Nat.blt k 1 then some (0, .iload_n 1, 1, [1], 0) else (bif Nat.blt k 2 then some (1, .bipush 32, 2, [], nI 32) else some (3, .bipush 126, 2, [], nI 126))) else (bif Nat.blt k 5 then (bif Nat.blt k 4 then some (5, .invokestatic 100, 3, [100, 3], 0) else some (8, .ifCond .ne 5, 3, [7], 0)) else (bif Nat.blt k 6 then some (11, .iconst (-1), 1, [], (-1)) else some (12, .ireturn, 1, [], 0)))) else (bif Nat.blt k 10 then (bif Nat.blt k 8 then some (13, .aload_n 0, 1, [0], 0) else (bif Nat.blt k 9 then some (14, .getfield 107, 3, [8, 18, 0], 0) else some (17, .sipush 200, 3, [], nI 200))) else (bif Nat.blt k 12 then (bif Nat.blt k 11 then some (20, .if_icmp .ne 6, 3, [13], 0) else some (23, .bipush (-3), 2, [], (-3))) else (bif Nat.blt k 13 then some (25, .ireturn, 1, [], 0) else some (26, .aload_n 0, 1, [0], 0))))) else (bif Nat.blt k 21 then (bif Nat.blt k 17 then (bif Nat.blt k 15 then some (27, .getfield 31, 3, [8, 17, 2], 0) else (bif Nat.blt k 16 then some (30, .aload_n 0, 1, [0], 0) else some (31, .getfield 107, 3, [8, 18, 0], 0))) else (bif Nat.blt k 19 then (bif Nat.blt k 18 then some (34, .iload_n 1, 1, [1], 0) else some (35, .iastore, 1, [], 0)) else (bif Nat.blt k 20 then some (36, .aload_n 0, 1, [0], 0) else some (37, .dup, 1, [], 0)))) else (bif Nat.blt k 24 then (bif Nat.blt k 22 then some (38, .getfield 107, 3, [8, 18, 0], 0) else (bif Nat.blt k 23 then some (41, .iconst 1, 1, [], nI 1) else some (42, .iadd, 1, [], 0))) else (bif Nat.blt k 26 then (bif Nat.blt k 25 then some (43, .putfield 107, 3, [8, 18, 0], 0) else some (46, .aload_n 0, 1, [0], 0)) else (bif Nat.blt k 27 then some (47, .getfield 107, 3, [8, 18, 0], 0) else some (50, .ireturn, 1, [], 0))))))
/-- 106: OracleWheelModel.wipe()I -/
def m_t106 (k : Nat) : Option ME := (bif Nat.blt k 4 then (bif Nat.blt k 2 then (bif Nat.blt k 1 then some (0, .aload_n 0, 1, [0], 0) else some (1, .getfield 107, 3, [8, 18, 0], 0)) else (bif Nat.blt k 3 then some (4, .istore_n 1, 1, [1], 0) else some (5, .aload_n 0, 1, [0], 0))) else (bif Nat.blt k 6 then (bif Nat.blt k 5 then some (6, .iconst 0, 1, [], nI 0) else some (7, .putfield 107, 3, [8, 18, 0], 0)) else (bif Nat.blt k 7 then some (10, .iload_n 1, 1, [1], 0) else some (11, .ireturn, 1, [], 0))))
/-- 107: OracleWheelModel.letterAt(I)I -/
def m_t107 (k : Nat) : Option ME := (bif Nat.blt k 5 then (bif Nat.blt k 2 then (bif Nat.blt k 1 then some (0, .iload_n 1, 1, [1], 0) else some (1, .aload_n 0, 1, [0], 0)) else (bif Nat.blt k 3 then some (2, .getfield 107, 3, [8, 18, 0], 0) else (bif Nat.blt k 4 then some (5, .if_icmp .ge 12, 3, [9], 0) else some (8, .aload_n 0, 1, [0], 0)))) else (bif Nat.blt k 8 then (bif Nat.blt k 6 then some (9, .getfield 31, 3, [8, 17, 2], 0) else (bif Nat.blt k 7 then some (12, .iload_n 1, 1, [1], 0) else some (13, .iaload, 1, [], 0))) else (bif Nat.blt k 9 then some (14, .goto 4, 3, [10], 0) else (bif Nat.blt k 10 then some (17, .iconst (-1), 1, [], (-1)) else some (18, .ireturn, 1, [], 0)))))
/-- 108: OracleWheelModel.isFigure(I)Z -/
def m_t108 (k : Nat) : Option ME := (bif Nat.blt k 2 then (bif Nat.blt k 1 then some (0, .iload_n 0, 1, [0], 0) else some (1, .bipush 48, 2, [], nI 48)) else (bif Nat.blt k 3 then some (3, .bipush 57, 2, [], nI 57) else (bif Nat.blt k 4 then some (5, .invokestatic 100, 3, [100, 3], 0) else some (8, .ireturn, 1, [], 0))))
/-- 109: OracleWheelModel.readNumbers(I)Z -/
def m_t109 (k : Nat) : Option ME := (bif Nat.blt k 41 then (bif Nat.blt k 20 then (bif Nat.blt k 10 then (bif Nat.blt k 5 then (bif Nat.blt k 2 then (bif Nat.blt k 1 then some (0, .iconst 0, 1, [], nI 0) else some (1, .istore_n 2, 1, [2], 0)) else (bif Nat.blt k 3 then some (2, .iload_n 2, 1, [2], 0) else (bif Nat.blt k 4 then some (3, .iload_n 1, 1, [1], 0) else some (4, .if_icmp .ge 140, 3, [81], 0)))) else (bif Nat.blt k 7 then (bif Nat.blt k 6 then some (7, .aload_n 0, 1, [0], 0) else some (8, .aload_n 0, 1, [0], 0)) else (bif Nat.blt k 8 then some (9, .getfield 110, 3, [8, 19, 0], 0) else (bif Nat.blt k 9 then some (12, .invokevirtual 113, 3, [107, 2], 0) else some (15, .invokestatic 117, 3, [108, 1], 0))))) else (bif Nat.blt k 15 then (bif Nat.blt k 12 then (bif Nat.blt k 11 then some (18, .ifCond .ne 5, 3, [13], 0) else some (21, .iconst 0, 1, [], nI 0)) else (bif Nat.blt k 13 then some (22, .ireturn, 1, [], 0) else (bif Nat.blt k 14 then some (23, .aload_n 0, 1, [0], 0) else some (24, .getfield 34, 3, [8, 20, 2], 0)))) else (bif Nat.blt k 17 then (bif Nat.blt k 16 then some (27, .iload_n 2, 1, [2], 0) else some (28, .aload_n 0, 1, [0], 0)) else (bif Nat.blt k 18 then some (29, .aload_n 0, 1, [0], 0) else (bif Nat.blt k 19 then some (30, .getfield 110, 3, [8, 19, 0], 0) else some (33, .invokevirtual 113, 3, [107, 2], 0)))))) else (bif Nat.blt k 30 then (bif Nat.blt k 25 then (bif Nat.blt k 22 then (bif Nat.blt k 21 then some (36, .bipush 48, 2, [], nI 48) else some (38, .isub, 1, [], 0)) else (bif Nat.blt k 23 then some (39, .iastore, 1, [], 0) else (bif Nat.blt k 24 then some (40, .aload_n 0, 1, [0], 0) else some (41, .dup, 1, [], 0)))) else (bif Nat.blt k 27 then (bif Nat.blt k 26 then some (42, .getfield 110, 3, [8, 19, 0], 0) else some (45, .iconst 1, 1, [], nI 1)) else (bif Nat.blt k 28 then some (46, .iadd, 1, [], 0) else (bif Nat.blt k 29 then some (47, .putfield 110, 3, [8, 19, 0], 0) else some (50, .aload_n 0, 1, [0], 0))))) else (bif Nat.blt k 35 then (bif Nat.blt k 32 then (bif Nat.blt k 31 then some (51, .aload_n 0, 1, [0], 0) else some (52, .getfield 110, 3, [8, 19, 0], 0)) else (bif Nat.blt k 33 then some (55, .invokevirtual 113, 3, [107, 2], 0) else (bif Nat.blt k 34 then some (58, .invokestatic 117, 3, [108, 1], 0) else some (61, .ifCond .eq 40, 3, [58], 0)))) else (bif Nat.blt k 38 then (bif Nat.blt k 36 then some (64, .aload_n 0, 1, [0], 0) else (bif Nat.blt k 37 then some (65, .getfield 34, 3, [8, 20, 2], 0) else some (68, .iload_n 2, 1, [2], 0))) else (bif Nat.blt k 39 then some (69, .bipush 10, 2, [], nI 10) else (bif Nat.blt k 40 then some (71, .aload_n 0, 1, [0], 0) else some (72, .getfield 34, 3, [8, 20, 2], 0))))))) else (bif Nat.blt k 62 then (bif Nat.blt k 51 then (bif Nat.blt k 46 then (bif Nat.blt k 43 then (bif Nat.blt k 42 then some (75, .iload_n 2, 1, [2], 0) else some (76, .iaload, 1, [], 0)) else (bif Nat.blt k 44 then some (77, .imul, 1, [], 0) else (bif Nat.blt k 45 then some (78, .aload_n 0, 1, [0], 0) else some (79, .aload_n 0, 1, [0], 0)))) else (bif Nat.blt k 48 then (bif Nat.blt k 47 then some (80, .getfield 110, 3, [8, 19, 0], 0) else some (83, .invokevirtual 113, 3, [107, 2], 0)) else (bif Nat.blt k 49 then some (86, .iadd, 1, [], 0) else (bif Nat.blt k 50 then some (87, .bipush 48, 2, [], nI 48) else some (89, .isub, 1, [], 0))))) else (bif Nat.blt k 56 then (bif Nat.blt k 53 then (bif Nat.blt k 52 then some (90, .iastore, 1, [], 0) else some (91, .aload_n 0, 1, [0], 0)) else (bif Nat.blt k 54 then some (92, .dup, 1, [], 0) else (bif Nat.blt k 55 then some (93, .getfield 110, 3, [8, 19, 0], 0) else some (96, .iconst 1, 1, [], nI 1)))) else (bif Nat.blt k 59 then (bif Nat.blt k 57 then some (97, .iadd, 1, [], 0) else (bif Nat.blt k 58 then some (98, .putfield 110, 3, [8, 19, 0], 0) else some (101, .aload_n 0, 1, [0], 0))) else (bif Nat.blt k 60 then some (102, .aload_n 0, 1, [0], 0) else (bif Nat.blt k 61 then some (103, .getfield 110, 3, [8, 19, 0], 0) else some (106, .invokevirtual 113, 3, [107, 2], 0)))))) else (bif Nat.blt k 72 then (bif Nat.blt k 67 then (bif Nat.blt k 64 then (bif Nat.blt k 63 then some (109, .iload_n 2, 1, [2], 0) else some (110, .iload_n 1, 1, [1], 0)) else (bif Nat.blt k 65 then some (111, .iconst 1, 1, [], nI 1) else (bif Nat.blt k 66 then some (112, .isub, 1, [], 0) else some (113, .if_icmp .ge 8, 3, [69], 0)))) else (bif Nat.blt k 69 then (bif Nat.blt k 68 then some (116, .bipush 44, 2, [], nI 44) else some (118, .goto 5, 3, [70], 0)) else (bif Nat.blt k 70 then some (121, .bipush 59, 2, [], nI 59) else (bif Nat.blt k 71 then some (123, .if_icmp .eq 5, 3, [73], 0) else some (126, .iconst 0, 1, [], nI 0))))) else (bif Nat.blt k 77 then (bif Nat.blt k 74 then (bif Nat.blt k 73 then some (127, .ireturn, 1, [], 0) else some (128, .aload_n 0, 1, [0], 0)) else (bif Nat.blt k 75 then some (129, .dup, 1, [], 0) else (bif Nat.blt k 76 then some (130, .getfield 110, 3, [8, 19, 0], 0) else some (133, .iconst 1, 1, [], nI 1)))) else (bif Nat.blt k 80 then (bif Nat.blt k 78 then some (134, .iadd, 1, [], 0) else (bif Nat.blt k 79 then some (135, .putfield 110, 3, [8, 19, 0], 0) else some (138, .iinc 2 1, 3, [2], nI 1))) else (bif Nat.blt k 81 then some (141, .goto (-139), 3, [2], 0) else (bif Nat.blt k 82 then some (144, .iconst 1, 1, [], nI 1) else some (145, .ireturn, 1, [], 0))))))))
/-- 110: OracleWheelModel.isTold(III)Z -/
def m_t110 (k : Nat) : Option ME := (bif Nat.blt k 4 then (bif Nat.blt k 2 then (bif Nat.blt k 1 then some (0, .aload_n 0, 1, [0], 0) else some (1, .getfield 34, 3, [8, 20, 2], 0)) else (bif Nat.blt k 3 then some (4, .iload_n 1, 1, [1], 0) else some (5, .iaload, 1, [], 0))) else (bif Nat.blt k 6 then (bif Nat.blt k 5 then some (6, .iload_n 2, 1, [2], 0) else some (7, .iload_n 3, 1, [3], 0)) else (bif Nat.blt k 7 then some (8, .invokestatic 100, 3, [100, 3], 0) else some (11, .ireturn, 1, [], 0))))
/-- 111: OracleWheelModel.clearTold()V -/
def m_t111 (k : Nat) : Option ME := (bif Nat.blt k 17 then (bif Nat.blt k 8 then (bif Nat.blt k 4 then (bif Nat.blt k 2 then (bif Nat.blt k 1 then some (0, .aload_n 0, 1, [0], 0) else some (1, .iconst 0, 1, [], nI 0)) else (bif Nat.blt k 3 then some (2, .putfield 121, 3, [8, 21, 1], 0) else some (5, .aload_n 0, 1, [0], 0))) else (bif Nat.blt k 6 then (bif Nat.blt k 5 then some (6, .iconst 2, 1, [], nI 2) else some (7, .putfield 88, 3, [8, 22, 0], 0)) else (bif Nat.blt k 7 then some (10, .aload_n 0, 1, [0], 0) else some (11, .getfield 37, 3, [8, 23, 2], 0)))) else (bif Nat.blt k 12 then (bif Nat.blt k 10 then (bif Nat.blt k 9 then some (14, .iconst 0, 1, [], nI 0) else some (15, .iconst 0, 1, [], nI 0)) else (bif Nat.blt k 11 then some (16, .iastore, 1, [], 0) else some (17, .aload_n 0, 1, [0], 0))) else (bif Nat.blt k 14 then (bif Nat.blt k 13 then some (18, .getfield 37, 3, [8, 23, 2], 0) else some (21, .iconst 1, 1, [], nI 1)) else (bif Nat.blt k 15 then some (22, .iconst 1, 1, [], nI 1) else (bif Nat.blt k 16 then some (23, .iastore, 1, [], 0) else some (24, .aload_n 0, 1, [0], 0)))))) else (bif Nat.blt k 26 then (bif Nat.blt k 21 then (bif Nat.blt k 19 then (bif Nat.blt k 18 then some (25, .iconst 1, 1, [], nI 1) else some (26, .putfield 64, 3, [8, 24, 0], 0)) else (bif Nat.blt k 20 then some (29, .aload_n 0, 1, [0], 0) else some (30, .bipush 24, 2, [], nI 24))) else (bif Nat.blt k 23 then (bif Nat.blt k 22 then some (32, .putfield 68, 3, [8, 25, 0], 0) else some (35, .aload_n 0, 1, [0], 0)) else (bif Nat.blt k 24 then some (36, .iconst 0, 1, [], nI 0) else (bif Nat.blt k 25 then some (37, .putfield 71, 3, [8, 26, 0], 0) else some (40, .aload_n 0, 1, [0], 0))))) else (bif Nat.blt k 30 then (bif Nat.blt k 28 then (bif Nat.blt k 27 then some (41, .iconst 4, 1, [], nI 4) else some (42, .putfield 74, 3, [8, 27, 0], 0)) else (bif Nat.blt k 29 then some (45, .aload_n 0, 1, [0], 0) else some (46, .iconst 0, 1, [], nI 0))) else (bif Nat.blt k 32 then (bif Nat.blt k 31 then some (47, .putfield 91, 3, [8, 28, 0], 0) else some (50, .aload_n 0, 1, [0], 0)) else (bif Nat.blt k 33 then some (51, .iconst 0, 1, [], nI 0) else (bif Nat.blt k 34 then some (52, .putfield 94, 3, [8, 30, 0], 0) else some (55, .return_, 1, [], 0)))))))
/-- 112: OracleWheelModel.wordOf(I)I -/
def m_t112 (k : Nat) : Option ME := (bif Nat.blt k 6 then (bif Nat.blt k 3 then (bif Nat.blt k 1 then some (0, .iload_n 0, 1, [0], 0) else (bif Nat.blt k 2 then some (1, .lookupswitch 51 #[(98, 49), (110, 45), (112, 47), (121, 43)], 43, [10, 98, 8, 110, 4, 112, 6, 121, 2], 0) else some (44, .iconst 0, 1, [], nI 0))) else (bif Nat.blt k 4 then some (45, .ireturn, 1, [], 0) else (bif Nat.blt k 5 then some (46, .iconst 1, 1, [], nI 1) else some (47, .ireturn, 1, [], 0)))) else (bif Nat.blt k 9 then (bif Nat.blt k 7 then some (48, .iconst 2, 1, [], nI 2) else (bif Nat.blt k 8 then some (49, .ireturn, 1, [], 0) else some (50, .iconst 3, 1, [], nI 3))) else (bif Nat.blt k 10 then some (51, .ireturn, 1, [], 0) else (bif Nat.blt k 11 then some (52, .iconst (-1), 1, [], (-1)) else some (53, .ireturn, 1, [], 0)))))
/-- 113: OracleWheelModel.readRingOf()Z -/
def m_t113 (k : Nat) : Option ME := (bif Nat.blt k 26 then (bif Nat.blt k 13 then (bif Nat.blt k 6 then (bif Nat.blt k 3 then (bif Nat.blt k 1 then some (0, .iconst 0, 1, [], nI 0) else (bif Nat.blt k 2 then some (1, .istore_n 1, 1, [1], 0) else some (2, .aload_n 0, 1, [0], 0))) else (bif Nat.blt k 4 then some (3, .aload_n 0, 1, [0], 0) else (bif Nat.blt k 5 then some (4, .getfield 110, 3, [8, 19, 0], 0) else some (7, .invokevirtual 113, 3, [107, 2], 0)))) else (bif Nat.blt k 9 then (bif Nat.blt k 7 then some (10, .invokestatic 125, 3, [112, 1], 0) else (bif Nat.blt k 8 then some (13, .ifCond .lt 42, 3, [28], 0) else some (16, .iload_n 1, 1, [1], 0))) else (bif Nat.blt k 11 then (bif Nat.blt k 10 then some (17, .bipush 12, 2, [], nI 12) else some (19, .if_icmp .ge 36, 3, [28], 0)) else (bif Nat.blt k 12 then some (22, .aload_n 0, 1, [0], 0) else some (23, .getfield 37, 3, [8, 23, 2], 0))))) else (bif Nat.blt k 19 then (bif Nat.blt k 16 then (bif Nat.blt k 14 then some (26, .iload_n 1, 1, [1], 0) else (bif Nat.blt k 15 then some (27, .aload_n 0, 1, [0], 0) else some (28, .aload_n 0, 1, [0], 0))) else (bif Nat.blt k 17 then some (29, .getfield 110, 3, [8, 19, 0], 0) else (bif Nat.blt k 18 then some (32, .invokevirtual 113, 3, [107, 2], 0) else some (35, .invokestatic 125, 3, [112, 1], 0)))) else (bif Nat.blt k 22 then (bif Nat.blt k 20 then some (38, .iastore, 1, [], 0) else (bif Nat.blt k 21 then some (39, .iinc 1 1, 3, [1], nI 1) else some (42, .aload_n 0, 1, [0], 0))) else (bif Nat.blt k 24 then (bif Nat.blt k 23 then some (43, .dup, 1, [], 0) else some (44, .getfield 110, 3, [8, 19, 0], 0)) else (bif Nat.blt k 25 then some (47, .iconst 1, 1, [], nI 1) else some (48, .iadd, 1, [], 0)))))) else (bif Nat.blt k 39 then (bif Nat.blt k 32 then (bif Nat.blt k 29 then (bif Nat.blt k 27 then some (49, .putfield 110, 3, [8, 19, 0], 0) else (bif Nat.blt k 28 then some (52, .goto (-50), 3, [2], 0) else some (55, .aload_n 0, 1, [0], 0))) else (bif Nat.blt k 30 then some (56, .iload_n 1, 1, [1], 0) else (bif Nat.blt k 31 then some (57, .putfield 88, 3, [8, 22, 0], 0) else some (60, .iload_n 1, 1, [1], 0)))) else (bif Nat.blt k 35 then (bif Nat.blt k 33 then some (61, .iconst 1, 1, [], nI 1) else (bif Nat.blt k 34 then some (62, .if_icmp .le 20, 3, [42], 0) else some (65, .aload_n 0, 1, [0], 0))) else (bif Nat.blt k 37 then (bif Nat.blt k 36 then some (66, .aload_n 0, 1, [0], 0) else some (67, .getfield 110, 3, [8, 19, 0], 0)) else (bif Nat.blt k 38 then some (70, .invokevirtual 113, 3, [107, 2], 0) else some (73, .bipush 59, 2, [], nI 59))))) else (bif Nat.blt k 45 then (bif Nat.blt k 42 then (bif Nat.blt k 40 then some (75, .if_icmp .ne 7, 3, [42], 0) else (bif Nat.blt k 41 then some (78, .iconst 1, 1, [], nI 1) else some (79, .goto 4, 3, [43], 0))) else (bif Nat.blt k 43 then some (82, .iconst 0, 1, [], nI 0) else (bif Nat.blt k 44 then some (83, .istore_n 2, 1, [2], 0) else some (84, .aload_n 0, 1, [0], 0)))) else (bif Nat.blt k 48 then (bif Nat.blt k 46 then some (85, .dup, 1, [], 0) else (bif Nat.blt k 47 then some (86, .getfield 110, 3, [8, 19, 0], 0) else some (89, .iconst 1, 1, [], nI 1))) else (bif Nat.blt k 50 then (bif Nat.blt k 49 then some (90, .iadd, 1, [], 0) else some (91, .putfield 110, 3, [8, 19, 0], 0)) else (bif Nat.blt k 51 then some (94, .iload_n 2, 1, [2], 0) else some (95, .ireturn, 1, [], 0)))))))
/-- 114: OracleWheelModel.readTurnOf()Z -/
def m_t114 (k : Nat) : Option ME := (bif Nat.blt k 22 then (bif Nat.blt k 11 then (bif Nat.blt k 5 then (bif Nat.blt k 2 then (bif Nat.blt k 1 then some (0, .aload_n 0, 1, [0], 0) else some (1, .iconst 3, 1, [], nI 3)) else (bif Nat.blt k 3 then some (2, .invokevirtual 128, 3, [109, 2], 0) else (bif Nat.blt k 4 then some (5, .ifCond .eq 36, 3, [22], 0) else some (8, .aload_n 0, 1, [0], 0)))) else (bif Nat.blt k 8 then (bif Nat.blt k 6 then some (9, .iconst 0, 1, [], nI 0) else (bif Nat.blt k 7 then some (10, .iconst 0, 1, [], nI 0) else some (11, .bipush 11, 2, [], nI 11))) else (bif Nat.blt k 9 then some (13, .invokevirtual 131, 3, [110, 4], 0) else (bif Nat.blt k 10 then some (16, .ifCond .eq 25, 3, [22], 0) else some (19, .aload_n 0, 1, [0], 0))))) else (bif Nat.blt k 16 then (bif Nat.blt k 13 then (bif Nat.blt k 12 then some (20, .iconst 1, 1, [], nI 1) else some (21, .iconst 1, 1, [], nI 1)) else (bif Nat.blt k 14 then some (22, .bipush 24, 2, [], nI 24) else (bif Nat.blt k 15 then some (24, .invokevirtual 131, 3, [110, 4], 0) else some (27, .ifCond .eq 14, 3, [22], 0)))) else (bif Nat.blt k 19 then (bif Nat.blt k 17 then some (30, .aload_n 0, 1, [0], 0) else (bif Nat.blt k 18 then some (31, .iconst 2, 1, [], nI 2) else some (32, .iconst 0, 1, [], nI 0))) else (bif Nat.blt k 20 then some (33, .bipush 11, 2, [], nI 11) else (bif Nat.blt k 21 then some (35, .invokevirtual 131, 3, [110, 4], 0) else some (38, .ifCond .ne 5, 3, [24], 0)))))) else (bif Nat.blt k 33 then (bif Nat.blt k 27 then (bif Nat.blt k 24 then (bif Nat.blt k 23 then some (41, .iconst 0, 1, [], nI 0) else some (42, .ireturn, 1, [], 0)) else (bif Nat.blt k 25 then some (43, .aload_n 0, 1, [0], 0) else (bif Nat.blt k 26 then some (44, .aload_n 0, 1, [0], 0) else some (45, .getfield 34, 3, [8, 20, 2], 0)))) else (bif Nat.blt k 30 then (bif Nat.blt k 28 then some (48, .iconst 0, 1, [], nI 0) else (bif Nat.blt k 29 then some (49, .iaload, 1, [], 0) else some (50, .putfield 64, 3, [8, 24, 0], 0))) else (bif Nat.blt k 31 then some (53, .aload_n 0, 1, [0], 0) else (bif Nat.blt k 32 then some (54, .aload_n 0, 1, [0], 0) else some (55, .getfield 34, 3, [8, 20, 2], 0))))) else (bif Nat.blt k 38 then (bif Nat.blt k 35 then (bif Nat.blt k 34 then some (58, .iconst 1, 1, [], nI 1) else some (59, .iaload, 1, [], 0)) else (bif Nat.blt k 36 then some (60, .putfield 68, 3, [8, 25, 0], 0) else (bif Nat.blt k 37 then some (63, .aload_n 0, 1, [0], 0) else some (64, .aload_n 0, 1, [0], 0)))) else (bif Nat.blt k 41 then (bif Nat.blt k 39 then some (65, .getfield 34, 3, [8, 20, 2], 0) else (bif Nat.blt k 40 then some (68, .iconst 2, 1, [], nI 2) else some (69, .iaload, 1, [], 0))) else (bif Nat.blt k 42 then some (70, .putfield 71, 3, [8, 26, 0], 0) else (bif Nat.blt k 43 then some (73, .iconst 1, 1, [], nI 1) else some (74, .ireturn, 1, [], 0)))))))
/-- 115: OracleWheelModel.readPlacesOf()Z -/
def m_t115 (k : Nat) : Option ME := (bif Nat.blt k 15 then (bif Nat.blt k 7 then (bif Nat.blt k 3 then (bif Nat.blt k 1 then some (0, .aload_n 0, 1, [0], 0) else (bif Nat.blt k 2 then some (1, .getfield 121, 3, [8, 21, 1], 0) else some (4, .ifCond .ne 26, 3, [15], 0))) else (bif Nat.blt k 5 then (bif Nat.blt k 4 then some (7, .aload_n 0, 1, [0], 0) else some (8, .iconst 1, 1, [], nI 1)) else (bif Nat.blt k 6 then some (9, .invokevirtual 128, 3, [109, 2], 0) else some (12, .ifCond .eq 18, 3, [15], 0)))) else (bif Nat.blt k 11 then (bif Nat.blt k 9 then (bif Nat.blt k 8 then some (15, .aload_n 0, 1, [0], 0) else some (16, .iconst 0, 1, [], nI 0)) else (bif Nat.blt k 10 then some (17, .iconst 1, 1, [], nI 1) else some (18, .bipush 8, 2, [], nI 8))) else (bif Nat.blt k 13 then (bif Nat.blt k 12 then some (20, .invokevirtual 131, 3, [110, 4], 0) else some (23, .ifCond .eq 7, 3, [15], 0)) else (bif Nat.blt k 14 then some (26, .iconst 1, 1, [], nI 1) else some (27, .goto 4, 3, [16], 0))))) else (bif Nat.blt k 22 then (bif Nat.blt k 18 then (bif Nat.blt k 16 then some (30, .iconst 0, 1, [], nI 0) else (bif Nat.blt k 17 then some (31, .istore_n 1, 1, [1], 0) else some (32, .aload_n 0, 1, [0], 0))) else (bif Nat.blt k 20 then (bif Nat.blt k 19 then some (33, .iload_n 1, 1, [1], 0) else some (34, .ifCond .eq 12, 3, [25], 0)) else (bif Nat.blt k 21 then some (37, .aload_n 0, 1, [0], 0) else some (38, .getfield 34, 3, [8, 20, 2], 0)))) else (bif Nat.blt k 26 then (bif Nat.blt k 24 then (bif Nat.blt k 23 then some (41, .iconst 0, 1, [], nI 0) else some (42, .iaload, 1, [], 0)) else (bif Nat.blt k 25 then some (43, .goto 7, 3, [27], 0) else some (46, .aload_n 0, 1, [0], 0))) else (bif Nat.blt k 28 then (bif Nat.blt k 27 then some (47, .getfield 74, 3, [8, 27, 0], 0) else some (50, .putfield 74, 3, [8, 27, 0], 0)) else (bif Nat.blt k 29 then some (53, .iload_n 1, 1, [1], 0) else some (54, .ireturn, 1, [], 0))))))
/-- 116: OracleWheelModel.readWayOf()Z -/
def m_t116 (k : Nat) : Option ME := (bif Nat.blt k 36 then (bif Nat.blt k 18 then (bif Nat.blt k 9 then (bif Nat.blt k 4 then (bif Nat.blt k 2 then (bif Nat.blt k 1 then some (0, .aload_n 0, 1, [0], 0) else some (1, .iconst 1, 1, [], nI 1)) else (bif Nat.blt k 3 then some (2, .putfield 121, 3, [8, 21, 1], 0) else some (5, .aload_n 0, 1, [0], 0))) else (bif Nat.blt k 6 then (bif Nat.blt k 5 then some (6, .getfield 91, 3, [8, 28, 0], 0) else some (9, .bipush 10, 2, [], nI 10)) else (bif Nat.blt k 7 then some (11, .if_icmp .eq 77, 3, [50], 0) else (bif Nat.blt k 8 then some (14, .aload_n 0, 1, [0], 0) else some (15, .iconst 4, 1, [], nI 4))))) else (bif Nat.blt k 13 then (bif Nat.blt k 11 then (bif Nat.blt k 10 then some (16, .invokevirtual 128, 3, [109, 2], 0) else some (19, .ifCond .eq 69, 3, [50], 0)) else (bif Nat.blt k 12 then some (22, .aload_n 0, 1, [0], 0) else some (23, .iconst 0, 1, [], nI 0))) else (bif Nat.blt k 15 then (bif Nat.blt k 14 then some (24, .iconst 0, 1, [], nI 0) else some (25, .iconst 3, 1, [], nI 3)) else (bif Nat.blt k 16 then some (26, .invokevirtual 131, 3, [110, 4], 0) else (bif Nat.blt k 17 then some (29, .ifCond .eq 59, 3, [50], 0) else some (32, .aload_n 0, 1, [0], 0)))))) else (bif Nat.blt k 27 then (bif Nat.blt k 22 then (bif Nat.blt k 20 then (bif Nat.blt k 19 then some (33, .iconst 1, 1, [], nI 1) else some (34, .iconst 0, 1, [], nI 0)) else (bif Nat.blt k 21 then some (35, .aload_n 0, 1, [0], 0) else some (36, .getfield 74, 3, [8, 27, 0], 0))) else (bif Nat.blt k 24 then (bif Nat.blt k 23 then some (39, .iconst 1, 1, [], nI 1) else some (40, .isub, 1, [], 0)) else (bif Nat.blt k 25 then some (41, .invokevirtual 131, 3, [110, 4], 0) else (bif Nat.blt k 26 then some (44, .ifCond .eq 44, 3, [50], 0) else some (47, .aload_n 0, 1, [0], 0))))) else (bif Nat.blt k 31 then (bif Nat.blt k 29 then (bif Nat.blt k 28 then some (48, .iconst 2, 1, [], nI 2) else some (49, .iconst 0, 1, [], nI 0)) else (bif Nat.blt k 30 then some (50, .aload_n 0, 1, [0], 0) else some (51, .getfield 74, 3, [8, 27, 0], 0))) else (bif Nat.blt k 33 then (bif Nat.blt k 32 then some (54, .iconst 1, 1, [], nI 1) else some (55, .isub, 1, [], 0)) else (bif Nat.blt k 34 then some (56, .invokevirtual 131, 3, [110, 4], 0) else (bif Nat.blt k 35 then some (59, .ifCond .eq 29, 3, [50], 0) else some (62, .aload_n 0, 1, [0], 0))))))) else (bif Nat.blt k 54 then (bif Nat.blt k 45 then (bif Nat.blt k 40 then (bif Nat.blt k 38 then (bif Nat.blt k 37 then some (63, .iconst 3, 1, [], nI 3) else some (64, .iconst 1, 1, [], nI 1)) else (bif Nat.blt k 39 then some (65, .bipush 12, 2, [], nI 12) else some (67, .invokevirtual 131, 3, [110, 4], 0))) else (bif Nat.blt k 42 then (bif Nat.blt k 41 then some (70, .ifCond .eq 18, 3, [50], 0) else some (73, .aload_n 0, 1, [0], 0)) else (bif Nat.blt k 43 then some (74, .getfield 34, 3, [8, 20, 2], 0) else (bif Nat.blt k 44 then some (77, .iconst 1, 1, [], nI 1) else some (78, .iaload, 1, [], 0))))) else (bif Nat.blt k 49 then (bif Nat.blt k 47 then (bif Nat.blt k 46 then some (79, .aload_n 0, 1, [0], 0) else some (80, .getfield 34, 3, [8, 20, 2], 0)) else (bif Nat.blt k 48 then some (83, .iconst 2, 1, [], nI 2) else some (84, .iaload, 1, [], 0))) else (bif Nat.blt k 51 then (bif Nat.blt k 50 then some (85, .if_icmp .ne 5, 3, [52], 0) else some (88, .iconst 0, 1, [], nI 0)) else (bif Nat.blt k 52 then some (89, .ireturn, 1, [], 0) else (bif Nat.blt k 53 then some (90, .aload_n 0, 1, [0], 0) else some (91, .aload_n 0, 1, [0], 0)))))) else (bif Nat.blt k 63 then (bif Nat.blt k 58 then (bif Nat.blt k 56 then (bif Nat.blt k 55 then some (92, .getfield 34, 3, [8, 20, 2], 0) else some (95, .iconst 0, 1, [], nI 0)) else (bif Nat.blt k 57 then some (96, .iaload, 1, [], 0) else some (97, .aload_n 0, 1, [0], 0))) else (bif Nat.blt k 60 then (bif Nat.blt k 59 then some (98, .getfield 34, 3, [8, 20, 2], 0) else some (101, .iconst 1, 1, [], nI 1)) else (bif Nat.blt k 61 then some (102, .iaload, 1, [], 0) else (bif Nat.blt k 62 then some (103, .aload_n 0, 1, [0], 0) else some (104, .getfield 34, 3, [8, 20, 2], 0))))) else (bif Nat.blt k 67 then (bif Nat.blt k 65 then (bif Nat.blt k 64 then some (107, .iconst 2, 1, [], nI 2) else some (108, .iaload, 1, [], 0)) else (bif Nat.blt k 66 then some (109, .aload_n 0, 1, [0], 0) else some (110, .getfield 34, 3, [8, 20, 2], 0))) else (bif Nat.blt k 69 then (bif Nat.blt k 68 then some (113, .iconst 3, 1, [], nI 3) else some (114, .iaload, 1, [], 0)) else (bif Nat.blt k 70 then some (115, .invokevirtual 77, 3, [98, 5], 0) else (bif Nat.blt k 71 then some (118, .iconst 1, 1, [], nI 1) else some (119, .ireturn, 1, [], 0))))))))
/-- 117: OracleWheelModel.readAskerOf()Z -/
def m_t117 (k : Nat) : Option ME := (bif Nat.blt k 20 then (bif Nat.blt k 10 then (bif Nat.blt k 5 then (bif Nat.blt k 2 then (bif Nat.blt k 1 then some (0, .aload_n 0, 1, [0], 0) else some (1, .iconst 1, 1, [], nI 1)) else (bif Nat.blt k 3 then some (2, .putfield 121, 3, [8, 21, 1], 0) else (bif Nat.blt k 4 then some (5, .aload_n 0, 1, [0], 0) else some (6, .getfield 94, 3, [8, 30, 0], 0)))) else (bif Nat.blt k 7 then (bif Nat.blt k 6 then some (9, .iconst 4, 1, [], nI 4) else some (10, .if_icmp .eq 36, 3, [26], 0)) else (bif Nat.blt k 8 then some (13, .aload_n 0, 1, [0], 0) else (bif Nat.blt k 9 then some (14, .iconst 2, 1, [], nI 2) else some (15, .invokevirtual 128, 3, [109, 2], 0))))) else (bif Nat.blt k 15 then (bif Nat.blt k 12 then (bif Nat.blt k 11 then some (18, .ifCond .eq 28, 3, [26], 0) else some (21, .aload_n 0, 1, [0], 0)) else (bif Nat.blt k 13 then some (22, .iconst 0, 1, [], nI 0) else (bif Nat.blt k 14 then some (23, .iconst 0, 1, [], nI 0) else some (24, .aload_n 0, 1, [0], 0)))) else (bif Nat.blt k 17 then (bif Nat.blt k 16 then some (25, .getfield 74, 3, [8, 27, 0], 0) else some (28, .iconst 1, 1, [], nI 1)) else (bif Nat.blt k 18 then some (29, .isub, 1, [], 0) else (bif Nat.blt k 19 then some (30, .invokevirtual 131, 3, [110, 4], 0) else some (33, .ifCond .eq 13, 3, [26], 0)))))) else (bif Nat.blt k 30 then (bif Nat.blt k 25 then (bif Nat.blt k 22 then (bif Nat.blt k 21 then some (36, .aload_n 0, 1, [0], 0) else some (37, .iconst 1, 1, [], nI 1)) else (bif Nat.blt k 23 then some (38, .iconst 0, 1, [], nI 0) else (bif Nat.blt k 24 then some (39, .iconst 3, 1, [], nI 3) else some (40, .invokevirtual 131, 3, [110, 4], 0)))) else (bif Nat.blt k 27 then (bif Nat.blt k 26 then some (43, .ifCond .ne 5, 3, [28], 0) else some (46, .iconst 0, 1, [], nI 0)) else (bif Nat.blt k 28 then some (47, .ireturn, 1, [], 0) else (bif Nat.blt k 29 then some (48, .aload_n 0, 1, [0], 0) else some (49, .aload_n 0, 1, [0], 0))))) else (bif Nat.blt k 35 then (bif Nat.blt k 32 then (bif Nat.blt k 31 then some (50, .getfield 34, 3, [8, 20, 2], 0) else some (53, .iconst 0, 1, [], nI 0)) else (bif Nat.blt k 33 then some (54, .iaload, 1, [], 0) else (bif Nat.blt k 34 then some (55, .aload_n 0, 1, [0], 0) else some (56, .getfield 34, 3, [8, 20, 2], 0)))) else (bif Nat.blt k 37 then (bif Nat.blt k 36 then some (59, .iconst 1, 1, [], nI 1) else some (60, .iaload, 1, [], 0)) else (bif Nat.blt k 38 then some (61, .invokevirtual 81, 3, [99, 3], 0) else (bif Nat.blt k 39 then some (64, .iconst 1, 1, [], nI 1) else some (65, .ireturn, 1, [], 0)))))))
/-- 118: OracleWheelModel.readItem()Z -/
def m_t118 (k : Nat) : Option ME := (bif Nat.blt k 15 then (bif Nat.blt k 7 then (bif Nat.blt k 3 then (bif Nat.blt k 1 then some (0, .aload_n 0, 1, [0], 0) else (bif Nat.blt k 2 then some (1, .aload_n 0, 1, [0], 0) else some (2, .getfield 110, 3, [8, 19, 0], 0))) else (bif Nat.blt k 5 then (bif Nat.blt k 4 then some (5, .invokevirtual 113, 3, [107, 2], 0) else some (8, .istore_n 1, 1, [1], 0)) else (bif Nat.blt k 6 then some (9, .aload_n 0, 1, [0], 0) else some (10, .dup, 1, [], 0)))) else (bif Nat.blt k 11 then (bif Nat.blt k 9 then (bif Nat.blt k 8 then some (11, .getfield 110, 3, [8, 19, 0], 0) else some (14, .iconst 1, 1, [], nI 1)) else (bif Nat.blt k 10 then some (15, .iadd, 1, [], 0) else some (16, .putfield 110, 3, [8, 19, 0], 0))) else (bif Nat.blt k 13 then (bif Nat.blt k 12 then some (19, .iload_n 1, 1, [1], 0) else some (20, .lookupswitch 77 #[(97, 72), (104, 62), (114, 52), (115, 57), (119, 67)], 52, [28, 97, 25, 104, 19, 114, 13, 115, 16, 119, 22], 0)) else (bif Nat.blt k 14 then some (72, .aload_n 0, 1, [0], 0) else some (73, .invokevirtual 134, 3, [113, 1], 0))))) else (bif Nat.blt k 22 then (bif Nat.blt k 18 then (bif Nat.blt k 16 then some (76, .ireturn, 1, [], 0) else (bif Nat.blt k 17 then some (77, .aload_n 0, 1, [0], 0) else some (78, .invokevirtual 138, 3, [114, 1], 0))) else (bif Nat.blt k 20 then (bif Nat.blt k 19 then some (81, .ireturn, 1, [], 0) else some (82, .aload_n 0, 1, [0], 0)) else (bif Nat.blt k 21 then some (83, .invokevirtual 141, 3, [115, 1], 0) else some (86, .ireturn, 1, [], 0)))) else (bif Nat.blt k 26 then (bif Nat.blt k 24 then (bif Nat.blt k 23 then some (87, .aload_n 0, 1, [0], 0) else some (88, .invokevirtual 144, 3, [116, 1], 0)) else (bif Nat.blt k 25 then some (91, .ireturn, 1, [], 0) else some (92, .aload_n 0, 1, [0], 0))) else (bif Nat.blt k 28 then (bif Nat.blt k 27 then some (93, .invokevirtual 147, 3, [117, 1], 0) else some (96, .ireturn, 1, [], 0)) else (bif Nat.blt k 29 then some (97, .iconst 0, 1, [], nI 0) else some (98, .ireturn, 1, [], 0))))))
/-- 119: OracleWheelModel.fault()I -/
def m_t119 (k : Nat) : Option ME := (bif Nat.blt k 10 then (bif Nat.blt k 5 then (bif Nat.blt k 2 then (bif Nat.blt k 1 then some (0, .aload_n 0, 1, [0], 0) else some (1, .iconst 0, 1, [], nI 0)) else (bif Nat.blt k 3 then some (2, .putfield 110, 3, [8, 19, 0], 0) else (bif Nat.blt k 4 then some (5, .aload_n 0, 1, [0], 0) else some (6, .invokevirtual 58, 3, [111, 1], 0)))) else (bif Nat.blt k 7 then (bif Nat.blt k 6 then some (9, .aload_n 0, 1, [0], 0) else some (10, .getfield 110, 3, [8, 19, 0], 0)) else (bif Nat.blt k 8 then some (13, .aload_n 0, 1, [0], 0) else (bif Nat.blt k 9 then some (14, .getfield 107, 3, [8, 18, 0], 0) else some (17, .if_icmp .ge 20, 3, [19], 0))))) else (bif Nat.blt k 15 then (bif Nat.blt k 12 then (bif Nat.blt k 11 then some (20, .aload_n 0, 1, [0], 0) else some (21, .getfield 110, 3, [8, 19, 0], 0)) else (bif Nat.blt k 13 then some (24, .istore_n 1, 1, [1], 0) else (bif Nat.blt k 14 then some (25, .aload_n 0, 1, [0], 0) else some (26, .invokevirtual 150, 3, [118, 1], 0)))) else (bif Nat.blt k 18 then (bif Nat.blt k 16 then some (29, .ifCond .ne 5, 3, [18], 0) else (bif Nat.blt k 17 then some (32, .iload_n 1, 1, [1], 0) else some (33, .ireturn, 1, [], 0))) else (bif Nat.blt k 19 then some (34, .goto (-25), 3, [5], 0) else (bif Nat.blt k 20 then some (37, .bipush (-4), 2, [], (-4)) else some (39, .ireturn, 1, [], 0))))))
/-- 120: OracleWheelModel.lay()I -/
def m_t120 (k : Nat) : Option ME := (bif Nat.blt k 7 then (bif Nat.blt k 3 then (bif Nat.blt k 1 then some (0, .aload_n 0, 1, [0], 0) else (bif Nat.blt k 2 then some (1, .invokevirtual 153, 3, [119, 1], 0) else some (4, .bipush (-4), 2, [], (-4)))) else (bif Nat.blt k 5 then (bif Nat.blt k 4 then some (6, .if_icmp .ne 10, 3, [7], 0) else some (9, .aload_n 0, 1, [0], 0)) else (bif Nat.blt k 6 then some (10, .getfield 94, 3, [8, 30, 0], 0) else some (13, .ifCond .ne 6, 3, [9], 0)))) else (bif Nat.blt k 10 then (bif Nat.blt k 8 then some (16, .bipush (-2), 2, [], (-2)) else (bif Nat.blt k 9 then some (18, .ireturn, 1, [], 0) else some (19, .aload_n 0, 1, [0], 0))) else (bif Nat.blt k 12 then (bif Nat.blt k 11 then some (20, .invokevirtual 85, 3, [122, 1], 0) else some (23, .aload_n 0, 1, [0], 0)) else (bif Nat.blt k 13 then some (24, .getfield 157, 3, [8, 5, 0], 0) else some (27, .ireturn, 1, [], 0)))))
/-- 121: OracleWheelModel.copies([II[III)V -/
def m_t121 (k : Nat) : Option ME := (bif Nat.blt k 9 then (bif Nat.blt k 4 then (bif Nat.blt k 2 then (bif Nat.blt k 1 then some (0, .iconst 0, 1, [], nI 0) else some (1, .istore 5, 2, [5], 0)) else (bif Nat.blt k 3 then some (3, .iload 5, 2, [5], 0) else some (5, .iload 4, 2, [4], 0))) else (bif Nat.blt k 6 then (bif Nat.blt k 5 then some (7, .if_icmp .ge 21, 3, [17], 0) else some (10, .aload_n 0, 1, [0], 0)) else (bif Nat.blt k 7 then some (11, .iload_n 1, 1, [1], 0) else (bif Nat.blt k 8 then some (12, .iload 5, 2, [5], 0) else some (14, .iadd, 1, [], 0))))) else (bif Nat.blt k 13 then (bif Nat.blt k 11 then (bif Nat.blt k 10 then some (15, .aload_n 2, 1, [2], 0) else some (16, .iload_n 3, 1, [3], 0)) else (bif Nat.blt k 12 then some (17, .iload 5, 2, [5], 0) else some (19, .iadd, 1, [], 0))) else (bif Nat.blt k 15 then (bif Nat.blt k 14 then some (20, .iaload, 1, [], 0) else some (21, .iastore, 1, [], 0)) else (bif Nat.blt k 16 then some (22, .iinc 5 1, 3, [5], nI 1) else (bif Nat.blt k 17 then some (25, .goto (-22), 3, [2], 0) else some (28, .return_, 1, [], 0))))))
/-- 122: OracleWheelModel.settles()V -/
def m_t122 (k : Nat) : Option ME := (bif Nat.blt k 46 then (bif Nat.blt k 23 then (bif Nat.blt k 11 then (bif Nat.blt k 5 then (bif Nat.blt k 2 then (bif Nat.blt k 1 then some (0, .aload_n 0, 1, [0], 0) else some (1, .aload_n 0, 1, [0], 0)) else (bif Nat.blt k 3 then some (2, .getfield 88, 3, [8, 22, 0], 0) else (bif Nat.blt k 4 then some (5, .putfield 160, 3, [8, 0, 0], 0) else some (8, .aload_n 0, 1, [0], 0)))) else (bif Nat.blt k 8 then (bif Nat.blt k 6 then some (9, .getfield 7, 3, [8, 1, 2], 0) else (bif Nat.blt k 7 then some (12, .iconst 0, 1, [], nI 0) else some (13, .aload_n 0, 1, [0], 0))) else (bif Nat.blt k 9 then some (14, .getfield 37, 3, [8, 23, 2], 0) else (bif Nat.blt k 10 then some (17, .iconst 0, 1, [], nI 0) else some (18, .bipush 12, 2, [], nI 12))))) else (bif Nat.blt k 17 then (bif Nat.blt k 14 then (bif Nat.blt k 12 then some (20, .invokestatic 163, 3, [121, 5], 0) else (bif Nat.blt k 13 then some (23, .aload_n 0, 1, [0], 0) else some (24, .aload_n 0, 1, [0], 0))) else (bif Nat.blt k 15 then some (25, .getfield 64, 3, [8, 24, 0], 0) else (bif Nat.blt k 16 then some (28, .putfield 167, 3, [8, 2, 0], 0) else some (31, .aload_n 0, 1, [0], 0)))) else (bif Nat.blt k 20 then (bif Nat.blt k 18 then some (32, .aload_n 0, 1, [0], 0) else (bif Nat.blt k 19 then some (33, .getfield 68, 3, [8, 25, 0], 0) else some (36, .putfield 170, 3, [8, 3, 0], 0))) else (bif Nat.blt k 21 then some (39, .aload_n 0, 1, [0], 0) else (bif Nat.blt k 22 then some (40, .aload_n 0, 1, [0], 0) else some (41, .getfield 71, 3, [8, 26, 0], 0)))))) else (bif Nat.blt k 34 then (bif Nat.blt k 28 then (bif Nat.blt k 25 then (bif Nat.blt k 24 then some (44, .putfield 173, 3, [8, 4, 0], 0) else some (47, .aload_n 0, 1, [0], 0)) else (bif Nat.blt k 26 then some (48, .aload_n 0, 1, [0], 0) else (bif Nat.blt k 27 then some (49, .getfield 74, 3, [8, 27, 0], 0) else some (52, .putfield 157, 3, [8, 5, 0], 0)))) else (bif Nat.blt k 31 then (bif Nat.blt k 29 then some (55, .aload_n 0, 1, [0], 0) else (bif Nat.blt k 30 then some (56, .aload_n 0, 1, [0], 0) else some (57, .getfield 91, 3, [8, 28, 0], 0))) else (bif Nat.blt k 32 then some (60, .putfield 97, 3, [8, 6, 0], 0) else (bif Nat.blt k 33 then some (63, .aload_n 0, 1, [0], 0) else some (64, .getfield 13, 3, [8, 7, 2], 0))))) else (bif Nat.blt k 40 then (bif Nat.blt k 37 then (bif Nat.blt k 35 then some (67, .iconst 0, 1, [], nI 0) else (bif Nat.blt k 36 then some (68, .aload_n 0, 1, [0], 0) else some (69, .getfield 40, 3, [8, 29, 2], 0))) else (bif Nat.blt k 38 then some (72, .iconst 0, 1, [], nI 0) else (bif Nat.blt k 39 then some (73, .bipush 40, 2, [], nI 40) else some (75, .invokestatic 163, 3, [121, 5], 0)))) else (bif Nat.blt k 43 then (bif Nat.blt k 41 then some (78, .aload_n 0, 1, [0], 0) else (bif Nat.blt k 42 then some (79, .aload_n 0, 1, [0], 0) else some (80, .getfield 94, 3, [8, 30, 0], 0))) else (bif Nat.blt k 44 then some (83, .putfield 104, 3, [8, 8, 0], 0) else (bif Nat.blt k 45 then some (86, .iconst 0, 1, [], nI 0) else some (87, .istore_n 1, 1, [1], 0))))))) else (bif Nat.blt k 69 then (bif Nat.blt k 57 then (bif Nat.blt k 51 then (bif Nat.blt k 48 then (bif Nat.blt k 47 then some (88, .iload_n 1, 1, [1], 0) else some (89, .bipush 12, 2, [], nI 12)) else (bif Nat.blt k 49 then some (91, .if_icmp .ge 16, 3, [56], 0) else (bif Nat.blt k 50 then some (94, .aload_n 0, 1, [0], 0) else some (95, .getfield 19, 3, [8, 10, 2], 0)))) else (bif Nat.blt k 54 then (bif Nat.blt k 52 then some (98, .iload_n 1, 1, [1], 0) else (bif Nat.blt k 53 then some (99, .iconst 0, 1, [], nI 0) else some (100, .iastore, 1, [], 0))) else (bif Nat.blt k 55 then some (101, .iinc 1 1, 3, [1], nI 1) else (bif Nat.blt k 56 then some (104, .goto (-16), 3, [46], 0) else some (107, .iconst 0, 1, [], nI 0))))) else (bif Nat.blt k 63 then (bif Nat.blt k 60 then (bif Nat.blt k 58 then some (108, .istore_n 1, 1, [1], 0) else (bif Nat.blt k 59 then some (109, .iload_n 1, 1, [1], 0) else some (110, .aload_n 0, 1, [0], 0))) else (bif Nat.blt k 61 then some (111, .getfield 104, 3, [8, 8, 0], 0) else (bif Nat.blt k 62 then some (114, .if_icmp .ge 35, 3, [82], 0) else some (117, .aload_n 0, 1, [0], 0)))) else (bif Nat.blt k 66 then (bif Nat.blt k 64 then some (118, .getfield 16, 3, [8, 9, 2], 0) else (bif Nat.blt k 65 then some (121, .iload_n 1, 1, [1], 0) else some (122, .aload_n 0, 1, [0], 0))) else (bif Nat.blt k 67 then some (123, .getfield 46, 3, [8, 32, 2], 0) else (bif Nat.blt k 68 then some (126, .iload_n 1, 1, [1], 0) else some (127, .iaload, 1, [], 0)))))) else (bif Nat.blt k 80 then (bif Nat.blt k 74 then (bif Nat.blt k 71 then (bif Nat.blt k 70 then some (128, .iastore, 1, [], 0) else some (129, .aload_n 0, 1, [0], 0)) else (bif Nat.blt k 72 then some (130, .getfield 19, 3, [8, 10, 2], 0) else (bif Nat.blt k 73 then some (133, .iconst 4, 1, [], nI 4) else some (134, .iload_n 1, 1, [1], 0)))) else (bif Nat.blt k 77 then (bif Nat.blt k 75 then some (135, .iadd, 1, [], 0) else (bif Nat.blt k 76 then some (136, .aload_n 0, 1, [0], 0) else some (137, .getfield 43, 3, [8, 31, 2], 0))) else (bif Nat.blt k 78 then some (140, .iload_n 1, 1, [1], 0) else (bif Nat.blt k 79 then some (141, .iaload, 1, [], 0) else some (142, .iastore, 1, [], 0))))) else (bif Nat.blt k 86 then (bif Nat.blt k 83 then (bif Nat.blt k 81 then some (143, .iinc 1 1, 3, [1], nI 1) else (bif Nat.blt k 82 then some (146, .goto (-37), 3, [58], 0) else some (149, .aload_n 0, 1, [0], 0))) else (bif Nat.blt k 84 then some (150, .iconst 0, 1, [], nI 0) else (bif Nat.blt k 85 then some (151, .putfield 176, 3, [8, 11, 0], 0) else some (154, .aload_n 0, 1, [0], 0)))) else (bif Nat.blt k 89 then (bif Nat.blt k 87 then some (155, .iconst 0, 1, [], nI 0) else (bif Nat.blt k 88 then some (156, .putfield 179, 3, [8, 13, 0], 0) else some (159, .aload_n 0, 1, [0], 0))) else (bif Nat.blt k 90 then some (160, .iconst 0, 1, [], nI 0) else (bif Nat.blt k 91 then some (161, .putfield 182, 3, [8, 15, 0], 0) else some (164, .return_, 1, [], 0))))))))
/-- 123: OracleWheelModel.turnsBy(IIII)I -/
def m_t123 (k : Nat) : Option ME := (bif Nat.blt k 8 then (bif Nat.blt k 4 then (bif Nat.blt k 2 then (bif Nat.blt k 1 then some (0, .iload_n 2, 1, [2], 0) else some (1, .ifCond .le 7, 3, [4], 0)) else (bif Nat.blt k 3 then some (4, .iconst 0, 1, [], nI 0) else some (5, .goto 22, 3, [16], 0))) else (bif Nat.blt k 6 then (bif Nat.blt k 5 then some (8, .iload_n 1, 1, [1], 0) else some (9, .iconst 1, 1, [], nI 1)) else (bif Nat.blt k 7 then some (10, .iadd, 1, [], 0) else some (11, .iload 4, 2, [4], 0)))) else (bif Nat.blt k 12 then (bif Nat.blt k 10 then (bif Nat.blt k 9 then some (13, .irem, 1, [], 0) else some (14, .ifCond .ne 12, 3, [15], 0)) else (bif Nat.blt k 11 then some (17, .iload_n 3, 1, [3], 0) else some (18, .aload_n 0, 1, [0], 0))) else (bif Nat.blt k 14 then (bif Nat.blt k 13 then some (19, .getfield 173, 3, [8, 4, 0], 0) else some (22, .iadd, 1, [], 0)) else (bif Nat.blt k 15 then some (23, .goto 4, 3, [16], 0) else (bif Nat.blt k 16 then some (26, .iload_n 3, 1, [3], 0) else some (27, .ireturn, 1, [], 0))))))
/-- 124: OracleWheelModel.findUps(IIII)V -/
def m_t124 (k : Nat) : Option ME := (bif Nat.blt k 21 then (bif Nat.blt k 10 then (bif Nat.blt k 5 then (bif Nat.blt k 2 then (bif Nat.blt k 1 then some (0, .aload_n 0, 1, [0], 0) else some (1, .getfield 49, 3, [8, 33, 2], 0)) else (bif Nat.blt k 3 then some (4, .iconst 0, 1, [], nI 0) else (bif Nat.blt k 4 then some (5, .aload_n 0, 1, [0], 0) else some (6, .getfield 19, 3, [8, 10, 2], 0)))) else (bif Nat.blt k 7 then (bif Nat.blt k 6 then some (9, .iconst 1, 1, [], nI 1) else some (10, .iaload, 1, [], 0)) else (bif Nat.blt k 8 then some (11, .iastore, 1, [], 0) else (bif Nat.blt k 9 then some (12, .iconst 0, 1, [], nI 0) else some (13, .istore 5, 2, [5], 0))))) else (bif Nat.blt k 15 then (bif Nat.blt k 12 then (bif Nat.blt k 11 then some (15, .iload 5, 2, [5], 0) else some (17, .iload 4, 2, [4], 0)) else (bif Nat.blt k 13 then some (19, .if_icmp .ge 50, 3, [42], 0) else (bif Nat.blt k 14 then some (22, .aload_n 0, 1, [0], 0) else some (23, .getfield 49, 3, [8, 33, 2], 0)))) else (bif Nat.blt k 18 then (bif Nat.blt k 16 then some (26, .iload 5, 2, [5], 0) else (bif Nat.blt k 17 then some (28, .iconst 1, 1, [], nI 1) else some (29, .iadd, 1, [], 0))) else (bif Nat.blt k 19 then some (30, .aload_n 0, 1, [0], 0) else (bif Nat.blt k 20 then some (31, .getfield 49, 3, [8, 33, 2], 0) else some (34, .iload 5, 2, [5], 0)))))) else (bif Nat.blt k 32 then (bif Nat.blt k 26 then (bif Nat.blt k 23 then (bif Nat.blt k 22 then some (36, .iaload, 1, [], 0) else some (37, .aload_n 0, 1, [0], 0)) else (bif Nat.blt k 24 then some (38, .aload_n 0, 1, [0], 0) else (bif Nat.blt k 25 then some (39, .getfield 19, 3, [8, 10, 2], 0) else some (42, .iconst 0, 1, [], nI 0)))) else (bif Nat.blt k 29 then (bif Nat.blt k 27 then some (43, .iaload, 1, [], 0) else (bif Nat.blt k 28 then some (44, .iload 5, 2, [5], 0) else some (46, .iadd, 1, [], 0))) else (bif Nat.blt k 30 then some (47, .iload_n 1, 1, [1], 0) else (bif Nat.blt k 31 then some (48, .iload 5, 2, [5], 0) else some (50, .isub, 1, [], 0))))) else (bif Nat.blt k 37 then (bif Nat.blt k 34 then (bif Nat.blt k 33 then some (51, .iload_n 2, 1, [2], 0) else some (52, .iload_n 3, 1, [3], 0)) else (bif Nat.blt k 35 then some (53, .invokevirtual 185, 3, [123, 5], 0) else (bif Nat.blt k 36 then some (56, .iadd, 1, [], 0) else some (57, .aload_n 0, 1, [0], 0)))) else (bif Nat.blt k 40 then (bif Nat.blt k 38 then some (58, .getfield 160, 3, [8, 0, 0], 0) else (bif Nat.blt k 39 then some (61, .irem, 1, [], 0) else some (62, .iastore, 1, [], 0))) else (bif Nat.blt k 41 then some (63, .iinc 5 1, 3, [5], nI 1) else (bif Nat.blt k 42 then some (66, .goto (-51), 3, [10], 0) else some (69, .return_, 1, [], 0)))))))
/-- 125: OracleWheelModel.wordBy(I)I -/
def m_t125 (k : Nat) : Option ME := (bif Nat.blt k 4 then (bif Nat.blt k 2 then (bif Nat.blt k 1 then some (0, .aload_n 0, 1, [0], 0) else some (1, .getfield 7, 3, [8, 1, 2], 0)) else (bif Nat.blt k 3 then some (4, .aload_n 0, 1, [0], 0) else some (5, .getfield 49, 3, [8, 33, 2], 0))) else (bif Nat.blt k 6 then (bif Nat.blt k 5 then some (8, .iload_n 1, 1, [1], 0) else some (9, .iaload, 1, [], 0)) else (bif Nat.blt k 7 then some (10, .iaload, 1, [], 0) else some (11, .ireturn, 1, [], 0))))
/-- 126: OracleWheelModel.hoursOf(II)I -/
def m_t126 (k : Nat) : Option ME := (bif Nat.blt k 26 then (bif Nat.blt k 13 then (bif Nat.blt k 6 then (bif Nat.blt k 3 then (bif Nat.blt k 1 then some (0, .aload_n 0, 1, [0], 0) else (bif Nat.blt k 2 then some (1, .getfield 19, 3, [8, 10, 2], 0) else some (4, .iconst 0, 1, [], nI 0))) else (bif Nat.blt k 4 then some (5, .iaload, 1, [], 0) else (bif Nat.blt k 5 then some (6, .iload_n 2, 1, [2], 0) else some (7, .iadd, 1, [], 0)))) else (bif Nat.blt k 9 then (bif Nat.blt k 7 then some (8, .istore_n 3, 1, [3], 0) else (bif Nat.blt k 8 then some (9, .aload_n 0, 1, [0], 0) else some (10, .getfield 13, 3, [8, 7, 2], 0))) else (bif Nat.blt k 11 then (bif Nat.blt k 10 then some (13, .iconst 4, 1, [], nI 4) else some (14, .iload_n 1, 1, [1], 0)) else (bif Nat.blt k 12 then some (15, .imul, 1, [], 0) else some (16, .iconst 3, 1, [], nI 3))))) else (bif Nat.blt k 19 then (bif Nat.blt k 16 then (bif Nat.blt k 14 then some (17, .iadd, 1, [], 0) else (bif Nat.blt k 15 then some (18, .iaload, 1, [], 0) else some (19, .istore 4, 2, [4], 0))) else (bif Nat.blt k 17 then some (21, .aload_n 0, 1, [0], 0) else (bif Nat.blt k 18 then some (22, .getfield 13, 3, [8, 7, 2], 0) else some (25, .iconst 4, 1, [], nI 4)))) else (bif Nat.blt k 22 then (bif Nat.blt k 20 then some (26, .iload_n 1, 1, [1], 0) else (bif Nat.blt k 21 then some (27, .imul, 1, [], 0) else some (28, .iaload, 1, [], 0))) else (bif Nat.blt k 24 then (bif Nat.blt k 23 then some (29, .tableswitch 74 1 3 #[27, 44, 58], 27, [50, 1, 23, 2, 34, 3, 42], 0) else some (56, .iload_n 3, 1, [3], 0)) else (bif Nat.blt k 25 then some (57, .iconst 2, 1, [], nI 2) else some (58, .irem, 1, [], 0)))))) else (bif Nat.blt k 39 then (bif Nat.blt k 32 then (bif Nat.blt k 29 then (bif Nat.blt k 27 then some (59, .iconst 1, 1, [], nI 1) else (bif Nat.blt k 28 then some (60, .if_icmp .ne 10, 3, [32], 0) else some (63, .iconst 2, 1, [], nI 2))) else (bif Nat.blt k 30 then some (64, .iload 4, 2, [4], 0) else (bif Nat.blt k 31 then some (66, .imul, 1, [], 0) else some (67, .goto 5, 3, [33], 0)))) else (bif Nat.blt k 35 then (bif Nat.blt k 33 then some (70, .iload 4, 2, [4], 0) else (bif Nat.blt k 34 then some (72, .ireturn, 1, [], 0) else some (73, .iload_n 3, 1, [3], 0))) else (bif Nat.blt k 37 then (bif Nat.blt k 36 then some (74, .iconst 3, 1, [], nI 3) else some (75, .irem, 1, [], 0)) else (bif Nat.blt k 38 then some (76, .ifCond .ne 8, 3, [40], 0) else some (79, .bipush (-4), 2, [], (-4)))))) else (bif Nat.blt k 45 then (bif Nat.blt k 42 then (bif Nat.blt k 40 then some (81, .goto 5, 3, [41], 0) else (bif Nat.blt k 41 then some (84, .iload 4, 2, [4], 0) else some (86, .ireturn, 1, [], 0))) else (bif Nat.blt k 43 then some (87, .aload_n 0, 1, [0], 0) else (bif Nat.blt k 44 then some (88, .iload_n 2, 1, [2], 0) else some (89, .invokevirtual 189, 3, [125, 2], 0)))) else (bif Nat.blt k 48 then (bif Nat.blt k 46 then some (92, .ifCond .ne 8, 3, [48], 0) else (bif Nat.blt k 47 then some (95, .iload 4, 2, [4], 0) else some (97, .goto 5, 3, [49], 0))) else (bif Nat.blt k 50 then (bif Nat.blt k 49 then some (100, .bipush (-4), 2, [], (-4)) else some (102, .ireturn, 1, [], 0)) else (bif Nat.blt k 51 then some (103, .iload 4, 2, [4], 0) else some (105, .ireturn, 1, [], 0)))))))
/-- 127: OracleWheelModel.word(I)I -/
def m_t127 (k : Nat) : Option ME := (bif Nat.blt k 7 then (bif Nat.blt k 3 then (bif Nat.blt k 1 then some (0, .iload_n 1, 1, [1], 0) else (bif Nat.blt k 2 then some (1, .ifCond .ge 7, 3, [4], 0) else some (4, .iconst (-1), 1, [], (-1)))) else (bif Nat.blt k 5 then (bif Nat.blt k 4 then some (5, .goto 22, 3, [14], 0) else some (8, .iload_n 1, 1, [1], 0)) else (bif Nat.blt k 6 then some (9, .aload_n 0, 1, [0], 0) else some (10, .getfield 160, 3, [8, 0, 0], 0)))) else (bif Nat.blt k 11 then (bif Nat.blt k 9 then (bif Nat.blt k 8 then some (13, .if_icmp .ge 12, 3, [13], 0) else some (16, .aload_n 0, 1, [0], 0)) else (bif Nat.blt k 10 then some (17, .getfield 7, 3, [8, 1, 2], 0) else some (20, .iload_n 1, 1, [1], 0))) else (bif Nat.blt k 13 then (bif Nat.blt k 12 then some (21, .iaload, 1, [], 0) else some (22, .goto 5, 3, [14], 0)) else (bif Nat.blt k 14 then some (25, .bipush (-4), 2, [], (-4)) else some (27, .ireturn, 1, [], 0)))))
/-- 128: OracleWheelModel.way(II)I -/
def m_t128 (k : Nat) : Option ME := (bif Nat.blt k 19 then (bif Nat.blt k 9 then (bif Nat.blt k 4 then (bif Nat.blt k 2 then (bif Nat.blt k 1 then some (0, .aload_n 0, 1, [0], 0) else some (1, .iload_n 1, 1, [1], 0)) else (bif Nat.blt k 3 then some (2, .invokevirtual 192, 3, [102, 2], 0) else some (5, .ifCond .eq 12, 3, [9], 0))) else (bif Nat.blt k 6 then (bif Nat.blt k 5 then some (8, .iload_n 2, 1, [2], 0) else some (9, .iconst 0, 1, [], nI 0)) else (bif Nat.blt k 7 then some (10, .iconst 3, 1, [], nI 3) else (bif Nat.blt k 8 then some (11, .invokestatic 100, 3, [100, 3], 0) else some (14, .ifCond .ne 5, 3, [11], 0))))) else (bif Nat.blt k 14 then (bif Nat.blt k 11 then (bif Nat.blt k 10 then some (17, .iconst (-1), 1, [], (-1)) else some (18, .ireturn, 1, [], 0)) else (bif Nat.blt k 12 then some (19, .aload_n 0, 1, [0], 0) else (bif Nat.blt k 13 then some (20, .aload_n 0, 1, [0], 0) else some (21, .getfield 19, 3, [8, 10, 2], 0)))) else (bif Nat.blt k 16 then (bif Nat.blt k 15 then some (24, .iconst 2, 1, [], nI 2) else some (25, .iaload, 1, [], 0)) else (bif Nat.blt k 17 then some (26, .aload_n 0, 1, [0], 0) else (bif Nat.blt k 18 then some (27, .getfield 167, 3, [8, 2, 0], 0) else some (30, .aload_n 0, 1, [0], 0)))))) else (bif Nat.blt k 29 then (bif Nat.blt k 24 then (bif Nat.blt k 21 then (bif Nat.blt k 20 then some (31, .getfield 170, 3, [8, 3, 0], 0) else some (34, .iconst 0, 1, [], nI 0)) else (bif Nat.blt k 22 then some (35, .invokevirtual 195, 3, [124, 5], 0) else (bif Nat.blt k 23 then some (38, .iload_n 2, 1, [2], 0) else some (39, .iconst 3, 1, [], nI 3)))) else (bif Nat.blt k 26 then (bif Nat.blt k 25 then some (40, .if_icmp .ge 16, 3, [34], 0) else some (43, .aload_n 0, 1, [0], 0)) else (bif Nat.blt k 27 then some (44, .getfield 13, 3, [8, 7, 2], 0) else (bif Nat.blt k 28 then some (47, .iconst 4, 1, [], nI 4) else some (48, .iload_n 1, 1, [1], 0))))) else (bif Nat.blt k 34 then (bif Nat.blt k 31 then (bif Nat.blt k 30 then some (49, .imul, 1, [], 0) else some (50, .iload_n 2, 1, [2], 0)) else (bif Nat.blt k 32 then some (51, .iadd, 1, [], 0) else (bif Nat.blt k 33 then some (52, .iaload, 1, [], 0) else some (53, .goto 9, 3, [38], 0)))) else (bif Nat.blt k 36 then (bif Nat.blt k 35 then some (56, .aload_n 0, 1, [0], 0) else some (57, .iload_n 1, 1, [1], 0)) else (bif Nat.blt k 37 then some (58, .iconst 0, 1, [], nI 0) else (bif Nat.blt k 38 then some (59, .invokevirtual 198, 3, [126, 3], 0) else some (62, .ireturn, 1, [], 0)))))))
/-- 129: OracleWheelModel.isOnTop(I)Z -/
def m_t129 (k : Nat) : Option ME := (bif Nat.blt k 9 then (bif Nat.blt k 4 then (bif Nat.blt k 2 then (bif Nat.blt k 1 then some (0, .aload_n 0, 1, [0], 0) else some (1, .getfield 19, 3, [8, 10, 2], 0)) else (bif Nat.blt k 3 then some (4, .iconst 4, 1, [], nI 4) else some (5, .iload_n 1, 1, [1], 0))) else (bif Nat.blt k 6 then (bif Nat.blt k 5 then some (6, .iadd, 1, [], 0) else some (7, .iaload, 1, [], 0)) else (bif Nat.blt k 7 then some (8, .ifCond .ne 19, 3, [16], 0) else (bif Nat.blt k 8 then some (11, .aload_n 0, 1, [0], 0) else some (12, .getfield 19, 3, [8, 10, 2], 0))))) else (bif Nat.blt k 13 then (bif Nat.blt k 11 then (bif Nat.blt k 10 then some (15, .bipush 8, 2, [], nI 8) else some (17, .iload_n 1, 1, [1], 0)) else (bif Nat.blt k 12 then some (18, .iadd, 1, [], 0) else some (19, .iaload, 1, [], 0))) else (bif Nat.blt k 15 then (bif Nat.blt k 14 then some (20, .ifCond .ne 7, 3, [16], 0) else some (23, .iconst 1, 1, [], nI 1)) else (bif Nat.blt k 16 then some (24, .goto 4, 3, [17], 0) else (bif Nat.blt k 17 then some (27, .iconst 0, 1, [], nI 0) else some (28, .ireturn, 1, [], 0))))))
/-- 130: OracleWheelModel.asker(II)I -/
def m_t130 (k : Nat) : Option ME := (bif Nat.blt k 21 then (bif Nat.blt k 10 then (bif Nat.blt k 5 then (bif Nat.blt k 2 then (bif Nat.blt k 1 then some (0, .aload_n 0, 1, [0], 0) else some (1, .iload_n 1, 1, [1], 0)) else (bif Nat.blt k 3 then some (2, .invokevirtual 202, 3, [103, 2], 0) else (bif Nat.blt k 4 then some (5, .ifCond .ne 5, 3, [6], 0) else some (8, .iconst (-1), 1, [], (-1))))) else (bif Nat.blt k 7 then (bif Nat.blt k 6 then some (9, .ireturn, 1, [], 0) else some (10, .iload_n 2, 1, [2], 0)) else (bif Nat.blt k 8 then some (11, .tableswitch 80 0 3 #[29, 38, 45, 55], 29, [41, 0, 8, 1, 15, 2, 20, 3, 27], 0) else (bif Nat.blt k 9 then some (40, .aload_n 0, 1, [0], 0) else some (41, .getfield 19, 3, [8, 10, 2], 0))))) else (bif Nat.blt k 15 then (bif Nat.blt k 12 then (bif Nat.blt k 11 then some (44, .iconst 4, 1, [], nI 4) else some (45, .iload_n 1, 1, [1], 0)) else (bif Nat.blt k 13 then some (46, .iadd, 1, [], 0) else (bif Nat.blt k 14 then some (47, .iaload, 1, [], 0) else some (48, .ireturn, 1, [], 0)))) else (bif Nat.blt k 18 then (bif Nat.blt k 16 then some (49, .aload_n 0, 1, [0], 0) else (bif Nat.blt k 17 then some (50, .getfield 16, 3, [8, 9, 2], 0) else some (53, .iload_n 1, 1, [1], 0))) else (bif Nat.blt k 19 then some (54, .iaload, 1, [], 0) else (bif Nat.blt k 20 then some (55, .ireturn, 1, [], 0) else some (56, .aload_n 0, 1, [0], 0)))))) else (bif Nat.blt k 32 then (bif Nat.blt k 26 then (bif Nat.blt k 23 then (bif Nat.blt k 22 then some (57, .getfield 19, 3, [8, 10, 2], 0) else some (60, .bipush 8, 2, [], nI 8)) else (bif Nat.blt k 24 then some (62, .iload_n 1, 1, [1], 0) else (bif Nat.blt k 25 then some (63, .iadd, 1, [], 0) else some (64, .iaload, 1, [], 0)))) else (bif Nat.blt k 29 then (bif Nat.blt k 27 then some (65, .ireturn, 1, [], 0) else (bif Nat.blt k 28 then some (66, .aload_n 0, 1, [0], 0) else some (67, .iload_n 1, 1, [1], 0))) else (bif Nat.blt k 30 then some (68, .invokevirtual 205, 3, [129, 2], 0) else (bif Nat.blt k 31 then some (71, .ifCond .eq 17, 3, [39], 0) else some (74, .aload_n 0, 1, [0], 0))))) else (bif Nat.blt k 37 then (bif Nat.blt k 34 then (bif Nat.blt k 33 then some (75, .getfield 7, 3, [8, 1, 2], 0) else some (78, .aload_n 0, 1, [0], 0)) else (bif Nat.blt k 35 then some (79, .getfield 19, 3, [8, 10, 2], 0) else (bif Nat.blt k 36 then some (82, .iconst 1, 1, [], nI 1) else some (83, .iaload, 1, [], 0)))) else (bif Nat.blt k 40 then (bif Nat.blt k 38 then some (84, .iaload, 1, [], 0) else (bif Nat.blt k 39 then some (85, .goto 5, 3, [40], 0) else some (88, .bipush (-4), 2, [], (-4)))) else (bif Nat.blt k 41 then some (90, .ireturn, 1, [], 0) else (bif Nat.blt k 42 then some (91, .iconst (-1), 1, [], (-1)) else some (92, .ireturn, 1, [], 0)))))))
/-- 131: OracleWheelModel.remembers()V -/
def m_t131 (k : Nat) : Option ME := (bif Nat.blt k 22 then (bif Nat.blt k 11 then (bif Nat.blt k 5 then (bif Nat.blt k 2 then (bif Nat.blt k 1 then some (0, .aload_n 0, 1, [0], 0) else some (1, .getfield 176, 3, [8, 11, 0], 0)) else (bif Nat.blt k 3 then some (4, .bipush 8, 2, [], nI 8) else (bif Nat.blt k 4 then some (6, .if_icmp .ne 42, 3, [27], 0) else some (9, .iconst 0, 1, [], nI 0)))) else (bif Nat.blt k 8 then (bif Nat.blt k 6 then some (10, .istore_n 1, 1, [1], 0) else (bif Nat.blt k 7 then some (11, .iload_n 1, 1, [1], 0) else some (12, .bipush 84, 2, [], nI 84))) else (bif Nat.blt k 9 then some (14, .if_icmp .ge 24, 3, [21], 0) else (bif Nat.blt k 10 then some (17, .aload_n 0, 1, [0], 0) else some (18, .getfield 22, 3, [8, 12, 2], 0))))) else (bif Nat.blt k 16 then (bif Nat.blt k 13 then (bif Nat.blt k 12 then some (21, .iload_n 1, 1, [1], 0) else some (22, .aload_n 0, 1, [0], 0)) else (bif Nat.blt k 14 then some (23, .getfield 22, 3, [8, 12, 2], 0) else (bif Nat.blt k 15 then some (26, .iload_n 1, 1, [1], 0) else some (27, .bipush 12, 2, [], nI 12)))) else (bif Nat.blt k 19 then (bif Nat.blt k 17 then some (29, .iadd, 1, [], 0) else (bif Nat.blt k 18 then some (30, .iaload, 1, [], 0) else some (31, .iastore, 1, [], 0))) else (bif Nat.blt k 20 then some (32, .iinc 1 1, 3, [1], nI 1) else (bif Nat.blt k 21 then some (35, .goto (-24), 3, [6], 0) else some (38, .aload_n 0, 1, [0], 0)))))) else (bif Nat.blt k 33 then (bif Nat.blt k 27 then (bif Nat.blt k 24 then (bif Nat.blt k 23 then some (39, .dup, 1, [], 0) else some (40, .getfield 176, 3, [8, 11, 0], 0)) else (bif Nat.blt k 25 then some (43, .iconst 1, 1, [], nI 1) else (bif Nat.blt k 26 then some (44, .isub, 1, [], 0) else some (45, .putfield 176, 3, [8, 11, 0], 0)))) else (bif Nat.blt k 30 then (bif Nat.blt k 28 then some (48, .aload_n 0, 1, [0], 0) else (bif Nat.blt k 29 then some (49, .getfield 22, 3, [8, 12, 2], 0) else some (52, .bipush 12, 2, [], nI 12))) else (bif Nat.blt k 31 then some (54, .aload_n 0, 1, [0], 0) else (bif Nat.blt k 32 then some (55, .getfield 176, 3, [8, 11, 0], 0) else some (58, .imul, 1, [], 0))))) else (bif Nat.blt k 39 then (bif Nat.blt k 36 then (bif Nat.blt k 34 then some (59, .aload_n 0, 1, [0], 0) else (bif Nat.blt k 35 then some (60, .getfield 19, 3, [8, 10, 2], 0) else some (63, .iconst 0, 1, [], nI 0))) else (bif Nat.blt k 37 then some (64, .bipush 12, 2, [], nI 12) else (bif Nat.blt k 38 then some (66, .invokestatic 163, 3, [121, 5], 0) else some (69, .aload_n 0, 1, [0], 0)))) else (bif Nat.blt k 42 then (bif Nat.blt k 40 then some (70, .dup, 1, [], 0) else (bif Nat.blt k 41 then some (71, .getfield 176, 3, [8, 11, 0], 0) else some (74, .iconst 1, 1, [], nI 1))) else (bif Nat.blt k 43 then some (75, .iadd, 1, [], 0) else (bif Nat.blt k 44 then some (76, .putfield 176, 3, [8, 11, 0], 0) else some (79, .return_, 1, [], 0)))))))
/-- 132: OracleWheelModel.goes()V -/
def m_t132 (k : Nat) : Option ME := (bif Nat.blt k 38 then (bif Nat.blt k 19 then (bif Nat.blt k 9 then (bif Nat.blt k 4 then (bif Nat.blt k 2 then (bif Nat.blt k 1 then some (0, .aload_n 0, 1, [0], 0) else some (1, .getfield 19, 3, [8, 10, 2], 0)) else (bif Nat.blt k 3 then some (4, .iconst 1, 1, [], nI 1) else some (5, .aload_n 0, 1, [0], 0))) else (bif Nat.blt k 6 then (bif Nat.blt k 5 then some (6, .getfield 19, 3, [8, 10, 2], 0) else some (9, .iconst 1, 1, [], nI 1)) else (bif Nat.blt k 7 then some (10, .iaload, 1, [], 0) else (bif Nat.blt k 8 then some (11, .aload_n 0, 1, [0], 0) else some (12, .aload_n 0, 1, [0], 0))))) else (bif Nat.blt k 14 then (bif Nat.blt k 11 then (bif Nat.blt k 10 then some (13, .getfield 19, 3, [8, 10, 2], 0) else some (16, .iconst 0, 1, [], nI 0)) else (bif Nat.blt k 12 then some (17, .iaload, 1, [], 0) else (bif Nat.blt k 13 then some (18, .aload_n 0, 1, [0], 0) else some (19, .getfield 19, 3, [8, 10, 2], 0)))) else (bif Nat.blt k 16 then (bif Nat.blt k 15 then some (22, .iconst 2, 1, [], nI 2) else some (23, .iaload, 1, [], 0)) else (bif Nat.blt k 17 then some (24, .aload_n 0, 1, [0], 0) else (bif Nat.blt k 18 then some (25, .getfield 167, 3, [8, 2, 0], 0) else some (28, .aload_n 0, 1, [0], 0)))))) else (bif Nat.blt k 28 then (bif Nat.blt k 23 then (bif Nat.blt k 21 then (bif Nat.blt k 20 then some (29, .getfield 170, 3, [8, 3, 0], 0) else some (32, .invokevirtual 185, 3, [123, 5], 0)) else (bif Nat.blt k 22 then some (35, .iadd, 1, [], 0) else some (36, .aload_n 0, 1, [0], 0))) else (bif Nat.blt k 25 then (bif Nat.blt k 24 then some (37, .getfield 160, 3, [8, 0, 0], 0) else some (40, .irem, 1, [], 0)) else (bif Nat.blt k 26 then some (41, .iastore, 1, [], 0) else (bif Nat.blt k 27 then some (42, .aload_n 0, 1, [0], 0) else some (43, .getfield 19, 3, [8, 10, 2], 0))))) else (bif Nat.blt k 33 then (bif Nat.blt k 30 then (bif Nat.blt k 29 then some (46, .iconst 0, 1, [], nI 0) else some (47, .dup2, 1, [], 0)) else (bif Nat.blt k 31 then some (48, .iaload, 1, [], 0) else (bif Nat.blt k 32 then some (49, .iconst 1, 1, [], nI 1) else some (50, .iadd, 1, [], 0)))) else (bif Nat.blt k 35 then (bif Nat.blt k 34 then some (51, .iastore, 1, [], 0) else some (52, .aload_n 0, 1, [0], 0)) else (bif Nat.blt k 36 then some (53, .getfield 19, 3, [8, 10, 2], 0) else (bif Nat.blt k 37 then some (56, .iconst 2, 1, [], nI 2) else some (57, .dup2, 1, [], 0))))))) else (bif Nat.blt k 57 then (bif Nat.blt k 47 then (bif Nat.blt k 42 then (bif Nat.blt k 40 then (bif Nat.blt k 39 then some (58, .iaload, 1, [], 0) else some (59, .aload_n 0, 1, [0], 0)) else (bif Nat.blt k 41 then some (60, .getfield 19, 3, [8, 10, 2], 0) else some (63, .iconst 2, 1, [], nI 2))) else (bif Nat.blt k 44 then (bif Nat.blt k 43 then some (64, .iaload, 1, [], 0) else some (65, .ifCond .le 7, 3, [46], 0)) else (bif Nat.blt k 45 then some (68, .iconst 1, 1, [], nI 1) else (bif Nat.blt k 46 then some (69, .goto 4, 3, [47], 0) else some (72, .iconst 0, 1, [], nI 0))))) else (bif Nat.blt k 52 then (bif Nat.blt k 49 then (bif Nat.blt k 48 then some (73, .isub, 1, [], 0) else some (74, .iastore, 1, [], 0)) else (bif Nat.blt k 50 then some (75, .iconst 0, 1, [], nI 0) else (bif Nat.blt k 51 then some (76, .istore_n 1, 1, [1], 0) else some (77, .iload_n 1, 1, [1], 0)))) else (bif Nat.blt k 54 then (bif Nat.blt k 53 then some (78, .aload_n 0, 1, [0], 0) else some (79, .getfield 104, 3, [8, 8, 0], 0)) else (bif Nat.blt k 55 then some (82, .if_icmp .ge 38, 3, [76], 0) else (bif Nat.blt k 56 then some (85, .aload_n 0, 1, [0], 0) else some (86, .getfield 19, 3, [8, 10, 2], 0)))))) else (bif Nat.blt k 67 then (bif Nat.blt k 62 then (bif Nat.blt k 59 then (bif Nat.blt k 58 then some (89, .bipush 8, 2, [], nI 8) else some (91, .iload_n 1, 1, [1], 0)) else (bif Nat.blt k 60 then some (92, .iadd, 1, [], 0) else (bif Nat.blt k 61 then some (93, .dup2, 1, [], 0) else some (94, .iaload, 1, [], 0)))) else (bif Nat.blt k 64 then (bif Nat.blt k 63 then some (95, .aload_n 0, 1, [0], 0) else some (96, .getfield 19, 3, [8, 10, 2], 0)) else (bif Nat.blt k 65 then some (99, .bipush 8, 2, [], nI 8) else (bif Nat.blt k 66 then some (101, .iload_n 1, 1, [1], 0) else some (102, .iadd, 1, [], 0))))) else (bif Nat.blt k 72 then (bif Nat.blt k 69 then (bif Nat.blt k 68 then some (103, .iaload, 1, [], 0) else some (104, .ifCond .le 7, 3, [71], 0)) else (bif Nat.blt k 70 then some (107, .iconst 1, 1, [], nI 1) else (bif Nat.blt k 71 then some (108, .goto 4, 3, [72], 0) else some (111, .iconst 0, 1, [], nI 0)))) else (bif Nat.blt k 74 then (bif Nat.blt k 73 then some (112, .isub, 1, [], 0) else some (113, .iastore, 1, [], 0)) else (bif Nat.blt k 75 then some (114, .iinc 1 1, 3, [1], nI 1) else (bif Nat.blt k 76 then some (117, .goto (-40), 3, [51], 0) else some (120, .return_, 1, [], 0))))))))
/-- 133: OracleWheelModel.pass(I)I -/
def m_t133 (k : Nat) : Option ME := (bif Nat.blt k 13 then (bif Nat.blt k 6 then (bif Nat.blt k 3 then (bif Nat.blt k 1 then some (0, .iload_n 1, 1, [1], 0) else (bif Nat.blt k 2 then some (1, .iconst 1, 1, [], nI 1) else some (2, .bipush 48, 2, [], nI 48))) else (bif Nat.blt k 4 then some (4, .invokestatic 100, 3, [100, 3], 0) else (bif Nat.blt k 5 then some (7, .ifCond .ne 5, 3, [7], 0) else some (10, .iconst (-1), 1, [], (-1))))) else (bif Nat.blt k 9 then (bif Nat.blt k 7 then some (11, .ireturn, 1, [], 0) else (bif Nat.blt k 8 then some (12, .aload_n 0, 1, [0], 0) else some (13, .invokevirtual 208, 3, [131, 1], 0))) else (bif Nat.blt k 11 then (bif Nat.blt k 10 then some (16, .iconst 0, 1, [], nI 0) else some (17, .istore_n 2, 1, [2], 0)) else (bif Nat.blt k 12 then some (18, .iload_n 2, 1, [2], 0) else some (19, .iload_n 1, 1, [1], 0))))) else (bif Nat.blt k 19 then (bif Nat.blt k 16 then (bif Nat.blt k 14 then some (20, .if_icmp .ge 13, 3, [18], 0) else (bif Nat.blt k 15 then some (23, .aload_n 0, 1, [0], 0) else some (24, .invokevirtual 211, 3, [132, 1], 0))) else (bif Nat.blt k 17 then some (27, .iinc 2 1, 3, [2], nI 1) else (bif Nat.blt k 18 then some (30, .goto (-12), 3, [11], 0) else some (33, .aload_n 0, 1, [0], 0)))) else (bif Nat.blt k 22 then (bif Nat.blt k 20 then some (34, .getfield 7, 3, [8, 1, 2], 0) else (bif Nat.blt k 21 then some (37, .aload_n 0, 1, [0], 0) else some (38, .getfield 19, 3, [8, 10, 2], 0))) else (bif Nat.blt k 24 then (bif Nat.blt k 23 then some (41, .iconst 1, 1, [], nI 1) else some (42, .iaload, 1, [], 0)) else (bif Nat.blt k 25 then some (43, .iaload, 1, [], 0) else some (44, .ireturn, 1, [], 0))))))
/-- 134: OracleWheelModel.leadsFrom(II)Z -/
def m_t134 (k : Nat) : Option ME := (bif Nat.blt k 12 then (bif Nat.blt k 6 then (bif Nat.blt k 3 then (bif Nat.blt k 1 then some (0, .aload_n 0, 1, [0], 0) else (bif Nat.blt k 2 then some (1, .getfield 13, 3, [8, 7, 2], 0) else some (4, .iconst 4, 1, [], nI 4))) else (bif Nat.blt k 4 then some (5, .iload_n 1, 1, [1], 0) else (bif Nat.blt k 5 then some (6, .imul, 1, [], 0) else some (7, .iconst 1, 1, [], nI 1)))) else (bif Nat.blt k 9 then (bif Nat.blt k 7 then some (8, .iadd, 1, [], 0) else (bif Nat.blt k 8 then some (9, .iaload, 1, [], 0) else some (10, .iload_n 2, 1, [2], 0))) else (bif Nat.blt k 10 then some (11, .if_icmp .eq 17, 3, [20], 0) else (bif Nat.blt k 11 then some (14, .aload_n 0, 1, [0], 0) else some (15, .getfield 13, 3, [8, 7, 2], 0))))) else (bif Nat.blt k 18 then (bif Nat.blt k 15 then (bif Nat.blt k 13 then some (18, .iconst 4, 1, [], nI 4) else (bif Nat.blt k 14 then some (19, .iload_n 1, 1, [1], 0) else some (20, .imul, 1, [], 0))) else (bif Nat.blt k 16 then some (21, .iconst 2, 1, [], nI 2) else (bif Nat.blt k 17 then some (22, .iadd, 1, [], 0) else some (23, .iaload, 1, [], 0)))) else (bif Nat.blt k 21 then (bif Nat.blt k 19 then some (24, .iload_n 2, 1, [2], 0) else (bif Nat.blt k 20 then some (25, .if_icmp .ne 7, 3, [22], 0) else some (28, .iconst 1, 1, [], nI 1))) else (bif Nat.blt k 22 then some (29, .goto 4, 3, [23], 0) else (bif Nat.blt k 23 then some (32, .iconst 0, 1, [], nI 0) else some (33, .ireturn, 1, [], 0))))))
/-- 135: OracleWheelModel.otherEnd(II)I -/
def m_t135 (k : Nat) : Option ME := (bif Nat.blt k 10 then (bif Nat.blt k 5 then (bif Nat.blt k 2 then (bif Nat.blt k 1 then some (0, .aload_n 0, 1, [0], 0) else some (1, .getfield 13, 3, [8, 7, 2], 0)) else (bif Nat.blt k 3 then some (4, .iconst 4, 1, [], nI 4) else (bif Nat.blt k 4 then some (5, .iload_n 1, 1, [1], 0) else some (6, .imul, 1, [], 0)))) else (bif Nat.blt k 7 then (bif Nat.blt k 6 then some (7, .iconst 1, 1, [], nI 1) else some (8, .iadd, 1, [], 0)) else (bif Nat.blt k 8 then some (9, .iaload, 1, [], 0) else (bif Nat.blt k 9 then some (10, .aload_n 0, 1, [0], 0) else some (11, .getfield 13, 3, [8, 7, 2], 0))))) else (bif Nat.blt k 15 then (bif Nat.blt k 12 then (bif Nat.blt k 11 then some (14, .iconst 4, 1, [], nI 4) else some (15, .iload_n 1, 1, [1], 0)) else (bif Nat.blt k 13 then some (16, .imul, 1, [], 0) else (bif Nat.blt k 14 then some (17, .iconst 2, 1, [], nI 2) else some (18, .iadd, 1, [], 0)))) else (bif Nat.blt k 17 then (bif Nat.blt k 16 then some (19, .iaload, 1, [], 0) else some (20, .iadd, 1, [], 0)) else (bif Nat.blt k 18 then some (21, .iload_n 2, 1, [2], 0) else (bif Nat.blt k 19 then some (22, .isub, 1, [], 0) else some (23, .ireturn, 1, [], 0))))))
/-- 136: OracleWheelModel.setsOut(II)I -/
def m_t136 (k : Nat) : Option ME := (bif Nat.blt k 29 then (bif Nat.blt k 14 then (bif Nat.blt k 7 then (bif Nat.blt k 3 then (bif Nat.blt k 1 then some (0, .aload_n 0, 1, [0], 0) else (bif Nat.blt k 2 then some (1, .getfield 49, 3, [8, 33, 2], 0) else some (4, .iconst 0, 1, [], nI 0))) else (bif Nat.blt k 5 then (bif Nat.blt k 4 then some (5, .aload_n 0, 1, [0], 0) else some (6, .getfield 19, 3, [8, 10, 2], 0)) else (bif Nat.blt k 6 then some (9, .iconst 1, 1, [], nI 1) else some (10, .iaload, 1, [], 0)))) else (bif Nat.blt k 10 then (bif Nat.blt k 8 then some (11, .iastore, 1, [], 0) else (bif Nat.blt k 9 then some (12, .aload_n 0, 1, [0], 0) else some (13, .getfield 19, 3, [8, 10, 2], 0))) else (bif Nat.blt k 12 then (bif Nat.blt k 11 then some (16, .bipush 8, 2, [], nI 8) else some (18, .iload_n 1, 1, [1], 0)) else (bif Nat.blt k 13 then some (19, .iadd, 1, [], 0) else some (20, .iaload, 1, [], 0))))) else (bif Nat.blt k 21 then (bif Nat.blt k 17 then (bif Nat.blt k 15 then some (21, .ifCond .gt 19, 3, [25], 0) else (bif Nat.blt k 16 then some (24, .aload_n 0, 1, [0], 0) else some (25, .iload_n 2, 1, [2], 0))) else (bif Nat.blt k 19 then (bif Nat.blt k 18 then some (26, .aload_n 0, 1, [0], 0) else some (27, .getfield 19, 3, [8, 10, 2], 0)) else (bif Nat.blt k 20 then some (30, .iconst 4, 1, [], nI 4) else some (31, .iload_n 1, 1, [1], 0)))) else (bif Nat.blt k 25 then (bif Nat.blt k 23 then (bif Nat.blt k 22 then some (32, .iadd, 1, [], 0) else some (33, .iaload, 1, [], 0)) else (bif Nat.blt k 24 then some (34, .invokevirtual 214, 3, [134, 3], 0) else some (37, .ifCond .ne 8, 3, [27], 0))) else (bif Nat.blt k 27 then (bif Nat.blt k 26 then some (40, .bipush (-4), 2, [], (-4)) else some (42, .goto 9, 3, [31], 0)) else (bif Nat.blt k 28 then some (45, .aload_n 0, 1, [0], 0) else some (46, .iload_n 2, 1, [2], 0)))))) else (bif Nat.blt k 43 then (bif Nat.blt k 36 then (bif Nat.blt k 32 then (bif Nat.blt k 30 then some (47, .iconst 0, 1, [], nI 0) else (bif Nat.blt k 31 then some (48, .invokevirtual 198, 3, [126, 3], 0) else some (51, .istore_n 3, 1, [3], 0))) else (bif Nat.blt k 34 then (bif Nat.blt k 33 then some (52, .iload_n 3, 1, [3], 0) else some (53, .ifCond .le 34, 3, [56], 0)) else (bif Nat.blt k 35 then some (56, .aload_n 0, 1, [0], 0) else some (57, .getfield 19, 3, [8, 10, 2], 0)))) else (bif Nat.blt k 39 then (bif Nat.blt k 37 then some (60, .iconst 4, 1, [], nI 4) else (bif Nat.blt k 38 then some (61, .iload_n 1, 1, [1], 0) else some (62, .iadd, 1, [], 0))) else (bif Nat.blt k 41 then (bif Nat.blt k 40 then some (63, .aload_n 0, 1, [0], 0) else some (64, .iload_n 2, 1, [2], 0)) else (bif Nat.blt k 42 then some (65, .aload_n 0, 1, [0], 0) else some (66, .getfield 19, 3, [8, 10, 2], 0))))) else (bif Nat.blt k 50 then (bif Nat.blt k 46 then (bif Nat.blt k 44 then some (69, .iconst 4, 1, [], nI 4) else (bif Nat.blt k 45 then some (70, .iload_n 1, 1, [1], 0) else some (71, .iadd, 1, [], 0))) else (bif Nat.blt k 48 then (bif Nat.blt k 47 then some (72, .iaload, 1, [], 0) else some (73, .invokevirtual 218, 3, [135, 3], 0)) else (bif Nat.blt k 49 then some (76, .iastore, 1, [], 0) else some (77, .aload_n 0, 1, [0], 0)))) else (bif Nat.blt k 54 then (bif Nat.blt k 52 then (bif Nat.blt k 51 then some (78, .getfield 19, 3, [8, 10, 2], 0) else some (81, .bipush 8, 2, [], nI 8)) else (bif Nat.blt k 53 then some (83, .iload_n 1, 1, [1], 0) else some (84, .iadd, 1, [], 0))) else (bif Nat.blt k 56 then (bif Nat.blt k 55 then some (85, .iload_n 3, 1, [3], 0) else some (86, .iastore, 1, [], 0)) else (bif Nat.blt k 57 then some (87, .iload_n 3, 1, [3], 0) else some (88, .ireturn, 1, [], 0)))))))
/-- 137: OracleWheelModel.setOut(II)I -/
def m_t137 (k : Nat) : Option ME := (bif Nat.blt k 24 then (bif Nat.blt k 12 then (bif Nat.blt k 6 then (bif Nat.blt k 3 then (bif Nat.blt k 1 then some (0, .aload_n 0, 1, [0], 0) else (bif Nat.blt k 2 then some (1, .iload_n 1, 1, [1], 0) else some (2, .invokevirtual 202, 3, [103, 2], 0))) else (bif Nat.blt k 4 then some (5, .ifCond .eq 11, 3, [8], 0) else (bif Nat.blt k 5 then some (8, .aload_n 0, 1, [0], 0) else some (9, .iload_n 2, 1, [2], 0)))) else (bif Nat.blt k 9 then (bif Nat.blt k 7 then some (10, .invokevirtual 192, 3, [102, 2], 0) else (bif Nat.blt k 8 then some (13, .ifCond .ne 5, 3, [10], 0) else some (16, .iconst (-1), 1, [], (-1)))) else (bif Nat.blt k 10 then some (17, .ireturn, 1, [], 0) else (bif Nat.blt k 11 then some (18, .aload_n 0, 1, [0], 0) else some (19, .getfield 49, 3, [8, 33, 2], 0))))) else (bif Nat.blt k 18 then (bif Nat.blt k 15 then (bif Nat.blt k 13 then some (22, .iconst 0, 1, [], nI 0) else (bif Nat.blt k 14 then some (23, .aload_n 0, 1, [0], 0) else some (24, .getfield 19, 3, [8, 10, 2], 0))) else (bif Nat.blt k 16 then some (27, .iconst 1, 1, [], nI 1) else (bif Nat.blt k 17 then some (28, .iaload, 1, [], 0) else some (29, .iastore, 1, [], 0)))) else (bif Nat.blt k 21 then (bif Nat.blt k 19 then some (30, .aload_n 0, 1, [0], 0) else (bif Nat.blt k 20 then some (31, .getfield 19, 3, [8, 10, 2], 0) else some (34, .bipush 8, 2, [], nI 8))) else (bif Nat.blt k 22 then some (36, .iload_n 1, 1, [1], 0) else (bif Nat.blt k 23 then some (37, .iadd, 1, [], 0) else some (38, .iaload, 1, [], 0)))))) else (bif Nat.blt k 36 then (bif Nat.blt k 30 then (bif Nat.blt k 27 then (bif Nat.blt k 25 then some (39, .ifCond .gt 28, 3, [40], 0) else (bif Nat.blt k 26 then some (42, .aload_n 0, 1, [0], 0) else some (43, .iload_n 2, 1, [2], 0))) else (bif Nat.blt k 28 then some (44, .aload_n 0, 1, [0], 0) else (bif Nat.blt k 29 then some (45, .getfield 19, 3, [8, 10, 2], 0) else some (48, .iconst 4, 1, [], nI 4)))) else (bif Nat.blt k 33 then (bif Nat.blt k 31 then some (49, .iload_n 1, 1, [1], 0) else (bif Nat.blt k 32 then some (50, .iadd, 1, [], 0) else some (51, .iaload, 1, [], 0))) else (bif Nat.blt k 34 then some (52, .invokevirtual 214, 3, [134, 3], 0) else (bif Nat.blt k 35 then some (55, .ifCond .eq 12, 3, [40], 0) else some (58, .aload_n 0, 1, [0], 0))))) else (bif Nat.blt k 42 then (bif Nat.blt k 39 then (bif Nat.blt k 37 then some (59, .iload_n 2, 1, [2], 0) else (bif Nat.blt k 38 then some (60, .iconst 0, 1, [], nI 0) else some (61, .invokevirtual 198, 3, [126, 3], 0))) else (bif Nat.blt k 40 then some (64, .ifCond .ge 6, 3, [42], 0) else (bif Nat.blt k 41 then some (67, .bipush (-2), 2, [], (-2)) else some (69, .ireturn, 1, [], 0)))) else (bif Nat.blt k 45 then (bif Nat.blt k 43 then some (70, .aload_n 0, 1, [0], 0) else (bif Nat.blt k 44 then some (71, .invokevirtual 208, 3, [131, 1], 0) else some (74, .aload_n 0, 1, [0], 0))) else (bif Nat.blt k 47 then (bif Nat.blt k 46 then some (75, .iload_n 1, 1, [1], 0) else some (76, .iload_n 2, 1, [2], 0)) else (bif Nat.blt k 48 then some (77, .invokevirtual 221, 3, [136, 3], 0) else some (80, .ireturn, 1, [], 0)))))))
/-- 138: OracleWheelModel.foot(I)I -/
def m_t138 (k : Nat) : Option ME := (bif Nat.blt k 17 then (bif Nat.blt k 8 then (bif Nat.blt k 4 then (bif Nat.blt k 2 then (bif Nat.blt k 1 then some (0, .iload_n 1, 1, [1], 0) else some (1, .iconst 1, 1, [], nI 1)) else (bif Nat.blt k 3 then some (2, .bipush 12, 2, [], nI 12) else some (4, .invokestatic 100, 3, [100, 3], 0))) else (bif Nat.blt k 6 then (bif Nat.blt k 5 then some (7, .ifCond .ne 5, 3, [7], 0) else some (10, .iconst (-1), 1, [], (-1))) else (bif Nat.blt k 7 then some (11, .ireturn, 1, [], 0) else some (12, .aload_n 0, 1, [0], 0)))) else (bif Nat.blt k 12 then (bif Nat.blt k 10 then (bif Nat.blt k 9 then some (13, .getfield 19, 3, [8, 10, 2], 0) else some (16, .iconst 3, 1, [], nI 3)) else (bif Nat.blt k 11 then some (17, .iaload, 1, [], 0) else some (18, .iconst 1, 1, [], nI 1))) else (bif Nat.blt k 14 then (bif Nat.blt k 13 then some (19, .if_icmp .ne 6, 3, [15], 0) else some (22, .bipush (-2), 2, [], (-2))) else (bif Nat.blt k 15 then some (24, .ireturn, 1, [], 0) else (bif Nat.blt k 16 then some (25, .aload_n 0, 1, [0], 0) else some (26, .invokevirtual 208, 3, [131, 1], 0)))))) else (bif Nat.blt k 26 then (bif Nat.blt k 21 then (bif Nat.blt k 19 then (bif Nat.blt k 18 then some (29, .aload_n 0, 1, [0], 0) else some (30, .getfield 19, 3, [8, 10, 2], 0)) else (bif Nat.blt k 20 then some (33, .iconst 3, 1, [], nI 3) else some (34, .iconst 1, 1, [], nI 1))) else (bif Nat.blt k 23 then (bif Nat.blt k 22 then some (35, .iastore, 1, [], 0) else some (36, .aload_n 0, 1, [0], 0)) else (bif Nat.blt k 24 then some (37, .getfield 19, 3, [8, 10, 2], 0) else (bif Nat.blt k 25 then some (40, .iconst 2, 1, [], nI 2) else some (41, .iload_n 1, 1, [1], 0))))) else (bif Nat.blt k 30 then (bif Nat.blt k 28 then (bif Nat.blt k 27 then some (42, .iastore, 1, [], 0) else some (43, .aload_n 0, 1, [0], 0)) else (bif Nat.blt k 29 then some (44, .getfield 7, 3, [8, 1, 2], 0) else some (47, .aload_n 0, 1, [0], 0))) else (bif Nat.blt k 32 then (bif Nat.blt k 31 then some (48, .getfield 19, 3, [8, 10, 2], 0) else some (51, .iconst 1, 1, [], nI 1)) else (bif Nat.blt k 33 then some (52, .iaload, 1, [], 0) else (bif Nat.blt k 34 then some (53, .iaload, 1, [], 0) else some (54, .ireturn, 1, [], 0)))))))
/-- 139: OracleWheelModel.graze()I -/
def m_t139 (k : Nat) : Option ME := (bif Nat.blt k 11 then (bif Nat.blt k 5 then (bif Nat.blt k 2 then (bif Nat.blt k 1 then some (0, .aload_n 0, 1, [0], 0) else some (1, .invokevirtual 208, 3, [131, 1], 0)) else (bif Nat.blt k 3 then some (4, .aload_n 0, 1, [0], 0) else (bif Nat.blt k 4 then some (5, .getfield 19, 3, [8, 10, 2], 0) else some (8, .iconst 1, 1, [], nI 1)))) else (bif Nat.blt k 8 then (bif Nat.blt k 6 then some (9, .aload_n 0, 1, [0], 0) else (bif Nat.blt k 7 then some (10, .getfield 19, 3, [8, 10, 2], 0) else some (13, .iconst 1, 1, [], nI 1))) else (bif Nat.blt k 9 then some (14, .iaload, 1, [], 0) else (bif Nat.blt k 10 then some (15, .iconst 1, 1, [], nI 1) else some (16, .iadd, 1, [], 0))))) else (bif Nat.blt k 17 then (bif Nat.blt k 14 then (bif Nat.blt k 12 then some (17, .aload_n 0, 1, [0], 0) else (bif Nat.blt k 13 then some (18, .getfield 160, 3, [8, 0, 0], 0) else some (21, .irem, 1, [], 0))) else (bif Nat.blt k 15 then some (22, .iastore, 1, [], 0) else (bif Nat.blt k 16 then some (23, .aload_n 0, 1, [0], 0) else some (24, .getfield 7, 3, [8, 1, 2], 0)))) else (bif Nat.blt k 20 then (bif Nat.blt k 18 then some (27, .aload_n 0, 1, [0], 0) else (bif Nat.blt k 19 then some (28, .getfield 19, 3, [8, 10, 2], 0) else some (31, .iconst 1, 1, [], nI 1))) else (bif Nat.blt k 21 then some (32, .iaload, 1, [], 0) else (bif Nat.blt k 22 then some (33, .iaload, 1, [], 0) else some (34, .ireturn, 1, [], 0))))))
/-- 140: OracleWheelModel.undo()I -/
def m_t140 (k : Nat) : Option ME := (bif Nat.blt k 12 then (bif Nat.blt k 6 then (bif Nat.blt k 3 then (bif Nat.blt k 1 then some (0, .aload_n 0, 1, [0], 0) else (bif Nat.blt k 2 then some (1, .getfield 176, 3, [8, 11, 0], 0) else some (4, .ifCond .ne 6, 3, [5], 0))) else (bif Nat.blt k 4 then some (7, .bipush (-2), 2, [], (-2)) else (bif Nat.blt k 5 then some (9, .ireturn, 1, [], 0) else some (10, .aload_n 0, 1, [0], 0)))) else (bif Nat.blt k 9 then (bif Nat.blt k 7 then some (11, .dup, 1, [], 0) else (bif Nat.blt k 8 then some (12, .getfield 176, 3, [8, 11, 0], 0) else some (15, .iconst 1, 1, [], nI 1))) else (bif Nat.blt k 10 then some (16, .isub, 1, [], 0) else (bif Nat.blt k 11 then some (17, .putfield 176, 3, [8, 11, 0], 0) else some (20, .aload_n 0, 1, [0], 0))))) else (bif Nat.blt k 18 then (bif Nat.blt k 15 then (bif Nat.blt k 13 then some (21, .getfield 19, 3, [8, 10, 2], 0) else (bif Nat.blt k 14 then some (24, .iconst 0, 1, [], nI 0) else some (25, .aload_n 0, 1, [0], 0))) else (bif Nat.blt k 16 then some (26, .getfield 22, 3, [8, 12, 2], 0) else (bif Nat.blt k 17 then some (29, .bipush 12, 2, [], nI 12) else some (31, .aload_n 0, 1, [0], 0)))) else (bif Nat.blt k 21 then (bif Nat.blt k 19 then some (32, .getfield 176, 3, [8, 11, 0], 0) else (bif Nat.blt k 20 then some (35, .imul, 1, [], 0) else some (36, .bipush 12, 2, [], nI 12))) else (bif Nat.blt k 23 then (bif Nat.blt k 22 then some (38, .invokestatic 163, 3, [121, 5], 0) else some (41, .aload_n 0, 1, [0], 0)) else (bif Nat.blt k 24 then some (42, .getfield 176, 3, [8, 11, 0], 0) else some (45, .ireturn, 1, [], 0))))))
/-- 141: OracleWheelModel.upper(I)I -/
def m_t141 (k : Nat) : Option ME := (bif Nat.blt k 11 then (bif Nat.blt k 5 then (bif Nat.blt k 2 then (bif Nat.blt k 1 then some (0, .iload_n 1, 1, [1], 0) else some (1, .iconst 0, 1, [], nI 0)) else (bif Nat.blt k 3 then some (2, .sipush 200, 3, [], nI 200) else (bif Nat.blt k 4 then some (5, .invokestatic 100, 3, [100, 3], 0) else some (8, .ifCond .ne 5, 3, [7], 0)))) else (bif Nat.blt k 8 then (bif Nat.blt k 6 then some (11, .iconst (-1), 1, [], (-1)) else (bif Nat.blt k 7 then some (12, .ireturn, 1, [], 0) else some (13, .aload_n 0, 1, [0], 0))) else (bif Nat.blt k 9 then some (14, .aload_n 0, 1, [0], 0) else (bif Nat.blt k 10 then some (15, .getfield 19, 3, [8, 10, 2], 0) else some (18, .iconst 2, 1, [], nI 2))))) else (bif Nat.blt k 16 then (bif Nat.blt k 13 then (bif Nat.blt k 12 then some (19, .iaload, 1, [], 0) else some (20, .aload_n 0, 1, [0], 0)) else (bif Nat.blt k 14 then some (21, .getfield 167, 3, [8, 2, 0], 0) else (bif Nat.blt k 15 then some (24, .aload_n 0, 1, [0], 0) else some (25, .getfield 170, 3, [8, 3, 0], 0)))) else (bif Nat.blt k 19 then (bif Nat.blt k 17 then some (28, .iload_n 1, 1, [1], 0) else (bif Nat.blt k 18 then some (29, .invokevirtual 195, 3, [124, 5], 0) else some (32, .aload_n 0, 1, [0], 0))) else (bif Nat.blt k 20 then some (33, .iload_n 1, 1, [1], 0) else (bif Nat.blt k 21 then some (34, .invokevirtual 189, 3, [125, 2], 0) else some (37, .ireturn, 1, [], 0))))))
/-- 142: OracleWheelModel.round()I -/
def m_t142 (k : Nat) : Option ME := (bif Nat.blt k 26 then (bif Nat.blt k 13 then (bif Nat.blt k 6 then (bif Nat.blt k 3 then (bif Nat.blt k 1 then some (0, .aload_n 0, 1, [0], 0) else (bif Nat.blt k 2 then some (1, .getfield 19, 3, [8, 10, 2], 0) else some (4, .iconst 2, 1, [], nI 2))) else (bif Nat.blt k 4 then some (5, .iaload, 1, [], 0) else (bif Nat.blt k 5 then some (6, .ifCond .le 6, 3, [7], 0) else some (9, .bipush (-4), 2, [], (-4))))) else (bif Nat.blt k 9 then (bif Nat.blt k 7 then some (11, .ireturn, 1, [], 0) else (bif Nat.blt k 8 then some (12, .aload_n 0, 1, [0], 0) else some (13, .iconst 0, 1, [], nI 0))) else (bif Nat.blt k 11 then (bif Nat.blt k 10 then some (14, .aload_n 0, 1, [0], 0) else some (15, .getfield 167, 3, [8, 2, 0], 0)) else (bif Nat.blt k 12 then some (18, .aload_n 0, 1, [0], 0) else some (19, .getfield 170, 3, [8, 3, 0], 0))))) else (bif Nat.blt k 19 then (bif Nat.blt k 16 then (bif Nat.blt k 14 then some (22, .sipush 576, 3, [], nI 576) else (bif Nat.blt k 15 then some (25, .invokevirtual 195, 3, [124, 5], 0) else some (28, .iconst 1, 1, [], nI 1))) else (bif Nat.blt k 17 then some (29, .istore_n 1, 1, [1], 0) else (bif Nat.blt k 18 then some (30, .iload_n 1, 1, [1], 0) else some (31, .sipush 288, 3, [], nI 288)))) else (bif Nat.blt k 22 then (bif Nat.blt k 20 then some (34, .if_icmp .gt 57, 3, [50], 0) else (bif Nat.blt k 21 then some (37, .iconst 1, 1, [], nI 1) else some (38, .istore_n 2, 1, [2], 0))) else (bif Nat.blt k 24 then (bif Nat.blt k 23 then some (39, .iconst 0, 1, [], nI 0) else some (40, .istore_n 3, 1, [3], 0)) else (bif Nat.blt k 25 then some (41, .iload_n 3, 1, [3], 0) else some (42, .sipush 288, 3, [], nI 288)))))) else (bif Nat.blt k 39 then (bif Nat.blt k 32 then (bif Nat.blt k 29 then (bif Nat.blt k 27 then some (45, .if_icmp .ge 34, 3, [44], 0) else (bif Nat.blt k 28 then some (48, .iload_n 2, 1, [2], 0) else some (49, .ifCond .eq 22, 3, [40], 0))) else (bif Nat.blt k 30 then some (52, .aload_n 0, 1, [0], 0) else (bif Nat.blt k 31 then some (53, .iload_n 3, 1, [3], 0) else some (54, .invokevirtual 189, 3, [125, 2], 0)))) else (bif Nat.blt k 35 then (bif Nat.blt k 33 then some (57, .aload_n 0, 1, [0], 0) else (bif Nat.blt k 34 then some (58, .iload_n 1, 1, [1], 0) else some (59, .iload_n 3, 1, [3], 0))) else (bif Nat.blt k 37 then (bif Nat.blt k 36 then some (60, .iadd, 1, [], 0) else some (61, .invokevirtual 189, 3, [125, 2], 0)) else (bif Nat.blt k 38 then some (64, .if_icmp .ne 7, 3, [40], 0) else some (67, .iconst 1, 1, [], nI 1))))) else (bif Nat.blt k 45 then (bif Nat.blt k 42 then (bif Nat.blt k 40 then some (68, .goto 4, 3, [41], 0) else (bif Nat.blt k 41 then some (71, .iconst 0, 1, [], nI 0) else some (72, .istore_n 2, 1, [2], 0))) else (bif Nat.blt k 43 then some (73, .iinc 3 1, 3, [3], nI 1) else (bif Nat.blt k 44 then some (76, .goto (-35), 3, [24], 0) else some (79, .iload_n 2, 1, [2], 0)))) else (bif Nat.blt k 48 then (bif Nat.blt k 46 then some (80, .ifCond .eq 5, 3, [48], 0) else (bif Nat.blt k 47 then some (83, .iload_n 1, 1, [1], 0) else some (84, .ireturn, 1, [], 0))) else (bif Nat.blt k 50 then (bif Nat.blt k 49 then some (85, .iinc 1 1, 3, [1], nI 1) else some (88, .goto (-58), 3, [17], 0)) else (bif Nat.blt k 51 then some (91, .bipush (-4), 2, [], (-4)) else some (93, .ireturn, 1, [], 0)))))))
/-- 143: OracleWheelModel.findCan(II)V -/
def m_t143 (k : Nat) : Option ME := (bif Nat.blt k 49 then (bif Nat.blt k 24 then (bif Nat.blt k 12 then (bif Nat.blt k 6 then (bif Nat.blt k 3 then (bif Nat.blt k 1 then some (0, .iconst 0, 1, [], nI 0) else (bif Nat.blt k 2 then some (1, .istore_n 3, 1, [3], 0) else some (2, .iload_n 3, 1, [3], 0))) else (bif Nat.blt k 4 then some (3, .bipush 99, 2, [], nI 99) else (bif Nat.blt k 5 then some (5, .if_icmp .gt 16, 3, [12], 0) else some (8, .aload_n 0, 1, [0], 0)))) else (bif Nat.blt k 9 then (bif Nat.blt k 7 then some (9, .getfield 52, 3, [8, 34, 2], 0) else (bif Nat.blt k 8 then some (12, .iload_n 3, 1, [3], 0) else some (13, .iconst 0, 1, [], nI 0))) else (bif Nat.blt k 10 then some (14, .iastore, 1, [], 0) else (bif Nat.blt k 11 then some (15, .iinc 3 1, 3, [3], nI 1) else some (18, .goto (-16), 3, [2], 0))))) else (bif Nat.blt k 18 then (bif Nat.blt k 15 then (bif Nat.blt k 13 then some (21, .iload_n 2, 1, [2], 0) else (bif Nat.blt k 14 then some (22, .bipush 99, 2, [], nI 99) else some (24, .if_icmp .gt 12, 3, [22], 0))) else (bif Nat.blt k 16 then some (27, .aload_n 0, 1, [0], 0) else (bif Nat.blt k 17 then some (28, .getfield 52, 3, [8, 34, 2], 0) else some (31, .iload_n 2, 1, [2], 0)))) else (bif Nat.blt k 21 then (bif Nat.blt k 19 then some (32, .iconst 1, 1, [], nI 1) else (bif Nat.blt k 20 then some (33, .iload_n 1, 1, [1], 0) else some (34, .ishl, 1, [], 0))) else (bif Nat.blt k 22 then some (35, .iastore, 1, [], 0) else (bif Nat.blt k 23 then some (36, .iconst 0, 1, [], nI 0) else some (37, .istore_n 3, 1, [3], 0)))))) else (bif Nat.blt k 36 then (bif Nat.blt k 30 then (bif Nat.blt k 27 then (bif Nat.blt k 25 then some (38, .iload_n 3, 1, [3], 0) else (bif Nat.blt k 26 then some (39, .bipush 99, 2, [], nI 99) else some (41, .if_icmp .ge 132, 3, [97], 0))) else (bif Nat.blt k 28 then some (44, .aload_n 0, 1, [0], 0) else (bif Nat.blt k 29 then some (45, .getfield 52, 3, [8, 34, 2], 0) else some (48, .iload_n 3, 1, [3], 0)))) else (bif Nat.blt k 33 then (bif Nat.blt k 31 then some (49, .iconst 1, 1, [], nI 1) else (bif Nat.blt k 32 then some (50, .iadd, 1, [], 0) else some (51, .dup2, 1, [], 0))) else (bif Nat.blt k 34 then some (52, .iaload, 1, [], 0) else (bif Nat.blt k 35 then some (53, .aload_n 0, 1, [0], 0) else some (54, .getfield 52, 3, [8, 34, 2], 0))))) else (bif Nat.blt k 42 then (bif Nat.blt k 39 then (bif Nat.blt k 37 then some (57, .iload_n 3, 1, [3], 0) else (bif Nat.blt k 38 then some (58, .iaload, 1, [], 0) else some (59, .ior, 1, [], 0))) else (bif Nat.blt k 40 then some (60, .iastore, 1, [], 0) else (bif Nat.blt k 41 then some (61, .iconst 0, 1, [], nI 0) else some (62, .istore 4, 2, [4], 0)))) else (bif Nat.blt k 45 then (bif Nat.blt k 43 then some (64, .iload 4, 2, [4], 0) else (bif Nat.blt k 44 then some (66, .aload_n 0, 1, [0], 0) else some (67, .getfield 97, 3, [8, 6, 0], 0))) else (bif Nat.blt k 47 then (bif Nat.blt k 46 then some (70, .if_icmp .ge 97, 3, [95], 0) else some (73, .aload_n 0, 1, [0], 0)) else (bif Nat.blt k 48 then some (74, .iload 4, 2, [4], 0) else some (76, .iload_n 3, 1, [3], 0))))))) else (bif Nat.blt k 73 then (bif Nat.blt k 61 then (bif Nat.blt k 55 then (bif Nat.blt k 52 then (bif Nat.blt k 50 then some (77, .invokevirtual 198, 3, [126, 3], 0) else (bif Nat.blt k 51 then some (80, .istore 5, 2, [5], 0) else some (82, .iconst 0, 1, [], nI 0))) else (bif Nat.blt k 53 then some (83, .istore 6, 2, [6], 0) else (bif Nat.blt k 54 then some (85, .iload 6, 2, [6], 0) else some (87, .aload_n 0, 1, [0], 0)))) else (bif Nat.blt k 58 then (bif Nat.blt k 56 then some (88, .getfield 157, 3, [8, 5, 0], 0) else (bif Nat.blt k 57 then some (91, .if_icmp .ge 70, 3, [93], 0) else some (94, .iload 5, 2, [5], 0))) else (bif Nat.blt k 59 then some (96, .ifCond .le 59, 3, [91], 0) else (bif Nat.blt k 60 then some (99, .iload_n 3, 1, [3], 0) else some (100, .iload 5, 2, [5], 0))))) else (bif Nat.blt k 67 then (bif Nat.blt k 64 then (bif Nat.blt k 62 then some (102, .iadd, 1, [], 0) else (bif Nat.blt k 63 then some (103, .bipush 99, 2, [], nI 99) else some (105, .if_icmp .gt 50, 3, [91], 0))) else (bif Nat.blt k 65 then some (108, .aload_n 0, 1, [0], 0) else (bif Nat.blt k 66 then some (109, .getfield 52, 3, [8, 34, 2], 0) else some (112, .iload_n 3, 1, [3], 0)))) else (bif Nat.blt k 70 then (bif Nat.blt k 68 then some (113, .iaload, 1, [], 0) else (bif Nat.blt k 69 then some (114, .iload 6, 2, [6], 0) else some (116, .invokestatic 224, 3, [101, 2], 0))) else (bif Nat.blt k 71 then some (119, .ifCond .eq 36, 3, [91], 0) else (bif Nat.blt k 72 then some (122, .aload_n 0, 1, [0], 0) else some (123, .iload 4, 2, [4], 0)))))) else (bif Nat.blt k 85 then (bif Nat.blt k 79 then (bif Nat.blt k 76 then (bif Nat.blt k 74 then some (125, .iload 6, 2, [6], 0) else (bif Nat.blt k 75 then some (127, .invokevirtual 214, 3, [134, 3], 0) else some (130, .ifCond .eq 25, 3, [91], 0))) else (bif Nat.blt k 77 then some (133, .aload_n 0, 1, [0], 0) else (bif Nat.blt k 78 then some (134, .getfield 52, 3, [8, 34, 2], 0) else some (137, .iload_n 3, 1, [3], 0)))) else (bif Nat.blt k 82 then (bif Nat.blt k 80 then some (138, .iload 5, 2, [5], 0) else (bif Nat.blt k 81 then some (140, .iadd, 1, [], 0) else some (141, .dup2, 1, [], 0))) else (bif Nat.blt k 83 then some (142, .iaload, 1, [], 0) else (bif Nat.blt k 84 then some (143, .iconst 1, 1, [], nI 1) else some (144, .aload_n 0, 1, [0], 0))))) else (bif Nat.blt k 91 then (bif Nat.blt k 88 then (bif Nat.blt k 86 then some (145, .iload 4, 2, [4], 0) else (bif Nat.blt k 87 then some (147, .iload 6, 2, [6], 0) else some (149, .invokevirtual 218, 3, [135, 3], 0))) else (bif Nat.blt k 89 then some (152, .ishl, 1, [], 0) else (bif Nat.blt k 90 then some (153, .ior, 1, [], 0) else some (154, .iastore, 1, [], 0)))) else (bif Nat.blt k 94 then (bif Nat.blt k 92 then some (155, .iinc 6 1, 3, [6], nI 1) else (bif Nat.blt k 93 then some (158, .goto (-73), 3, [53], 0) else some (161, .iinc 4 1, 3, [4], nI 1))) else (bif Nat.blt k 96 then (bif Nat.blt k 95 then some (164, .goto (-100), 3, [42], 0) else some (167, .iinc 3 1, 3, [3], nI 1)) else (bif Nat.blt k 97 then some (170, .goto (-132), 3, [24], 0) else some (173, .return_, 1, [], 0))))))))
/-- 144: OracleWheelModel.topBy(I)I -/
def m_t144 (k : Nat) : Option ME := (bif Nat.blt k 12 then (bif Nat.blt k 6 then (bif Nat.blt k 3 then (bif Nat.blt k 1 then some (0, .iconst 0, 1, [], nI 0) else (bif Nat.blt k 2 then some (1, .istore_n 2, 1, [2], 0) else some (2, .iload_n 2, 1, [2], 0))) else (bif Nat.blt k 4 then some (3, .bipush 99, 2, [], nI 99) else (bif Nat.blt k 5 then some (5, .if_icmp .gt 37, 3, [23], 0) else some (8, .aload_n 0, 1, [0], 0)))) else (bif Nat.blt k 9 then (bif Nat.blt k 7 then some (9, .getfield 52, 3, [8, 34, 2], 0) else (bif Nat.blt k 8 then some (12, .iload_n 2, 1, [2], 0) else some (13, .iaload, 1, [], 0))) else (bif Nat.blt k 10 then some (14, .iconst 0, 1, [], nI 0) else (bif Nat.blt k 11 then some (15, .invokestatic 224, 3, [101, 2], 0) else some (18, .ifCond .eq 18, 3, [21], 0))))) else (bif Nat.blt k 18 then (bif Nat.blt k 15 then (bif Nat.blt k 13 then some (21, .iload_n 1, 1, [1], 0) else (bif Nat.blt k 14 then some (22, .ifCond .lt 12, 3, [19], 0) else some (25, .aload_n 0, 1, [0], 0))) else (bif Nat.blt k 16 then some (26, .iload_n 2, 1, [2], 0) else (bif Nat.blt k 17 then some (27, .invokevirtual 189, 3, [125, 2], 0) else some (30, .iload_n 1, 1, [1], 0)))) else (bif Nat.blt k 21 then (bif Nat.blt k 19 then some (31, .if_icmp .ne 5, 3, [21], 0) else (bif Nat.blt k 20 then some (34, .iload_n 2, 1, [2], 0) else some (35, .ireturn, 1, [], 0))) else (bif Nat.blt k 23 then (bif Nat.blt k 22 then some (36, .iinc 2 1, 3, [2], nI 1) else some (39, .goto (-37), 3, [2], 0)) else (bif Nat.blt k 24 then some (42, .bipush (-4), 2, [], (-4)) else some (44, .ireturn, 1, [], 0))))))
/-- 145: OracleWheelModel.findOf(II)V -/
def m_t145 (k : Nat) : Option ME := (bif Nat.blt k 11 then (bif Nat.blt k 5 then (bif Nat.blt k 2 then (bif Nat.blt k 1 then some (0, .aload_n 0, 1, [0], 0) else some (1, .iload_n 2, 1, [2], 0)) else (bif Nat.blt k 3 then some (2, .aload_n 0, 1, [0], 0) else (bif Nat.blt k 4 then some (3, .getfield 167, 3, [8, 2, 0], 0) else some (6, .aload_n 0, 1, [0], 0)))) else (bif Nat.blt k 8 then (bif Nat.blt k 6 then some (7, .getfield 170, 3, [8, 3, 0], 0) else (bif Nat.blt k 7 then some (10, .bipush 99, 2, [], nI 99) else some (12, .invokevirtual 195, 3, [124, 5], 0))) else (bif Nat.blt k 9 then some (15, .aload_n 0, 1, [0], 0) else (bif Nat.blt k 10 then some (16, .aload_n 0, 1, [0], 0) else some (17, .getfield 19, 3, [8, 10, 2], 0))))) else (bif Nat.blt k 17 then (bif Nat.blt k 14 then (bif Nat.blt k 12 then some (20, .iconst 4, 1, [], nI 4) else (bif Nat.blt k 13 then some (21, .iload_n 1, 1, [1], 0) else some (22, .iadd, 1, [], 0))) else (bif Nat.blt k 15 then some (23, .iaload, 1, [], 0) else (bif Nat.blt k 16 then some (24, .aload_n 0, 1, [0], 0) else some (25, .getfield 19, 3, [8, 10, 2], 0)))) else (bif Nat.blt k 20 then (bif Nat.blt k 18 then some (28, .bipush 8, 2, [], nI 8) else (bif Nat.blt k 19 then some (30, .iload_n 1, 1, [1], 0) else some (31, .iadd, 1, [], 0))) else (bif Nat.blt k 21 then some (32, .iaload, 1, [], 0) else (bif Nat.blt k 22 then some (33, .invokevirtual 227, 3, [143, 3], 0) else some (36, .return_, 1, [], 0))))))
/-- 146: OracleWheelModel.top(I)I -/
def m_t146 (k : Nat) : Option ME := (bif Nat.blt k 8 then (bif Nat.blt k 4 then (bif Nat.blt k 2 then (bif Nat.blt k 1 then some (0, .aload_n 0, 1, [0], 0) else some (1, .iload_n 1, 1, [1], 0)) else (bif Nat.blt k 3 then some (2, .invokevirtual 202, 3, [103, 2], 0) else some (5, .ifCond .ne 5, 3, [6], 0))) else (bif Nat.blt k 6 then (bif Nat.blt k 5 then some (8, .iconst (-1), 1, [], (-1)) else some (9, .ireturn, 1, [], 0)) else (bif Nat.blt k 7 then some (10, .aload_n 0, 1, [0], 0) else some (11, .iload_n 1, 1, [1], 0)))) else (bif Nat.blt k 12 then (bif Nat.blt k 10 then (bif Nat.blt k 9 then some (12, .aload_n 0, 1, [0], 0) else some (13, .getfield 19, 3, [8, 10, 2], 0)) else (bif Nat.blt k 11 then some (16, .iconst 2, 1, [], nI 2) else some (17, .iaload, 1, [], 0))) else (bif Nat.blt k 14 then (bif Nat.blt k 13 then some (18, .invokevirtual 230, 3, [145, 3], 0) else some (21, .aload_n 0, 1, [0], 0)) else (bif Nat.blt k 15 then some (22, .iconst (-1), 1, [], (-1)) else (bif Nat.blt k 16 then some (23, .invokevirtual 233, 3, [144, 2], 0) else some (26, .ireturn, 1, [], 0))))))
/-- 147: OracleWheelModel.read(II)I -/
def m_t147 (k : Nat) : Option ME := (bif Nat.blt k 10 then (bif Nat.blt k 5 then (bif Nat.blt k 2 then (bif Nat.blt k 1 then some (0, .aload_n 0, 1, [0], 0) else some (1, .iload_n 1, 1, [1], 0)) else (bif Nat.blt k 3 then some (2, .invokevirtual 202, 3, [103, 2], 0) else (bif Nat.blt k 4 then some (5, .ifCond .eq 10, 3, [7], 0) else some (8, .iload_n 2, 1, [2], 0)))) else (bif Nat.blt k 7 then (bif Nat.blt k 6 then some (9, .invokestatic 236, 3, [104, 1], 0) else some (12, .ifCond .ne 5, 3, [9], 0)) else (bif Nat.blt k 8 then some (15, .iconst (-1), 1, [], (-1)) else (bif Nat.blt k 9 then some (16, .ireturn, 1, [], 0) else some (17, .aload_n 0, 1, [0], 0))))) else (bif Nat.blt k 15 then (bif Nat.blt k 12 then (bif Nat.blt k 11 then some (18, .iload_n 1, 1, [1], 0) else some (19, .aload_n 0, 1, [0], 0)) else (bif Nat.blt k 13 then some (20, .getfield 19, 3, [8, 10, 2], 0) else (bif Nat.blt k 14 then some (23, .iconst 2, 1, [], nI 2) else some (24, .iaload, 1, [], 0)))) else (bif Nat.blt k 17 then (bif Nat.blt k 16 then some (25, .invokevirtual 230, 3, [145, 3], 0) else some (28, .aload_n 0, 1, [0], 0)) else (bif Nat.blt k 18 then some (29, .iload_n 2, 1, [2], 0) else (bif Nat.blt k 19 then some (30, .invokevirtual 233, 3, [144, 2], 0) else some (33, .ireturn, 1, [], 0))))))
/-- 148: OracleWheelModel.both(III)I -/
def m_t148 (k : Nat) : Option ME := (bif Nat.blt k 33 then (bif Nat.blt k 16 then (bif Nat.blt k 8 then (bif Nat.blt k 4 then (bif Nat.blt k 2 then (bif Nat.blt k 1 then some (0, .aload_n 0, 1, [0], 0) else some (1, .iload_n 1, 1, [1], 0)) else (bif Nat.blt k 3 then some (2, .invokevirtual 202, 3, [103, 2], 0) else some (5, .ifCond .eq 23, 3, [14], 0))) else (bif Nat.blt k 6 then (bif Nat.blt k 5 then some (8, .aload_n 0, 1, [0], 0) else some (9, .iload_n 2, 1, [2], 0)) else (bif Nat.blt k 7 then some (10, .invokevirtual 202, 3, [103, 2], 0) else some (13, .ifCond .eq 15, 3, [14], 0)))) else (bif Nat.blt k 12 then (bif Nat.blt k 10 then (bif Nat.blt k 9 then some (16, .iload_n 1, 1, [1], 0) else some (17, .iload_n 2, 1, [2], 0)) else (bif Nat.blt k 11 then some (18, .if_icmp .eq 10, 3, [14], 0) else some (21, .iload_n 3, 1, [3], 0))) else (bif Nat.blt k 14 then (bif Nat.blt k 13 then some (22, .invokestatic 236, 3, [104, 1], 0) else some (25, .ifCond .ne 5, 3, [16], 0)) else (bif Nat.blt k 15 then some (28, .iconst (-1), 1, [], (-1)) else some (29, .ireturn, 1, [], 0))))) else (bif Nat.blt k 24 then (bif Nat.blt k 20 then (bif Nat.blt k 18 then (bif Nat.blt k 17 then some (30, .aload_n 0, 1, [0], 0) else some (31, .iload_n 1, 1, [1], 0)) else (bif Nat.blt k 19 then some (32, .aload_n 0, 1, [0], 0) else some (33, .getfield 19, 3, [8, 10, 2], 0))) else (bif Nat.blt k 22 then (bif Nat.blt k 21 then some (36, .iconst 2, 1, [], nI 2) else some (37, .iaload, 1, [], 0)) else (bif Nat.blt k 23 then some (38, .invokevirtual 230, 3, [145, 3], 0) else some (41, .aload_n 0, 1, [0], 0)))) else (bif Nat.blt k 28 then (bif Nat.blt k 26 then (bif Nat.blt k 25 then some (42, .iconst (-1), 1, [], (-1)) else some (43, .invokevirtual 233, 3, [144, 2], 0)) else (bif Nat.blt k 27 then some (46, .istore 4, 2, [4], 0) else some (48, .aload_n 0, 1, [0], 0))) else (bif Nat.blt k 30 then (bif Nat.blt k 29 then some (49, .iload_n 2, 1, [2], 0) else some (50, .aload_n 0, 1, [0], 0)) else (bif Nat.blt k 31 then some (51, .getfield 19, 3, [8, 10, 2], 0) else (bif Nat.blt k 32 then some (54, .iconst 2, 1, [], nI 2) else some (55, .iaload, 1, [], 0))))))) else (bif Nat.blt k 50 then (bif Nat.blt k 41 then (bif Nat.blt k 37 then (bif Nat.blt k 35 then (bif Nat.blt k 34 then some (56, .invokevirtual 230, 3, [145, 3], 0) else some (59, .aload_n 0, 1, [0], 0)) else (bif Nat.blt k 36 then some (60, .iconst (-1), 1, [], (-1)) else some (61, .invokevirtual 233, 3, [144, 2], 0))) else (bif Nat.blt k 39 then (bif Nat.blt k 38 then some (64, .istore 5, 2, [5], 0) else some (66, .iload 4, 2, [4], 0)) else (bif Nat.blt k 40 then some (68, .iload 5, 2, [5], 0) else some (70, .if_icmp .le 8, 3, [43], 0)))) else (bif Nat.blt k 45 then (bif Nat.blt k 43 then (bif Nat.blt k 42 then some (73, .iload 4, 2, [4], 0) else some (75, .goto 5, 3, [44], 0)) else (bif Nat.blt k 44 then some (78, .iload 5, 2, [5], 0) else some (80, .istore 6, 2, [6], 0))) else (bif Nat.blt k 47 then (bif Nat.blt k 46 then some (82, .iload 4, 2, [4], 0) else some (84, .ifCond .lt 8, 3, [49], 0)) else (bif Nat.blt k 48 then some (87, .iload 5, 2, [5], 0) else (bif Nat.blt k 49 then some (89, .ifCond .ge 8, 3, [51], 0) else some (92, .bipush 100, 2, [], nI 100)))))) else (bif Nat.blt k 58 then (bif Nat.blt k 54 then (bif Nat.blt k 52 then (bif Nat.blt k 51 then some (94, .goto 5, 3, [52], 0) else some (97, .iload 6, 2, [6], 0)) else (bif Nat.blt k 53 then some (99, .istore 7, 2, [7], 0) else some (101, .iload 7, 2, [7], 0))) else (bif Nat.blt k 56 then (bif Nat.blt k 55 then some (103, .bipush 99, 2, [], nI 99) else some (105, .if_icmp .gt 22, 3, [65], 0)) else (bif Nat.blt k 57 then some (108, .aload_n 0, 1, [0], 0) else some (109, .iload 7, 2, [7], 0)))) else (bif Nat.blt k 62 then (bif Nat.blt k 60 then (bif Nat.blt k 59 then some (111, .invokevirtual 189, 3, [125, 2], 0) else some (114, .iload_n 3, 1, [3], 0)) else (bif Nat.blt k 61 then some (115, .if_icmp .ne 6, 3, [63], 0) else some (118, .iload 7, 2, [7], 0))) else (bif Nat.blt k 64 then (bif Nat.blt k 63 then some (120, .ireturn, 1, [], 0) else some (121, .iinc 7 1, 3, [7], nI 1)) else (bif Nat.blt k 65 then some (124, .goto (-23), 3, [53], 0) else (bif Nat.blt k 66 then some (127, .bipush (-4), 2, [], (-4)) else some (129, .ireturn, 1, [], 0))))))))
/-- 149: OracleWheelModel.hold(I)I -/
def m_t149 (k : Nat) : Option ME := (bif Nat.blt k 24 then (bif Nat.blt k 12 then (bif Nat.blt k 6 then (bif Nat.blt k 3 then (bif Nat.blt k 1 then some (0, .aload_n 0, 1, [0], 0) else (bif Nat.blt k 2 then some (1, .iload_n 1, 1, [1], 0) else some (2, .invokevirtual 202, 3, [103, 2], 0))) else (bif Nat.blt k 4 then some (5, .ifCond .ne 5, 3, [6], 0) else (bif Nat.blt k 5 then some (8, .iconst (-1), 1, [], (-1)) else some (9, .ireturn, 1, [], 0)))) else (bif Nat.blt k 9 then (bif Nat.blt k 7 then some (10, .iconst 0, 1, [], nI 0) else (bif Nat.blt k 8 then some (11, .istore_n 2, 1, [2], 0) else some (12, .iload_n 2, 1, [2], 0))) else (bif Nat.blt k 10 then some (13, .bipush 12, 2, [], nI 12) else (bif Nat.blt k 11 then some (15, .if_icmp .gt 67, 3, [47], 0) else some (18, .iload_n 2, 1, [2], 0))))) else (bif Nat.blt k 18 then (bif Nat.blt k 15 then (bif Nat.blt k 13 then some (19, .ifCond .eq 12, 3, [18], 0) else (bif Nat.blt k 14 then some (22, .aload_n 0, 1, [0], 0) else some (23, .getfield 19, 3, [8, 10, 2], 0))) else (bif Nat.blt k 16 then some (26, .iconst 3, 1, [], nI 3) else (bif Nat.blt k 17 then some (27, .iaload, 1, [], 0) else some (28, .ifCond .ne 54, 3, [47], 0)))) else (bif Nat.blt k 21 then (bif Nat.blt k 19 then some (31, .aload_n 0, 1, [0], 0) else (bif Nat.blt k 20 then some (32, .iload_n 1, 1, [1], 0) else some (33, .iload_n 2, 1, [2], 0))) else (bif Nat.blt k 22 then some (34, .ifCond .ne 12, 3, [27], 0) else (bif Nat.blt k 23 then some (37, .aload_n 0, 1, [0], 0) else some (38, .getfield 19, 3, [8, 10, 2], 0)))))) else (bif Nat.blt k 36 then (bif Nat.blt k 30 then (bif Nat.blt k 27 then (bif Nat.blt k 25 then some (41, .iconst 2, 1, [], nI 2) else (bif Nat.blt k 26 then some (42, .iaload, 1, [], 0) else some (43, .goto 4, 3, [28], 0))) else (bif Nat.blt k 28 then some (46, .iload_n 2, 1, [2], 0) else (bif Nat.blt k 29 then some (47, .invokevirtual 230, 3, [145, 3], 0) else some (50, .aload_n 0, 1, [0], 0)))) else (bif Nat.blt k 33 then (bif Nat.blt k 31 then some (51, .iconst (-1), 1, [], (-1)) else (bif Nat.blt k 32 then some (52, .invokevirtual 233, 3, [144, 2], 0) else some (55, .istore_n 3, 1, [3], 0))) else (bif Nat.blt k 34 then some (56, .iload_n 3, 1, [3], 0) else (bif Nat.blt k 35 then some (57, .ifCond .lt 19, 3, [45], 0) else some (60, .aload_n 0, 1, [0], 0))))) else (bif Nat.blt k 42 then (bif Nat.blt k 39 then (bif Nat.blt k 37 then some (61, .iload_n 3, 1, [3], 0) else (bif Nat.blt k 38 then some (62, .invokevirtual 189, 3, [125, 2], 0) else some (65, .aload_n 0, 1, [0], 0))) else (bif Nat.blt k 40 then some (66, .getfield 16, 3, [8, 9, 2], 0) else (bif Nat.blt k 41 then some (69, .iload_n 1, 1, [1], 0) else some (70, .iaload, 1, [], 0)))) else (bif Nat.blt k 45 then (bif Nat.blt k 43 then some (71, .if_icmp .ne 5, 3, [45], 0) else (bif Nat.blt k 44 then some (74, .iload_n 2, 1, [2], 0) else some (75, .ireturn, 1, [], 0))) else (bif Nat.blt k 47 then (bif Nat.blt k 46 then some (76, .iinc 2 1, 3, [2], nI 1) else some (79, .goto (-67), 3, [8], 0)) else (bif Nat.blt k 48 then some (82, .bipush (-4), 2, [], (-4)) else some (84, .ireturn, 1, [], 0)))))))
/-- 150: OracleWheelModel.first(I)I -/
def m_t150 (k : Nat) : Option ME := (bif Nat.blt k 41 then (bif Nat.blt k 20 then (bif Nat.blt k 10 then (bif Nat.blt k 5 then (bif Nat.blt k 2 then (bif Nat.blt k 1 then some (0, .aload_n 0, 1, [0], 0) else some (1, .iload_n 1, 1, [1], 0)) else (bif Nat.blt k 3 then some (2, .invokevirtual 202, 3, [103, 2], 0) else (bif Nat.blt k 4 then some (5, .ifCond .ne 5, 3, [6], 0) else some (8, .iconst (-1), 1, [], (-1))))) else (bif Nat.blt k 7 then (bif Nat.blt k 6 then some (9, .ireturn, 1, [], 0) else some (10, .aload_n 0, 1, [0], 0)) else (bif Nat.blt k 8 then some (11, .iload_n 1, 1, [1], 0) else (bif Nat.blt k 9 then some (12, .aload_n 0, 1, [0], 0) else some (13, .getfield 19, 3, [8, 10, 2], 0))))) else (bif Nat.blt k 15 then (bif Nat.blt k 12 then (bif Nat.blt k 11 then some (16, .iconst 2, 1, [], nI 2) else some (17, .iaload, 1, [], 0)) else (bif Nat.blt k 13 then some (18, .invokevirtual 230, 3, [145, 3], 0) else (bif Nat.blt k 14 then some (21, .aload_n 0, 1, [0], 0) else some (22, .iconst (-1), 1, [], (-1))))) else (bif Nat.blt k 17 then (bif Nat.blt k 16 then some (23, .invokevirtual 233, 3, [144, 2], 0) else some (26, .istore_n 2, 1, [2], 0)) else (bif Nat.blt k 18 then some (27, .aload_n 0, 1, [0], 0) else (bif Nat.blt k 19 then some (28, .getfield 19, 3, [8, 10, 2], 0) else some (31, .bipush 8, 2, [], nI 8)))))) else (bif Nat.blt k 30 then (bif Nat.blt k 25 then (bif Nat.blt k 22 then (bif Nat.blt k 21 then some (33, .iload_n 1, 1, [1], 0) else some (34, .iadd, 1, [], 0)) else (bif Nat.blt k 23 then some (35, .iaload, 1, [], 0) else (bif Nat.blt k 24 then some (36, .ifCond .gt 18, 3, [33], 0) else some (39, .aload_n 0, 1, [0], 0)))) else (bif Nat.blt k 27 then (bif Nat.blt k 26 then some (40, .getfield 19, 3, [8, 10, 2], 0) else some (43, .iconst 4, 1, [], nI 4)) else (bif Nat.blt k 28 then some (44, .iload_n 1, 1, [1], 0) else (bif Nat.blt k 29 then some (45, .iadd, 1, [], 0) else some (46, .iaload, 1, [], 0))))) else (bif Nat.blt k 35 then (bif Nat.blt k 32 then (bif Nat.blt k 31 then some (47, .ifCond .eq 7, 3, [33], 0) else some (50, .iload_n 2, 1, [2], 0)) else (bif Nat.blt k 33 then some (51, .ifCond .ge 6, 3, [35], 0) else (bif Nat.blt k 34 then some (54, .bipush (-4), 2, [], (-4)) else some (56, .ireturn, 1, [], 0)))) else (bif Nat.blt k 38 then (bif Nat.blt k 36 then some (57, .iconst 0, 1, [], nI 0) else (bif Nat.blt k 37 then some (58, .istore_n 3, 1, [3], 0) else some (59, .iload_n 3, 1, [3], 0))) else (bif Nat.blt k 39 then some (60, .aload_n 0, 1, [0], 0) else (bif Nat.blt k 40 then some (61, .getfield 97, 3, [8, 6, 0], 0) else some (64, .if_icmp .ge 73, 3, [81], 0))))))) else (bif Nat.blt k 62 then (bif Nat.blt k 51 then (bif Nat.blt k 46 then (bif Nat.blt k 43 then (bif Nat.blt k 42 then some (67, .aload_n 0, 1, [0], 0) else some (68, .iload_n 3, 1, [3], 0)) else (bif Nat.blt k 44 then some (69, .aload_n 0, 1, [0], 0) else (bif Nat.blt k 45 then some (70, .getfield 19, 3, [8, 10, 2], 0) else some (73, .iconst 4, 1, [], nI 4)))) else (bif Nat.blt k 48 then (bif Nat.blt k 47 then some (74, .iload_n 1, 1, [1], 0) else some (75, .iadd, 1, [], 0)) else (bif Nat.blt k 49 then some (76, .iaload, 1, [], 0) else (bif Nat.blt k 50 then some (77, .invokevirtual 214, 3, [134, 3], 0) else some (80, .ifCond .eq 12, 3, [56], 0))))) else (bif Nat.blt k 56 then (bif Nat.blt k 53 then (bif Nat.blt k 52 then some (83, .aload_n 0, 1, [0], 0) else some (84, .iload_n 3, 1, [3], 0)) else (bif Nat.blt k 54 then some (85, .iconst 0, 1, [], nI 0) else (bif Nat.blt k 55 then some (86, .invokevirtual 198, 3, [126, 3], 0) else some (89, .goto 5, 3, [57], 0)))) else (bif Nat.blt k 59 then (bif Nat.blt k 57 then some (92, .bipush (-4), 2, [], (-4)) else (bif Nat.blt k 58 then some (94, .istore 4, 2, [4], 0) else some (96, .iload 4, 2, [4], 0))) else (bif Nat.blt k 60 then some (98, .ifCond .le 33, 3, [79], 0) else (bif Nat.blt k 61 then some (101, .aload_n 0, 1, [0], 0) else some (102, .aload_n 0, 1, [0], 0)))))) else (bif Nat.blt k 72 then (bif Nat.blt k 67 then (bif Nat.blt k 64 then (bif Nat.blt k 63 then some (103, .iload_n 3, 1, [3], 0) else some (104, .aload_n 0, 1, [0], 0)) else (bif Nat.blt k 65 then some (105, .getfield 19, 3, [8, 10, 2], 0) else (bif Nat.blt k 66 then some (108, .iconst 4, 1, [], nI 4) else some (109, .iload_n 1, 1, [1], 0)))) else (bif Nat.blt k 69 then (bif Nat.blt k 68 then some (110, .iadd, 1, [], 0) else some (111, .iaload, 1, [], 0)) else (bif Nat.blt k 70 then some (112, .invokevirtual 218, 3, [135, 3], 0) else (bif Nat.blt k 71 then some (115, .iload 4, 2, [4], 0) else some (117, .invokevirtual 227, 3, [143, 3], 0))))) else (bif Nat.blt k 77 then (bif Nat.blt k 74 then (bif Nat.blt k 73 then some (120, .aload_n 0, 1, [0], 0) else some (121, .iconst (-1), 1, [], (-1))) else (bif Nat.blt k 75 then some (122, .invokevirtual 233, 3, [144, 2], 0) else (bif Nat.blt k 76 then some (125, .iload_n 2, 1, [2], 0) else some (126, .if_icmp .ne 5, 3, [79], 0)))) else (bif Nat.blt k 80 then (bif Nat.blt k 78 then some (129, .iload_n 3, 1, [3], 0) else (bif Nat.blt k 79 then some (130, .ireturn, 1, [], 0) else some (131, .iinc 3 1, 3, [3], nI 1))) else (bif Nat.blt k 81 then some (134, .goto (-75), 3, [37], 0) else (bif Nat.blt k 82 then some (137, .bipush 10, 2, [], nI 10) else some (139, .ireturn, 1, [], 0))))))))
/-- 151: OracleWheelModel.see(II)I -/
def m_t151 (k : Nat) : Option ME := (bif Nat.blt k 21 then (bif Nat.blt k 10 then (bif Nat.blt k 5 then (bif Nat.blt k 2 then (bif Nat.blt k 1 then some (0, .iload_n 1, 1, [1], 0) else some (1, .invokestatic 236, 3, [104, 1], 0)) else (bif Nat.blt k 3 then some (4, .ifCond .eq 13, 3, [8], 0) else (bif Nat.blt k 4 then some (7, .iload_n 2, 1, [2], 0) else some (8, .iconst 0, 1, [], nI 0)))) else (bif Nat.blt k 7 then (bif Nat.blt k 6 then some (9, .bipush 99, 2, [], nI 99) else some (11, .invokestatic 100, 3, [100, 3], 0)) else (bif Nat.blt k 8 then some (14, .ifCond .ne 5, 3, [10], 0) else (bif Nat.blt k 9 then some (17, .iconst (-1), 1, [], (-1)) else some (18, .ireturn, 1, [], 0))))) else (bif Nat.blt k 15 then (bif Nat.blt k 12 then (bif Nat.blt k 11 then some (19, .aload_n 0, 1, [0], 0) else some (20, .getfield 182, 3, [8, 15, 0], 0)) else (bif Nat.blt k 13 then some (23, .bipush 6, 2, [], nI 6) else (bif Nat.blt k 14 then some (25, .if_icmp .ne 6, 3, [16], 0) else some (28, .bipush (-3), 2, [], (-3))))) else (bif Nat.blt k 18 then (bif Nat.blt k 16 then some (30, .ireturn, 1, [], 0) else (bif Nat.blt k 17 then some (31, .aload_n 0, 1, [0], 0) else some (32, .getfield 28, 3, [8, 16, 2], 0))) else (bif Nat.blt k 19 then some (35, .iconst 2, 1, [], nI 2) else (bif Nat.blt k 20 then some (36, .aload_n 0, 1, [0], 0) else some (37, .getfield 182, 3, [8, 15, 0], 0)))))) else (bif Nat.blt k 32 then (bif Nat.blt k 26 then (bif Nat.blt k 23 then (bif Nat.blt k 22 then some (40, .imul, 1, [], 0) else some (41, .iload_n 1, 1, [1], 0)) else (bif Nat.blt k 24 then some (42, .iastore, 1, [], 0) else (bif Nat.blt k 25 then some (43, .aload_n 0, 1, [0], 0) else some (44, .getfield 28, 3, [8, 16, 2], 0)))) else (bif Nat.blt k 29 then (bif Nat.blt k 27 then some (47, .iconst 2, 1, [], nI 2) else (bif Nat.blt k 28 then some (48, .aload_n 0, 1, [0], 0) else some (49, .getfield 182, 3, [8, 15, 0], 0))) else (bif Nat.blt k 30 then some (52, .imul, 1, [], 0) else (bif Nat.blt k 31 then some (53, .iconst 1, 1, [], nI 1) else some (54, .iadd, 1, [], 0))))) else (bif Nat.blt k 37 then (bif Nat.blt k 34 then (bif Nat.blt k 33 then some (55, .iload_n 2, 1, [2], 0) else some (56, .iastore, 1, [], 0)) else (bif Nat.blt k 35 then some (57, .aload_n 0, 1, [0], 0) else (bif Nat.blt k 36 then some (58, .dup, 1, [], 0) else some (59, .getfield 182, 3, [8, 15, 0], 0)))) else (bif Nat.blt k 40 then (bif Nat.blt k 38 then some (62, .iconst 1, 1, [], nI 1) else (bif Nat.blt k 39 then some (63, .iadd, 1, [], 0) else some (64, .putfield 182, 3, [8, 15, 0], 0))) else (bif Nat.blt k 41 then some (67, .aload_n 0, 1, [0], 0) else (bif Nat.blt k 42 then some (68, .getfield 182, 3, [8, 15, 0], 0) else some (71, .ireturn, 1, [], 0)))))))
/-- 152: OracleWheelModel.forget()I -/
def m_t152 (k : Nat) : Option ME := (bif Nat.blt k 4 then (bif Nat.blt k 2 then (bif Nat.blt k 1 then some (0, .aload_n 0, 1, [0], 0) else some (1, .getfield 182, 3, [8, 15, 0], 0)) else (bif Nat.blt k 3 then some (4, .istore_n 1, 1, [1], 0) else some (5, .aload_n 0, 1, [0], 0))) else (bif Nat.blt k 6 then (bif Nat.blt k 5 then some (6, .iconst 0, 1, [], nI 0) else some (7, .putfield 182, 3, [8, 15, 0], 0)) else (bif Nat.blt k 7 then some (10, .iload_n 1, 1, [1], 0) else some (11, .ireturn, 1, [], 0))))
/-- 153: OracleWheelModel.laws(I)I -/
def m_t153 (k : Nat) : Option ME := (bif Nat.blt k 45 then (bif Nat.blt k 22 then (bif Nat.blt k 11 then (bif Nat.blt k 5 then (bif Nat.blt k 2 then (bif Nat.blt k 1 then some (0, .iload_n 1, 1, [1], 0) else some (1, .iconst 0, 1, [], nI 0)) else (bif Nat.blt k 3 then some (2, .iconst 1, 1, [], nI 1) else (bif Nat.blt k 4 then some (3, .invokestatic 100, 3, [100, 3], 0) else some (6, .ifCond .ne 5, 3, [7], 0)))) else (bif Nat.blt k 8 then (bif Nat.blt k 6 then some (9, .iconst (-1), 1, [], (-1)) else (bif Nat.blt k 7 then some (10, .ireturn, 1, [], 0) else some (11, .iconst 0, 1, [], nI 0))) else (bif Nat.blt k 9 then some (12, .istore_n 2, 1, [2], 0) else (bif Nat.blt k 10 then some (13, .bipush (-4), 2, [], (-4)) else some (15, .istore_n 3, 1, [3], 0))))) else (bif Nat.blt k 16 then (bif Nat.blt k 13 then (bif Nat.blt k 12 then some (16, .bipush 11, 2, [], nI 11) else some (18, .istore 4, 2, [4], 0)) else (bif Nat.blt k 14 then some (20, .iload 4, 2, [4], 0) else (bif Nat.blt k 15 then some (22, .ifCond .lt 132, 3, [84], 0) else some (25, .bipush 24, 2, [], nI 24)))) else (bif Nat.blt k 19 then (bif Nat.blt k 17 then some (27, .istore 5, 2, [5], 0) else (bif Nat.blt k 18 then some (29, .iload 5, 2, [5], 0) else some (31, .iconst 1, 1, [], nI 1))) else (bif Nat.blt k 20 then some (32, .if_icmp .lt 116, 3, [82], 0) else (bif Nat.blt k 21 then some (35, .aload_n 0, 1, [0], 0) else some (36, .aload_n 0, 1, [0], 0)))))) else (bif Nat.blt k 33 then (bif Nat.blt k 27 then (bif Nat.blt k 24 then (bif Nat.blt k 23 then some (37, .getfield 19, 3, [8, 10, 2], 0) else some (40, .iconst 2, 1, [], nI 2)) else (bif Nat.blt k 25 then some (41, .iaload, 1, [], 0) else (bif Nat.blt k 26 then some (42, .iload 4, 2, [4], 0) else some (44, .iload 5, 2, [5], 0)))) else (bif Nat.blt k 30 then (bif Nat.blt k 28 then some (46, .bipush 99, 2, [], nI 99) else (bif Nat.blt k 29 then some (48, .invokevirtual 195, 3, [124, 5], 0) else some (51, .iconst 1, 1, [], nI 1))) else (bif Nat.blt k 31 then some (52, .istore 6, 2, [6], 0) else (bif Nat.blt k 32 then some (54, .iconst 0, 1, [], nI 0) else some (55, .istore 7, 2, [7], 0))))) else (bif Nat.blt k 39 then (bif Nat.blt k 36 then (bif Nat.blt k 34 then some (57, .iload 7, 2, [7], 0) else (bif Nat.blt k 35 then some (59, .aload_n 0, 1, [0], 0) else some (60, .getfield 182, 3, [8, 15, 0], 0))) else (bif Nat.blt k 37 then some (63, .if_icmp .ge 48, 3, [62], 0) else (bif Nat.blt k 38 then some (66, .iload 6, 2, [6], 0) else some (68, .ifCond .eq 34, 3, [58], 0)))) else (bif Nat.blt k 42 then (bif Nat.blt k 40 then some (71, .aload_n 0, 1, [0], 0) else (bif Nat.blt k 41 then some (72, .aload_n 0, 1, [0], 0) else some (73, .getfield 28, 3, [8, 16, 2], 0))) else (bif Nat.blt k 43 then some (76, .iconst 2, 1, [], nI 2) else (bif Nat.blt k 44 then some (77, .iload 7, 2, [7], 0) else some (79, .imul, 1, [], 0))))))) else (bif Nat.blt k 67 then (bif Nat.blt k 56 then (bif Nat.blt k 50 then (bif Nat.blt k 47 then (bif Nat.blt k 46 then some (80, .iconst 1, 1, [], nI 1) else some (81, .iadd, 1, [], 0)) else (bif Nat.blt k 48 then some (82, .iaload, 1, [], 0) else (bif Nat.blt k 49 then some (83, .invokevirtual 189, 3, [125, 2], 0) else some (86, .aload_n 0, 1, [0], 0)))) else (bif Nat.blt k 53 then (bif Nat.blt k 51 then some (87, .getfield 28, 3, [8, 16, 2], 0) else (bif Nat.blt k 52 then some (90, .iconst 2, 1, [], nI 2) else some (91, .iload 7, 2, [7], 0))) else (bif Nat.blt k 54 then some (93, .imul, 1, [], 0) else (bif Nat.blt k 55 then some (94, .iaload, 1, [], 0) else some (95, .if_icmp .ne 7, 3, [58], 0))))) else (bif Nat.blt k 61 then (bif Nat.blt k 58 then (bif Nat.blt k 57 then some (98, .iconst 1, 1, [], nI 1) else some (99, .goto 4, 3, [59], 0)) else (bif Nat.blt k 59 then some (102, .iconst 0, 1, [], nI 0) else (bif Nat.blt k 60 then some (103, .istore 6, 2, [6], 0) else some (105, .iinc 7 1, 3, [7], nI 1)))) else (bif Nat.blt k 64 then (bif Nat.blt k 62 then some (108, .goto (-51), 3, [33], 0) else (bif Nat.blt k 63 then some (111, .iload_n 2, 1, [2], 0) else some (112, .iload 6, 2, [6], 0))) else (bif Nat.blt k 65 then some (114, .ifCond .eq 7, 3, [67], 0) else (bif Nat.blt k 66 then some (117, .iconst 1, 1, [], nI 1) else some (118, .goto 4, 3, [68], 0)))))) else (bif Nat.blt k 78 then (bif Nat.blt k 72 then (bif Nat.blt k 69 then (bif Nat.blt k 68 then some (121, .iconst 0, 1, [], nI 0) else some (122, .iadd, 1, [], 0)) else (bif Nat.blt k 70 then some (123, .istore_n 2, 1, [2], 0) else (bif Nat.blt k 71 then some (124, .iload 6, 2, [6], 0) else some (126, .ifCond .eq 14, 3, [78], 0)))) else (bif Nat.blt k 75 then (bif Nat.blt k 73 then some (129, .bipush 100, 2, [], nI 100) else (bif Nat.blt k 74 then some (131, .iload 4, 2, [4], 0) else some (133, .imul, 1, [], 0))) else (bif Nat.blt k 76 then some (134, .iload 5, 2, [5], 0) else (bif Nat.blt k 77 then some (136, .iadd, 1, [], 0) else some (137, .goto 4, 3, [79], 0))))) else (bif Nat.blt k 84 then (bif Nat.blt k 81 then (bif Nat.blt k 79 then some (140, .iload_n 3, 1, [3], 0) else (bif Nat.blt k 80 then some (141, .istore_n 3, 1, [3], 0) else some (142, .iinc 5 (-1), 3, [5], (-1)))) else (bif Nat.blt k 82 then some (145, .goto (-116), 3, [17], 0) else (bif Nat.blt k 83 then some (148, .iinc 4 (-1), 3, [4], (-1)) else some (151, .goto (-131), 3, [13], 0)))) else (bif Nat.blt k 87 then (bif Nat.blt k 85 then some (154, .iload_n 1, 1, [1], 0) else (bif Nat.blt k 86 then some (155, .ifCond .ne 7, 3, [88], 0) else some (158, .iload_n 2, 1, [2], 0))) else (bif Nat.blt k 88 then some (159, .goto 4, 3, [89], 0) else (bif Nat.blt k 89 then some (162, .iload_n 3, 1, [3], 0) else some (163, .ireturn, 1, [], 0))))))))
/-- 154: OracleWheelModel.from(II)I -/
def m_t154 (k : Nat) : Option ME := (bif Nat.blt k 28 then (bif Nat.blt k 14 then (bif Nat.blt k 7 then (bif Nat.blt k 3 then (bif Nat.blt k 1 then some (0, .iload_n 1, 1, [1], 0) else (bif Nat.blt k 2 then some (1, .invokestatic 236, 3, [104, 1], 0) else some (4, .ifCond .eq 13, 3, [8], 0))) else (bif Nat.blt k 5 then (bif Nat.blt k 4 then some (7, .iload_n 2, 1, [2], 0) else some (8, .iconst 0, 1, [], nI 0)) else (bif Nat.blt k 6 then some (9, .bipush 99, 2, [], nI 99) else some (11, .invokestatic 100, 3, [100, 3], 0)))) else (bif Nat.blt k 10 then (bif Nat.blt k 8 then some (14, .ifCond .ne 5, 3, [10], 0) else (bif Nat.blt k 9 then some (17, .iconst (-1), 1, [], (-1)) else some (18, .ireturn, 1, [], 0))) else (bif Nat.blt k 12 then (bif Nat.blt k 11 then some (19, .aload_n 0, 1, [0], 0) else some (20, .aload_n 0, 1, [0], 0)) else (bif Nat.blt k 13 then some (21, .getfield 19, 3, [8, 10, 2], 0) else some (24, .iconst 2, 1, [], nI 2))))) else (bif Nat.blt k 21 then (bif Nat.blt k 17 then (bif Nat.blt k 15 then some (25, .iaload, 1, [], 0) else (bif Nat.blt k 16 then some (26, .aload_n 0, 1, [0], 0) else some (27, .getfield 167, 3, [8, 2, 0], 0))) else (bif Nat.blt k 19 then (bif Nat.blt k 18 then some (30, .aload_n 0, 1, [0], 0) else some (31, .getfield 170, 3, [8, 3, 0], 0)) else (bif Nat.blt k 20 then some (34, .bipush 99, 2, [], nI 99) else some (36, .invokevirtual 195, 3, [124, 5], 0)))) else (bif Nat.blt k 24 then (bif Nat.blt k 22 then some (39, .iconst 0, 1, [], nI 0) else (bif Nat.blt k 23 then some (40, .istore_n 3, 1, [3], 0) else some (41, .iconst 0, 1, [], nI 0))) else (bif Nat.blt k 26 then (bif Nat.blt k 25 then some (42, .istore 4, 2, [4], 0) else some (44, .iload 4, 2, [4], 0)) else (bif Nat.blt k 27 then some (46, .aload_n 0, 1, [0], 0) else some (47, .getfield 157, 3, [8, 5, 0], 0)))))) else (bif Nat.blt k 42 then (bif Nat.blt k 35 then (bif Nat.blt k 31 then (bif Nat.blt k 29 then some (50, .if_icmp .ge 49, 3, [55], 0) else (bif Nat.blt k 30 then some (53, .aload_n 0, 1, [0], 0) else some (54, .iload_n 2, 1, [2], 0))) else (bif Nat.blt k 33 then (bif Nat.blt k 32 then some (55, .invokevirtual 189, 3, [125, 2], 0) else some (58, .iload_n 1, 1, [1], 0)) else (bif Nat.blt k 34 then some (59, .if_icmp .ne 40, 3, [55], 0) else some (62, .aload_n 0, 1, [0], 0)))) else (bif Nat.blt k 38 then (bif Nat.blt k 36 then some (63, .iload 4, 2, [4], 0) else (bif Nat.blt k 37 then some (65, .iconst 0, 1, [], nI 0) else some (66, .invokevirtual 227, 3, [143, 3], 0))) else (bif Nat.blt k 40 then (bif Nat.blt k 39 then some (69, .iload_n 3, 1, [3], 0) else some (70, .aload_n 0, 1, [0], 0)) else (bif Nat.blt k 41 then some (71, .getfield 52, 3, [8, 34, 2], 0) else some (74, .iload_n 2, 1, [2], 0))))) else (bif Nat.blt k 49 then (bif Nat.blt k 45 then (bif Nat.blt k 43 then some (75, .iaload, 1, [], 0) else (bif Nat.blt k 44 then some (76, .iconst 0, 1, [], nI 0) else some (77, .invokestatic 224, 3, [101, 2], 0))) else (bif Nat.blt k 47 then (bif Nat.blt k 46 then some (80, .ifCond .eq 10, 3, [50], 0) else some (83, .iconst 1, 1, [], nI 1)) else (bif Nat.blt k 48 then some (84, .iload 4, 2, [4], 0) else some (86, .ishl, 1, [], 0)))) else (bif Nat.blt k 53 then (bif Nat.blt k 51 then (bif Nat.blt k 50 then some (87, .goto 4, 3, [51], 0) else some (90, .iconst 0, 1, [], nI 0)) else (bif Nat.blt k 52 then some (91, .ior, 1, [], 0) else some (92, .istore_n 3, 1, [3], 0))) else (bif Nat.blt k 55 then (bif Nat.blt k 54 then some (93, .iinc 4 1, 3, [4], nI 1) else some (96, .goto (-52), 3, [25], 0)) else (bif Nat.blt k 56 then some (99, .iload_n 3, 1, [3], 0) else some (100, .ireturn, 1, [], 0)))))))
/-- 155: OracleWheelModel.grazing(IIII)I -/
def m_t155 (k : Nat) : Option ME := (bif Nat.blt k 64 then (bif Nat.blt k 32 then (bif Nat.blt k 16 then (bif Nat.blt k 8 then (bif Nat.blt k 4 then (bif Nat.blt k 2 then (bif Nat.blt k 1 then some (0, .iload_n 1, 1, [1], 0) else some (1, .invokestatic 236, 3, [104, 1], 0)) else (bif Nat.blt k 3 then some (4, .ifCond .eq 33, 3, [18], 0) else some (7, .iload_n 2, 1, [2], 0))) else (bif Nat.blt k 6 then (bif Nat.blt k 5 then some (8, .iconst 0, 1, [], nI 0) else some (9, .bipush 8, 2, [], nI 8)) else (bif Nat.blt k 7 then some (11, .invokestatic 100, 3, [100, 3], 0) else some (14, .ifCond .eq 23, 3, [18], 0)))) else (bif Nat.blt k 12 then (bif Nat.blt k 10 then (bif Nat.blt k 9 then some (17, .iload_n 3, 1, [3], 0) else some (18, .iconst 0, 1, [], nI 0)) else (bif Nat.blt k 11 then some (19, .bipush 10, 2, [], nI 10) else some (21, .invokestatic 100, 3, [100, 3], 0))) else (bif Nat.blt k 14 then (bif Nat.blt k 13 then some (24, .ifCond .eq 13, 3, [18], 0) else some (27, .iload 4, 2, [4], 0)) else (bif Nat.blt k 15 then some (29, .iconst 0, 1, [], nI 0) else some (30, .iconst 1, 1, [], nI 1))))) else (bif Nat.blt k 24 then (bif Nat.blt k 20 then (bif Nat.blt k 18 then (bif Nat.blt k 17 then some (31, .invokestatic 100, 3, [100, 3], 0) else some (34, .ifCond .ne 5, 3, [20], 0)) else (bif Nat.blt k 19 then some (37, .iconst (-1), 1, [], (-1)) else some (38, .ireturn, 1, [], 0))) else (bif Nat.blt k 22 then (bif Nat.blt k 21 then some (39, .aload_n 0, 1, [0], 0) else some (40, .aload_n 0, 1, [0], 0)) else (bif Nat.blt k 23 then some (41, .getfield 19, 3, [8, 10, 2], 0) else some (44, .iconst 2, 1, [], nI 2)))) else (bif Nat.blt k 28 then (bif Nat.blt k 26 then (bif Nat.blt k 25 then some (45, .iaload, 1, [], 0) else some (46, .aload_n 0, 1, [0], 0)) else (bif Nat.blt k 27 then some (47, .getfield 167, 3, [8, 2, 0], 0) else some (50, .aload_n 0, 1, [0], 0))) else (bif Nat.blt k 30 then (bif Nat.blt k 29 then some (51, .getfield 170, 3, [8, 3, 0], 0) else some (54, .iload_n 2, 1, [2], 0)) else (bif Nat.blt k 31 then some (55, .invokevirtual 195, 3, [124, 5], 0) else some (58, .iconst 0, 1, [], nI 0)))))) else (bif Nat.blt k 48 then (bif Nat.blt k 40 then (bif Nat.blt k 36 then (bif Nat.blt k 34 then (bif Nat.blt k 33 then some (59, .istore 5, 2, [5], 0) else some (61, .iconst 1, 1, [], nI 1)) else (bif Nat.blt k 35 then some (62, .istore 6, 2, [6], 0) else some (64, .iconst 0, 1, [], nI 0))) else (bif Nat.blt k 38 then (bif Nat.blt k 37 then some (65, .istore 7, 2, [7], 0) else some (67, .iload 7, 2, [7], 0)) else (bif Nat.blt k 39 then some (69, .iconst 1, 1, [], nI 1) else some (70, .iload_n 2, 1, [2], 0)))) else (bif Nat.blt k 44 then (bif Nat.blt k 42 then (bif Nat.blt k 41 then some (71, .ishl, 1, [], 0) else some (72, .if_icmp .ge 99, 3, [95], 0)) else (bif Nat.blt k 43 then some (75, .iconst 1, 1, [], nI 1) else some (76, .istore 8, 2, [8], 0))) else (bif Nat.blt k 46 then (bif Nat.blt k 45 then some (78, .iconst 0, 1, [], nI 0) else some (79, .istore 9, 2, [9], 0)) else (bif Nat.blt k 47 then some (81, .iconst 0, 1, [], nI 0) else some (82, .istore 10, 2, [10], 0))))) else (bif Nat.blt k 56 then (bif Nat.blt k 52 then (bif Nat.blt k 50 then (bif Nat.blt k 49 then some (84, .iload 10, 2, [10], 0) else some (86, .iload_n 2, 1, [2], 0)) else (bif Nat.blt k 51 then some (87, .if_icmp .ge 44, 3, [73], 0) else some (90, .iload 8, 2, [8], 0))) else (bif Nat.blt k 54 then (bif Nat.blt k 53 then some (92, .iload 7, 2, [7], 0) else some (94, .iload 10, 2, [10], 0)) else (bif Nat.blt k 55 then some (96, .invokestatic 224, 3, [101, 2], 0) else some (99, .ifCond .eq 7, 3, [58], 0)))) else (bif Nat.blt k 60 then (bif Nat.blt k 58 then (bif Nat.blt k 57 then some (102, .iload_n 3, 1, [3], 0) else some (103, .goto 7, 3, [61], 0)) else (bif Nat.blt k 59 then some (106, .bipush 10, 2, [], nI 10) else some (108, .iload_n 3, 1, [3], 0))) else (bif Nat.blt k 62 then (bif Nat.blt k 61 then some (109, .isub, 1, [], 0) else some (110, .imul, 1, [], 0)) else (bif Nat.blt k 63 then some (111, .istore 8, 2, [8], 0) else some (113, .iload 9, 2, [9], 0))))))) else (bif Nat.blt k 96 then (bif Nat.blt k 80 then (bif Nat.blt k 72 then (bif Nat.blt k 68 then (bif Nat.blt k 66 then (bif Nat.blt k 65 then some (115, .iload 7, 2, [7], 0) else some (117, .iload 10, 2, [10], 0)) else (bif Nat.blt k 67 then some (119, .ishr, 1, [], 0) else some (120, .iconst 1, 1, [], nI 1))) else (bif Nat.blt k 70 then (bif Nat.blt k 69 then some (121, .iand, 1, [], 0) else some (122, .iadd, 1, [], 0)) else (bif Nat.blt k 71 then some (123, .istore 9, 2, [9], 0) else some (125, .iinc 10 1, 3, [10], nI 1)))) else (bif Nat.blt k 76 then (bif Nat.blt k 74 then (bif Nat.blt k 73 then some (128, .goto (-44), 3, [48], 0) else some (131, .iload 5, 2, [5], 0)) else (bif Nat.blt k 75 then some (133, .aload_n 0, 1, [0], 0) else some (134, .getfield 7, 3, [8, 1, 2], 0))) else (bif Nat.blt k 78 then (bif Nat.blt k 77 then some (137, .aload_n 0, 1, [0], 0) else some (138, .getfield 49, 3, [8, 33, 2], 0)) else (bif Nat.blt k 79 then some (141, .iload_n 2, 1, [2], 0) else some (142, .iaload, 1, [], 0))))) else (bif Nat.blt k 88 then (bif Nat.blt k 84 then (bif Nat.blt k 82 then (bif Nat.blt k 81 then some (143, .iload 9, 2, [9], 0) else some (145, .iadd, 1, [], 0)) else (bif Nat.blt k 83 then some (146, .aload_n 0, 1, [0], 0) else some (147, .getfield 160, 3, [8, 0, 0], 0))) else (bif Nat.blt k 86 then (bif Nat.blt k 85 then some (150, .irem, 1, [], 0) else some (151, .iaload, 1, [], 0)) else (bif Nat.blt k 87 then some (152, .iload_n 1, 1, [1], 0) else some (153, .if_icmp .ne 8, 3, [90], 0)))) else (bif Nat.blt k 92 then (bif Nat.blt k 90 then (bif Nat.blt k 89 then some (156, .iload 8, 2, [8], 0) else some (158, .goto 4, 3, [91], 0)) else (bif Nat.blt k 91 then some (161, .iconst 0, 1, [], nI 0) else some (162, .iadd, 1, [], 0))) else (bif Nat.blt k 94 then (bif Nat.blt k 93 then some (163, .istore 5, 2, [5], 0) else some (165, .iinc 7 1, 3, [7], nI 1)) else (bif Nat.blt k 95 then some (168, .goto (-101), 3, [37], 0) else some (171, .iconst 0, 1, [], nI 0)))))) else (bif Nat.blt k 112 then (bif Nat.blt k 104 then (bif Nat.blt k 100 then (bif Nat.blt k 98 then (bif Nat.blt k 97 then some (172, .istore 7, 2, [7], 0) else some (174, .iload 7, 2, [7], 0)) else (bif Nat.blt k 99 then some (176, .iload_n 2, 1, [2], 0) else some (177, .if_icmp .ge 16, 3, [106], 0))) else (bif Nat.blt k 102 then (bif Nat.blt k 101 then some (180, .iload 6, 2, [6], 0) else some (182, .bipush 10, 2, [], nI 10)) else (bif Nat.blt k 103 then some (184, .imul, 1, [], 0) else some (185, .istore 6, 2, [6], 0)))) else (bif Nat.blt k 108 then (bif Nat.blt k 106 then (bif Nat.blt k 105 then some (187, .iinc 7 1, 3, [7], nI 1) else some (190, .goto (-16), 3, [97], 0)) else (bif Nat.blt k 107 then some (193, .iload 5, 2, [5], 0) else some (195, .istore 7, 2, [7], 0))) else (bif Nat.blt k 110 then (bif Nat.blt k 109 then some (197, .iload 6, 2, [6], 0) else some (199, .istore 8, 2, [8], 0)) else (bif Nat.blt k 111 then some (201, .iload 8, 2, [8], 0) else some (203, .ifCond .le 21, 3, [121], 0))))) else (bif Nat.blt k 120 then (bif Nat.blt k 116 then (bif Nat.blt k 114 then (bif Nat.blt k 113 then some (206, .iload 7, 2, [7], 0) else some (208, .iload 8, 2, [8], 0)) else (bif Nat.blt k 115 then some (210, .irem, 1, [], 0) else some (211, .istore 9, 2, [9], 0))) else (bif Nat.blt k 118 then (bif Nat.blt k 117 then some (213, .iload 8, 2, [8], 0) else some (215, .istore 7, 2, [7], 0)) else (bif Nat.blt k 119 then some (217, .iload 9, 2, [9], 0) else some (219, .istore 8, 2, [8], 0)))) else (bif Nat.blt k 124 then (bif Nat.blt k 122 then (bif Nat.blt k 121 then some (221, .goto (-20), 3, [110], 0) else some (224, .iload 4, 2, [4], 0)) else (bif Nat.blt k 123 then some (226, .ifCond .ne 8, 3, [125], 0) else some (229, .iload 5, 2, [5], 0))) else (bif Nat.blt k 126 then (bif Nat.blt k 125 then some (231, .goto 5, 3, [126], 0) else some (234, .iload 6, 2, [6], 0)) else (bif Nat.blt k 127 then some (236, .iload 7, 2, [7], 0) else (bif Nat.blt k 128 then some (238, .idiv, 1, [], 0) else some (239, .ireturn, 1, [], 0)))))))))
/-- 156: OracleWheelModel.year(III)I -/
def m_t156 (k : Nat) : Option ME := (bif Nat.blt k 59 then (bif Nat.blt k 29 then (bif Nat.blt k 14 then (bif Nat.blt k 7 then (bif Nat.blt k 3 then (bif Nat.blt k 1 then some (0, .iload_n 1, 1, [1], 0) else (bif Nat.blt k 2 then some (1, .iconst 0, 1, [], nI 0) else some (2, .sipush 9999, 3, [], nI 9999))) else (bif Nat.blt k 5 then (bif Nat.blt k 4 then some (5, .invokestatic 100, 3, [100, 3], 0) else some (8, .ifCond .eq 22, 3, [15], 0)) else (bif Nat.blt k 6 then some (11, .iload_n 2, 1, [2], 0) else some (12, .iconst 1, 1, [], nI 1)))) else (bif Nat.blt k 10 then (bif Nat.blt k 8 then some (13, .bipush 60, 2, [], nI 60) else (bif Nat.blt k 9 then some (15, .invokestatic 100, 3, [100, 3], 0) else some (18, .ifCond .eq 12, 3, [15], 0))) else (bif Nat.blt k 12 then (bif Nat.blt k 11 then some (21, .iload_n 3, 1, [3], 0) else some (22, .iconst 0, 1, [], nI 0)) else (bif Nat.blt k 13 then some (23, .iconst 1, 1, [], nI 1) else some (24, .invokestatic 100, 3, [100, 3], 0))))) else (bif Nat.blt k 21 then (bif Nat.blt k 17 then (bif Nat.blt k 15 then some (27, .ifCond .ne 5, 3, [17], 0) else (bif Nat.blt k 16 then some (30, .iconst (-1), 1, [], (-1)) else some (31, .ireturn, 1, [], 0))) else (bif Nat.blt k 19 then (bif Nat.blt k 18 then some (32, .aload_n 0, 1, [0], 0) else some (33, .getfield 55, 3, [8, 35, 2], 0)) else (bif Nat.blt k 20 then some (36, .iconst 0, 1, [], nI 0) else some (37, .aload_n 0, 1, [0], 0)))) else (bif Nat.blt k 25 then (bif Nat.blt k 23 then (bif Nat.blt k 22 then some (38, .getfield 19, 3, [8, 10, 2], 0) else some (41, .iconst 0, 1, [], nI 0)) else (bif Nat.blt k 24 then some (42, .bipush 12, 2, [], nI 12) else some (44, .invokestatic 163, 3, [121, 5], 0))) else (bif Nat.blt k 27 then (bif Nat.blt k 26 then some (47, .iconst 0, 1, [], nI 0) else some (48, .istore 4, 2, [4], 0)) else (bif Nat.blt k 28 then some (50, .iconst 0, 1, [], nI 0) else some (51, .istore 5, 2, [5], 0)))))) else (bif Nat.blt k 44 then (bif Nat.blt k 36 then (bif Nat.blt k 32 then (bif Nat.blt k 30 then some (53, .iload 5, 2, [5], 0) else (bif Nat.blt k 31 then some (55, .iload_n 2, 1, [2], 0) else some (56, .if_icmp .ge 130, 3, [101], 0))) else (bif Nat.blt k 34 then (bif Nat.blt k 33 then some (59, .ldc2_w 239, 3, [7919], 0) else some (62, .iload_n 1, 1, [1], 0)) else (bif Nat.blt k 35 then some (63, .i2l, 1, [], 0) else some (64, .lmul, 1, [], 0)))) else (bif Nat.blt k 40 then (bif Nat.blt k 38 then (bif Nat.blt k 37 then some (65, .ldc2_w 241, 3, [6151], 0) else some (68, .iload 5, 2, [5], 0)) else (bif Nat.blt k 39 then some (70, .i2l, 1, [], 0) else some (71, .lmul, 1, [], 0))) else (bif Nat.blt k 42 then (bif Nat.blt k 41 then some (72, .ladd, 1, [], 0) else some (73, .lconst 1, 1, [1], 0)) else (bif Nat.blt k 43 then some (74, .ladd, 1, [], 0) else some (75, .lstore 6, 2, [6], 0))))) else (bif Nat.blt k 51 then (bif Nat.blt k 47 then (bif Nat.blt k 45 then some (77, .lload 6, 2, [6], 0) else (bif Nat.blt k 46 then some (79, .lload 6, 2, [6], 0) else some (81, .lmul, 1, [], 0))) else (bif Nat.blt k 49 then (bif Nat.blt k 48 then some (82, .ldc2_w 243, 3, [65521], 0) else some (85, .lrem, 1, [], 0)) else (bif Nat.blt k 50 then some (86, .l2i, 1, [], 0) else some (87, .istore 8, 2, [8], 0)))) else (bif Nat.blt k 55 then (bif Nat.blt k 53 then (bif Nat.blt k 52 then some (89, .aload_n 0, 1, [0], 0) else some (90, .getfield 97, 3, [8, 6, 0], 0)) else (bif Nat.blt k 54 then some (93, .ifCond .le 25, 3, [67], 0) else some (96, .aload_n 0, 1, [0], 0))) else (bif Nat.blt k 57 then (bif Nat.blt k 56 then some (97, .iload 8, 2, [8], 0) else some (99, .aload_n 0, 1, [0], 0)) else (bif Nat.blt k 58 then some (100, .getfield 104, 3, [8, 8, 0], 0) else some (103, .irem, 1, [], 0))))))) else (bif Nat.blt k 88 then (bif Nat.blt k 73 then (bif Nat.blt k 66 then (bif Nat.blt k 62 then (bif Nat.blt k 60 then some (104, .iload 8, 2, [8], 0) else (bif Nat.blt k 61 then some (106, .iconst 4, 1, [], nI 4) else some (107, .idiv, 1, [], 0))) else (bif Nat.blt k 64 then (bif Nat.blt k 63 then some (108, .aload_n 0, 1, [0], 0) else some (109, .getfield 97, 3, [8, 6, 0], 0)) else (bif Nat.blt k 65 then some (112, .irem, 1, [], 0) else some (113, .invokevirtual 221, 3, [136, 3], 0)))) else (bif Nat.blt k 69 then (bif Nat.blt k 67 then some (116, .istore 9, 2, [9], 0) else (bif Nat.blt k 68 then some (118, .aload_n 0, 1, [0], 0) else some (119, .invokevirtual 211, 3, [132, 1], 0))) else (bif Nat.blt k 71 then (bif Nat.blt k 70 then some (122, .iconst 0, 1, [], nI 0) else some (123, .istore 9, 2, [9], 0)) else (bif Nat.blt k 72 then some (125, .iload 9, 2, [9], 0) else some (127, .aload_n 0, 1, [0], 0))))) else (bif Nat.blt k 80 then (bif Nat.blt k 76 then (bif Nat.blt k 74 then some (128, .getfield 104, 3, [8, 8, 0], 0) else (bif Nat.blt k 75 then some (131, .if_icmp .ge 49, 3, [99], 0) else some (134, .iload 4, 2, [4], 0))) else (bif Nat.blt k 78 then (bif Nat.blt k 77 then some (136, .aload_n 0, 1, [0], 0) else some (137, .iload 9, 2, [9], 0)) else (bif Nat.blt k 79 then some (139, .invokevirtual 205, 3, [129, 2], 0) else some (142, .ifCond .eq 28, 3, [94], 0)))) else (bif Nat.blt k 84 then (bif Nat.blt k 82 then (bif Nat.blt k 81 then some (145, .aload_n 0, 1, [0], 0) else some (146, .getfield 7, 3, [8, 1, 2], 0)) else (bif Nat.blt k 83 then some (149, .aload_n 0, 1, [0], 0) else some (150, .getfield 19, 3, [8, 10, 2], 0))) else (bif Nat.blt k 86 then (bif Nat.blt k 85 then some (153, .iconst 1, 1, [], nI 1) else some (154, .iaload, 1, [], 0)) else (bif Nat.blt k 87 then some (155, .iaload, 1, [], 0) else some (156, .aload_n 0, 1, [0], 0)))))) else (bif Nat.blt k 103 then (bif Nat.blt k 95 then (bif Nat.blt k 91 then (bif Nat.blt k 89 then some (157, .getfield 16, 3, [8, 9, 2], 0) else (bif Nat.blt k 90 then some (160, .iload 9, 2, [9], 0) else some (162, .iaload, 1, [], 0))) else (bif Nat.blt k 93 then (bif Nat.blt k 92 then some (163, .if_icmp .ne 7, 3, [94], 0) else some (166, .iconst 1, 1, [], nI 1)) else (bif Nat.blt k 94 then some (167, .goto 4, 3, [95], 0) else some (170, .iconst 0, 1, [], nI 0)))) else (bif Nat.blt k 99 then (bif Nat.blt k 97 then (bif Nat.blt k 96 then some (171, .iadd, 1, [], 0) else some (172, .istore 4, 2, [4], 0)) else (bif Nat.blt k 98 then some (174, .iinc 9 1, 3, [9], nI 1) else some (177, .goto (-52), 3, [71], 0))) else (bif Nat.blt k 101 then (bif Nat.blt k 100 then some (180, .iinc 5 1, 3, [5], nI 1) else some (183, .goto (-130), 3, [29], 0)) else (bif Nat.blt k 102 then some (186, .aload_n 0, 1, [0], 0) else some (187, .invokevirtual 245, 3, [157, 1], 0))))) else (bif Nat.blt k 110 then (bif Nat.blt k 106 then (bif Nat.blt k 104 then some (190, .istore 5, 2, [5], 0) else (bif Nat.blt k 105 then some (192, .aload_n 0, 1, [0], 0) else some (193, .getfield 19, 3, [8, 10, 2], 0))) else (bif Nat.blt k 108 then (bif Nat.blt k 107 then some (196, .iconst 0, 1, [], nI 0) else some (197, .aload_n 0, 1, [0], 0)) else (bif Nat.blt k 109 then some (198, .getfield 55, 3, [8, 35, 2], 0) else some (201, .iconst 0, 1, [], nI 0)))) else (bif Nat.blt k 114 then (bif Nat.blt k 112 then (bif Nat.blt k 111 then some (202, .bipush 12, 2, [], nI 12) else some (204, .invokestatic 163, 3, [121, 5], 0)) else (bif Nat.blt k 113 then some (207, .iload_n 3, 1, [3], 0) else some (208, .ifCond .ne 8, 3, [116], 0))) else (bif Nat.blt k 116 then (bif Nat.blt k 115 then some (211, .iload 5, 2, [5], 0) else some (213, .goto 5, 3, [117], 0)) else (bif Nat.blt k 117 then some (216, .iload 4, 2, [4], 0) else some (218, .ireturn, 1, [], 0))))))))
/-- 157: OracleWheelModel.onTop()I -/
def m_t157 (k : Nat) : Option ME := (bif Nat.blt k 11 then (bif Nat.blt k 5 then (bif Nat.blt k 2 then (bif Nat.blt k 1 then some (0, .iconst 0, 1, [], nI 0) else some (1, .istore_n 1, 1, [1], 0)) else (bif Nat.blt k 3 then some (2, .iconst 0, 1, [], nI 0) else (bif Nat.blt k 4 then some (3, .istore_n 2, 1, [2], 0) else some (4, .iload_n 2, 1, [2], 0)))) else (bif Nat.blt k 8 then (bif Nat.blt k 6 then some (5, .aload_n 0, 1, [0], 0) else (bif Nat.blt k 7 then some (6, .getfield 104, 3, [8, 8, 0], 0) else some (9, .if_icmp .ge 25, 3, [20], 0))) else (bif Nat.blt k 9 then some (12, .iload_n 1, 1, [1], 0) else (bif Nat.blt k 10 then some (13, .aload_n 0, 1, [0], 0) else some (14, .iload_n 2, 1, [2], 0))))) else (bif Nat.blt k 16 then (bif Nat.blt k 13 then (bif Nat.blt k 12 then some (15, .invokevirtual 205, 3, [129, 2], 0) else some (18, .ifCond .eq 7, 3, [15], 0)) else (bif Nat.blt k 14 then some (21, .iconst 1, 1, [], nI 1) else (bif Nat.blt k 15 then some (22, .goto 4, 3, [16], 0) else some (25, .iconst 0, 1, [], nI 0)))) else (bif Nat.blt k 19 then (bif Nat.blt k 17 then some (26, .iadd, 1, [], 0) else (bif Nat.blt k 18 then some (27, .istore_n 1, 1, [1], 0) else some (28, .iinc 2 1, 3, [2], nI 1))) else (bif Nat.blt k 20 then some (31, .goto (-27), 3, [4], 0) else (bif Nat.blt k 21 then some (34, .iload_n 1, 1, [1], 0) else some (35, .ireturn, 1, [], 0))))))
/-- 158: OracleWheelModel.keep()I -/
def m_t158 (k : Nat) : Option ME := (bif Nat.blt k 13 then (bif Nat.blt k 6 then (bif Nat.blt k 3 then (bif Nat.blt k 1 then some (0, .aload_n 0, 1, [0], 0) else (bif Nat.blt k 2 then some (1, .getfield 179, 3, [8, 13, 0], 0) else some (4, .iconst 2, 1, [], nI 2))) else (bif Nat.blt k 4 then some (5, .if_icmp .ne 6, 3, [6], 0) else (bif Nat.blt k 5 then some (8, .bipush (-3), 2, [], (-3)) else some (10, .ireturn, 1, [], 0)))) else (bif Nat.blt k 9 then (bif Nat.blt k 7 then some (11, .aload_n 0, 1, [0], 0) else (bif Nat.blt k 8 then some (12, .getfield 25, 3, [8, 14, 2], 0) else some (15, .bipush 12, 2, [], nI 12))) else (bif Nat.blt k 11 then (bif Nat.blt k 10 then some (17, .aload_n 0, 1, [0], 0) else some (18, .getfield 179, 3, [8, 13, 0], 0)) else (bif Nat.blt k 12 then some (21, .imul, 1, [], 0) else some (22, .aload_n 0, 1, [0], 0))))) else (bif Nat.blt k 19 then (bif Nat.blt k 16 then (bif Nat.blt k 14 then some (23, .getfield 19, 3, [8, 10, 2], 0) else (bif Nat.blt k 15 then some (26, .iconst 0, 1, [], nI 0) else some (27, .bipush 12, 2, [], nI 12))) else (bif Nat.blt k 17 then some (29, .invokestatic 163, 3, [121, 5], 0) else (bif Nat.blt k 18 then some (32, .aload_n 0, 1, [0], 0) else some (33, .dup, 1, [], 0)))) else (bif Nat.blt k 22 then (bif Nat.blt k 20 then some (34, .getfield 179, 3, [8, 13, 0], 0) else (bif Nat.blt k 21 then some (37, .iconst 1, 1, [], nI 1) else some (38, .iadd, 1, [], 0))) else (bif Nat.blt k 24 then (bif Nat.blt k 23 then some (39, .putfield 179, 3, [8, 13, 0], 0) else some (42, .aload_n 0, 1, [0], 0)) else (bif Nat.blt k 25 then some (43, .getfield 179, 3, [8, 13, 0], 0) else some (46, .ireturn, 1, [], 0))))))
/-- 159: OracleWheelModel.back()I -/
def m_t159 (k : Nat) : Option ME := (bif Nat.blt k 14 then (bif Nat.blt k 7 then (bif Nat.blt k 3 then (bif Nat.blt k 1 then some (0, .aload_n 0, 1, [0], 0) else (bif Nat.blt k 2 then some (1, .getfield 179, 3, [8, 13, 0], 0) else some (4, .ifCond .ne 6, 3, [5], 0))) else (bif Nat.blt k 5 then (bif Nat.blt k 4 then some (7, .bipush (-2), 2, [], (-2)) else some (9, .ireturn, 1, [], 0)) else (bif Nat.blt k 6 then some (10, .aload_n 0, 1, [0], 0) else some (11, .dup, 1, [], 0)))) else (bif Nat.blt k 10 then (bif Nat.blt k 8 then some (12, .getfield 179, 3, [8, 13, 0], 0) else (bif Nat.blt k 9 then some (15, .iconst 1, 1, [], nI 1) else some (16, .isub, 1, [], 0))) else (bif Nat.blt k 12 then (bif Nat.blt k 11 then some (17, .putfield 179, 3, [8, 13, 0], 0) else some (20, .aload_n 0, 1, [0], 0)) else (bif Nat.blt k 13 then some (21, .getfield 19, 3, [8, 10, 2], 0) else some (24, .iconst 0, 1, [], nI 0))))) else (bif Nat.blt k 21 then (bif Nat.blt k 17 then (bif Nat.blt k 15 then some (25, .aload_n 0, 1, [0], 0) else (bif Nat.blt k 16 then some (26, .getfield 25, 3, [8, 14, 2], 0) else some (29, .bipush 12, 2, [], nI 12))) else (bif Nat.blt k 19 then (bif Nat.blt k 18 then some (31, .aload_n 0, 1, [0], 0) else some (32, .getfield 179, 3, [8, 13, 0], 0)) else (bif Nat.blt k 20 then some (35, .imul, 1, [], 0) else some (36, .bipush 12, 2, [], nI 12)))) else (bif Nat.blt k 24 then (bif Nat.blt k 22 then some (38, .invokestatic 163, 3, [121, 5], 0) else (bif Nat.blt k 23 then some (41, .aload_n 0, 1, [0], 0) else some (42, .iconst 0, 1, [], nI 0))) else (bif Nat.blt k 26 then (bif Nat.blt k 25 then some (43, .putfield 176, 3, [8, 11, 0], 0) else some (46, .aload_n 0, 1, [0], 0)) else (bif Nat.blt k 27 then some (47, .getfield 179, 3, [8, 13, 0], 0) else some (50, .ireturn, 1, [], 0))))))
/-- 160: OracleWheelModel.count(I)I -/
def m_t160 (k : Nat) : Option ME := (bif Nat.blt k 20 then (bif Nat.blt k 10 then (bif Nat.blt k 5 then (bif Nat.blt k 2 then (bif Nat.blt k 1 then some (0, .iload_n 1, 1, [1], 0) else some (1, .tableswitch 118 0 10 #[59, 64, 69, 74, 79, 86, 93, 98, 103, 108, 113], 59, [39, 0, 2, 1, 5, 2, 8, 3, 11, 4, 14, 5, 19, 6, 24, 7, 27, 8, 30, 9, 33, 10, 36], 0)) else (bif Nat.blt k 3 then some (60, .aload_n 0, 1, [0], 0) else (bif Nat.blt k 4 then some (61, .getfield 157, 3, [8, 5, 0], 0) else some (64, .ireturn, 1, [], 0)))) else (bif Nat.blt k 7 then (bif Nat.blt k 6 then some (65, .aload_n 0, 1, [0], 0) else some (66, .getfield 97, 3, [8, 6, 0], 0)) else (bif Nat.blt k 8 then some (69, .ireturn, 1, [], 0) else (bif Nat.blt k 9 then some (70, .aload_n 0, 1, [0], 0) else some (71, .getfield 104, 3, [8, 8, 0], 0))))) else (bif Nat.blt k 15 then (bif Nat.blt k 12 then (bif Nat.blt k 11 then some (74, .ireturn, 1, [], 0) else some (75, .aload_n 0, 1, [0], 0)) else (bif Nat.blt k 13 then some (76, .getfield 160, 3, [8, 0, 0], 0) else (bif Nat.blt k 14 then some (79, .ireturn, 1, [], 0) else some (80, .aload_n 0, 1, [0], 0)))) else (bif Nat.blt k 17 then (bif Nat.blt k 16 then some (81, .getfield 19, 3, [8, 10, 2], 0) else some (84, .iconst 0, 1, [], nI 0)) else (bif Nat.blt k 18 then some (85, .iaload, 1, [], 0) else (bif Nat.blt k 19 then some (86, .ireturn, 1, [], 0) else some (87, .aload_n 0, 1, [0], 0)))))) else (bif Nat.blt k 30 then (bif Nat.blt k 25 then (bif Nat.blt k 22 then (bif Nat.blt k 21 then some (88, .getfield 19, 3, [8, 10, 2], 0) else some (91, .iconst 2, 1, [], nI 2)) else (bif Nat.blt k 23 then some (92, .iaload, 1, [], 0) else (bif Nat.blt k 24 then some (93, .ireturn, 1, [], 0) else some (94, .aload_n 0, 1, [0], 0)))) else (bif Nat.blt k 27 then (bif Nat.blt k 26 then some (95, .invokevirtual 245, 3, [157, 1], 0) else some (98, .ireturn, 1, [], 0)) else (bif Nat.blt k 28 then some (99, .aload_n 0, 1, [0], 0) else (bif Nat.blt k 29 then some (100, .getfield 182, 3, [8, 15, 0], 0) else some (103, .ireturn, 1, [], 0))))) else (bif Nat.blt k 35 then (bif Nat.blt k 32 then (bif Nat.blt k 31 then some (104, .aload_n 0, 1, [0], 0) else some (105, .getfield 176, 3, [8, 11, 0], 0)) else (bif Nat.blt k 33 then some (108, .ireturn, 1, [], 0) else (bif Nat.blt k 34 then some (109, .aload_n 0, 1, [0], 0) else some (110, .getfield 179, 3, [8, 13, 0], 0)))) else (bif Nat.blt k 38 then (bif Nat.blt k 36 then some (113, .ireturn, 1, [], 0) else (bif Nat.blt k 37 then some (114, .aload_n 0, 1, [0], 0) else some (115, .getfield 107, 3, [8, 18, 0], 0))) else (bif Nat.blt k 39 then some (118, .ireturn, 1, [], 0) else (bif Nat.blt k 40 then some (119, .iconst (-1), 1, [], (-1)) else some (120, .ireturn, 1, [], 0)))))))
/-- 161: java/lang/Math.floorMod(II)I -/
def m_t161 (k : Nat) : Option ME := (bif Nat.blt k 8 then (bif Nat.blt k 4 then (bif Nat.blt k 2 then (bif Nat.blt k 1 then some (0, .iload_n 0, 1, [0], 0) else some (1, .iload_n 1, 1, [1], 0)) else (bif Nat.blt k 3 then some (2, .irem, 1, [], 0) else some (3, .istore_n 2, 1, [2], 0))) else (bif Nat.blt k 6 then (bif Nat.blt k 5 then some (4, .iload_n 0, 1, [0], 0) else some (5, .iload_n 1, 1, [1], 0)) else (bif Nat.blt k 7 then some (6, .ixor, 1, [], 0) else some (7, .ifCond .ge 11, 3, [14], 0)))) else (bif Nat.blt k 12 then (bif Nat.blt k 10 then (bif Nat.blt k 9 then some (10, .iload_n 2, 1, [2], 0) else some (11, .ifCond .eq 7, 3, [14], 0)) else (bif Nat.blt k 11 then some (14, .iload_n 2, 1, [2], 0) else some (15, .iload_n 1, 1, [1], 0))) else (bif Nat.blt k 14 then (bif Nat.blt k 13 then some (16, .iadd, 1, [], 0) else some (17, .ireturn, 1, [], 0)) else (bif Nat.blt k 15 then some (18, .iload_n 2, 1, [2], 0) else some (19, .ireturn, 1, [], 0)))))
/-- 162: java/lang/Math.max(II)I -/
def m_t162 (k : Nat) : Option ME := (bif Nat.blt k 3 then (bif Nat.blt k 1 then some (0, .iload_n 0, 1, [0], 0) else (bif Nat.blt k 2 then some (1, .iload_n 1, 1, [1], 0) else some (2, .if_icmp .lt 7, 3, [5], 0))) else (bif Nat.blt k 5 then (bif Nat.blt k 4 then some (5, .iload_n 0, 1, [0], 0) else some (6, .goto 4, 3, [6], 0)) else (bif Nat.blt k 6 then some (9, .iload_n 1, 1, [1], 0) else some (10, .ireturn, 1, [], 0))))
/-- 163: java/lang/Math.min(II)I -/
def m_t163 (k : Nat) : Option ME := (bif Nat.blt k 3 then (bif Nat.blt k 1 then some (0, .iload_n 0, 1, [0], 0) else (bif Nat.blt k 2 then some (1, .iload_n 1, 1, [1], 0) else some (2, .if_icmp .gt 7, 3, [5], 0))) else (bif Nat.blt k 5 then (bif Nat.blt k 4 then some (5, .iload_n 0, 1, [0], 0) else some (6, .goto 4, 3, [6], 0)) else (bif Nat.blt k 6 then some (9, .iload_n 1, 1, [1], 0) else some (10, .ireturn, 1, [], 0))))
def m_tree (y : Nat) : Nat → Option ME := (bif Nat.blt y 82 then (bif Nat.blt y 41 then (bif Nat.blt y 20 then (bif Nat.blt y 10 then (bif Nat.blt y 5 then (bif Nat.blt y 2 then (bif Nat.blt y 1 then m_t0 else m_t1) else (bif Nat.blt y 3 then m_t2 else (bif Nat.blt y 4 then m_t3 else m_t4))) else (bif Nat.blt y 7 then (bif Nat.blt y 6 then m_t5 else m_t6) else (bif Nat.blt y 8 then m_t7 else (bif Nat.blt y 9 then m_t8 else m_t9)))) else (bif Nat.blt y 15 then (bif Nat.blt y 12 then (bif Nat.blt y 11 then m_t10 else m_t11) else (bif Nat.blt y 13 then m_t12 else (bif Nat.blt y 14 then m_t13 else m_t14))) else (bif Nat.blt y 17 then (bif Nat.blt y 16 then m_t15 else m_t16) else (bif Nat.blt y 18 then m_t17 else (bif Nat.blt y 19 then m_t18 else m_t19))))) else (bif Nat.blt y 30 then (bif Nat.blt y 25 then (bif Nat.blt y 22 then (bif Nat.blt y 21 then m_t20 else m_t21) else (bif Nat.blt y 23 then m_t22 else (bif Nat.blt y 24 then m_t23 else m_t24))) else (bif Nat.blt y 27 then (bif Nat.blt y 26 then m_t25 else m_t26) else (bif Nat.blt y 28 then m_t27 else (bif Nat.blt y 29 then m_t28 else m_t29)))) else (bif Nat.blt y 35 then (bif Nat.blt y 32 then (bif Nat.blt y 31 then m_t30 else m_t31) else (bif Nat.blt y 33 then m_t32 else (bif Nat.blt y 34 then m_t33 else m_t34))) else (bif Nat.blt y 38 then (bif Nat.blt y 36 then m_t35 else (bif Nat.blt y 37 then m_t36 else m_t37)) else (bif Nat.blt y 39 then m_t38 else (bif Nat.blt y 40 then m_t39 else m_t40)))))) else (bif Nat.blt y 61 then (bif Nat.blt y 51 then (bif Nat.blt y 46 then (bif Nat.blt y 43 then (bif Nat.blt y 42 then m_t41 else m_t42) else (bif Nat.blt y 44 then m_t43 else (bif Nat.blt y 45 then m_t44 else m_t45))) else (bif Nat.blt y 48 then (bif Nat.blt y 47 then m_t46 else m_t47) else (bif Nat.blt y 49 then m_t48 else (bif Nat.blt y 50 then m_t49 else m_t50)))) else (bif Nat.blt y 56 then (bif Nat.blt y 53 then (bif Nat.blt y 52 then m_t51 else m_t52) else (bif Nat.blt y 54 then m_t53 else (bif Nat.blt y 55 then m_t54 else m_t55))) else (bif Nat.blt y 58 then (bif Nat.blt y 57 then m_t56 else m_t57) else (bif Nat.blt y 59 then m_t58 else (bif Nat.blt y 60 then m_t59 else m_t60))))) else (bif Nat.blt y 71 then (bif Nat.blt y 66 then (bif Nat.blt y 63 then (bif Nat.blt y 62 then m_t61 else m_t62) else (bif Nat.blt y 64 then m_t63 else (bif Nat.blt y 65 then m_t64 else m_t65))) else (bif Nat.blt y 68 then (bif Nat.blt y 67 then m_t66 else m_t67) else (bif Nat.blt y 69 then m_t68 else (bif Nat.blt y 70 then m_t69 else m_t70)))) else (bif Nat.blt y 76 then (bif Nat.blt y 73 then (bif Nat.blt y 72 then m_t71 else m_t72) else (bif Nat.blt y 74 then m_t73 else (bif Nat.blt y 75 then m_t74 else m_t75))) else (bif Nat.blt y 79 then (bif Nat.blt y 77 then m_t76 else (bif Nat.blt y 78 then m_t77 else m_t78)) else (bif Nat.blt y 80 then m_t79 else (bif Nat.blt y 81 then m_t80 else m_t81))))))) else (bif Nat.blt y 123 then (bif Nat.blt y 102 then (bif Nat.blt y 92 then (bif Nat.blt y 87 then (bif Nat.blt y 84 then (bif Nat.blt y 83 then m_t82 else m_t83) else (bif Nat.blt y 85 then m_t84 else (bif Nat.blt y 86 then m_t85 else m_t86))) else (bif Nat.blt y 89 then (bif Nat.blt y 88 then m_t87 else m_t88) else (bif Nat.blt y 90 then m_t89 else (bif Nat.blt y 91 then m_t90 else m_t91)))) else (bif Nat.blt y 97 then (bif Nat.blt y 94 then (bif Nat.blt y 93 then m_t92 else m_t93) else (bif Nat.blt y 95 then m_t94 else (bif Nat.blt y 96 then m_t95 else m_t96))) else (bif Nat.blt y 99 then (bif Nat.blt y 98 then m_t97 else m_t98) else (bif Nat.blt y 100 then m_t99 else (bif Nat.blt y 101 then m_t100 else m_t101))))) else (bif Nat.blt y 112 then (bif Nat.blt y 107 then (bif Nat.blt y 104 then (bif Nat.blt y 103 then m_t102 else m_t103) else (bif Nat.blt y 105 then m_t104 else (bif Nat.blt y 106 then m_t105 else m_t106))) else (bif Nat.blt y 109 then (bif Nat.blt y 108 then m_t107 else m_t108) else (bif Nat.blt y 110 then m_t109 else (bif Nat.blt y 111 then m_t110 else m_t111)))) else (bif Nat.blt y 117 then (bif Nat.blt y 114 then (bif Nat.blt y 113 then m_t112 else m_t113) else (bif Nat.blt y 115 then m_t114 else (bif Nat.blt y 116 then m_t115 else m_t116))) else (bif Nat.blt y 120 then (bif Nat.blt y 118 then m_t117 else (bif Nat.blt y 119 then m_t118 else m_t119)) else (bif Nat.blt y 121 then m_t120 else (bif Nat.blt y 122 then m_t121 else m_t122)))))) else (bif Nat.blt y 143 then (bif Nat.blt y 133 then (bif Nat.blt y 128 then (bif Nat.blt y 125 then (bif Nat.blt y 124 then m_t123 else m_t124) else (bif Nat.blt y 126 then m_t125 else (bif Nat.blt y 127 then m_t126 else m_t127))) else (bif Nat.blt y 130 then (bif Nat.blt y 129 then m_t128 else m_t129) else (bif Nat.blt y 131 then m_t130 else (bif Nat.blt y 132 then m_t131 else m_t132)))) else (bif Nat.blt y 138 then (bif Nat.blt y 135 then (bif Nat.blt y 134 then m_t133 else m_t134) else (bif Nat.blt y 136 then m_t135 else (bif Nat.blt y 137 then m_t136 else m_t137))) else (bif Nat.blt y 140 then (bif Nat.blt y 139 then m_t138 else m_t139) else (bif Nat.blt y 141 then m_t140 else (bif Nat.blt y 142 then m_t141 else m_t142))))) else (bif Nat.blt y 153 then (bif Nat.blt y 148 then (bif Nat.blt y 145 then (bif Nat.blt y 144 then m_t143 else m_t144) else (bif Nat.blt y 146 then m_t145 else (bif Nat.blt y 147 then m_t146 else m_t147))) else (bif Nat.blt y 150 then (bif Nat.blt y 149 then m_t148 else m_t149) else (bif Nat.blt y 151 then m_t150 else (bif Nat.blt y 152 then m_t151 else m_t152)))) else (bif Nat.blt y 158 then (bif Nat.blt y 155 then (bif Nat.blt y 154 then m_t153 else m_t154) else (bif Nat.blt y 156 then m_t155 else (bif Nat.blt y 157 then m_t156 else m_t157))) else (bif Nat.blt y 161 then (bif Nat.blt y 159 then m_t158 else (bif Nat.blt y 160 then m_t159 else m_t160)) else (bif Nat.blt y 162 then m_t161 else (bif Nat.blt y 163 then m_t162 else m_t163))))))))
def m_len (y : Nat) : Nat := bif Nat.blt y 164 then (bif Nat.blt y 82 then (bif Nat.blt y 41 then (bif Nat.blt y 20 then (bif Nat.blt y 10 then (bif Nat.blt y 5 then (bif Nat.blt y 2 then (bif Nat.blt y 1 then 31 else 30) else (bif Nat.blt y 3 then 25 else (bif Nat.blt y 4 then 41 else 29))) else (bif Nat.blt y 7 then (bif Nat.blt y 6 then 10 else 13) else (bif Nat.blt y 8 then 13 else (bif Nat.blt y 9 then 18 else 11)))) else (bif Nat.blt y 15 then (bif Nat.blt y 12 then (bif Nat.blt y 11 then 30 else 52) else (bif Nat.blt y 13 then 11 else (bif Nat.blt y 14 then 33 else 40))) else (bif Nat.blt y 17 then (bif Nat.blt y 16 then 49 else 11) else (bif Nat.blt y 18 then 44 else (bif Nat.blt y 19 then 9 else 19))))) else (bif Nat.blt y 30 then (bif Nat.blt y 25 then (bif Nat.blt y 22 then (bif Nat.blt y 21 then 22 else 36) else (bif Nat.blt y 23 then 30 else (bif Nat.blt y 24 then 26 else 11))) else (bif Nat.blt y 27 then (bif Nat.blt y 26 then 21 else 20) else (bif Nat.blt y 28 then 14 else (bif Nat.blt y 29 then 21 else 20)))) else (bif Nat.blt y 35 then (bif Nat.blt y 32 then (bif Nat.blt y 31 then 23 else 21) else (bif Nat.blt y 33 then 36 else (bif Nat.blt y 34 then 44 else 5))) else (bif Nat.blt y 38 then (bif Nat.blt y 36 then 15 else (bif Nat.blt y 37 then 10 else 44)) else (bif Nat.blt y 39 then 24 else (bif Nat.blt y 40 then 39 else 52)))))) else (bif Nat.blt y 61 then (bif Nat.blt y 51 then (bif Nat.blt y 46 then (bif Nat.blt y 43 then (bif Nat.blt y 42 then 34 else 68) else (bif Nat.blt y 44 then 30 else (bif Nat.blt y 45 then 47 else 16))) else (bif Nat.blt y 48 then (bif Nat.blt y 47 then 17 else 16) else (bif Nat.blt y 49 then 25 else (bif Nat.blt y 50 then 4 else 44)))) else (bif Nat.blt y 56 then (bif Nat.blt y 53 then (bif Nat.blt y 52 then 40 else 11) else (bif Nat.blt y 54 then 29 else (bif Nat.blt y 55 then 31 else 7))) else (bif Nat.blt y 58 then (bif Nat.blt y 57 then 25 else 18) else (bif Nat.blt y 59 then 66 else (bif Nat.blt y 60 then 20 else 10))))) else (bif Nat.blt y 71 then (bif Nat.blt y 66 then (bif Nat.blt y 63 then (bif Nat.blt y 62 then 6 else 42) else (bif Nat.blt y 64 then 9 else (bif Nat.blt y 65 then 46 else 46))) else (bif Nat.blt y 68 then (bif Nat.blt y 67 then 26 else 39) else (bif Nat.blt y 69 then 34 else (bif Nat.blt y 70 then 17 else 15)))) else (bif Nat.blt y 76 then (bif Nat.blt y 73 then (bif Nat.blt y 72 then 14 else 30) else (bif Nat.blt y 74 then 13 else (bif Nat.blt y 75 then 20 else 46))) else (bif Nat.blt y 79 then (bif Nat.blt y 77 then 49 else (bif Nat.blt y 78 then 90 else 22)) else (bif Nat.blt y 80 then 10 else (bif Nat.blt y 81 then 52 else 57))))))) else (bif Nat.blt y 123 then (bif Nat.blt y 102 then (bif Nat.blt y 92 then (bif Nat.blt y 87 then (bif Nat.blt y 84 then (bif Nat.blt y 83 then 87 else 61) else (bif Nat.blt y 85 then 16 else (bif Nat.blt y 86 then 18 else 50))) else (bif Nat.blt y 89 then (bif Nat.blt y 88 then 31 else 9) else (bif Nat.blt y 90 then 36 else (bif Nat.blt y 91 then 23 else 18)))) else (bif Nat.blt y 97 then (bif Nat.blt y 94 then (bif Nat.blt y 93 then 74 else 19) else (bif Nat.blt y 95 then 19 else (bif Nat.blt y 96 then 29 else 139))) else (bif Nat.blt y 99 then (bif Nat.blt y 98 then 34 else 45) else (bif Nat.blt y 100 then 19 else (bif Nat.blt y 101 then 10 else 11))))) else (bif Nat.blt y 112 then (bif Nat.blt y 107 then (bif Nat.blt y 104 then (bif Nat.blt y 103 then 8 else 8) else (bif Nat.blt y 105 then 5 else (bif Nat.blt y 106 then 28 else 8))) else (bif Nat.blt y 109 then (bif Nat.blt y 108 then 11 else 5) else (bif Nat.blt y 110 then 83 else (bif Nat.blt y 111 then 8 else 35)))) else (bif Nat.blt y 117 then (bif Nat.blt y 114 then (bif Nat.blt y 113 then 12 else 52) else (bif Nat.blt y 115 then 44 else (bif Nat.blt y 116 then 30 else 72))) else (bif Nat.blt y 120 then (bif Nat.blt y 118 then 40 else (bif Nat.blt y 119 then 30 else 21)) else (bif Nat.blt y 121 then 14 else (bif Nat.blt y 122 then 18 else 92)))))) else (bif Nat.blt y 143 then (bif Nat.blt y 133 then (bif Nat.blt y 128 then (bif Nat.blt y 125 then (bif Nat.blt y 124 then 17 else 43) else (bif Nat.blt y 126 then 8 else (bif Nat.blt y 127 then 52 else 15))) else (bif Nat.blt y 130 then (bif Nat.blt y 129 then 39 else 18) else (bif Nat.blt y 131 then 43 else (bif Nat.blt y 132 then 45 else 77)))) else (bif Nat.blt y 138 then (bif Nat.blt y 135 then (bif Nat.blt y 134 then 26 else 24) else (bif Nat.blt y 136 then 20 else (bif Nat.blt y 137 then 58 else 49))) else (bif Nat.blt y 140 then (bif Nat.blt y 139 then 35 else 23) else (bif Nat.blt y 141 then 25 else (bif Nat.blt y 142 then 22 else 52))))) else (bif Nat.blt y 153 then (bif Nat.blt y 148 then (bif Nat.blt y 145 then (bif Nat.blt y 144 then 98 else 25) else (bif Nat.blt y 146 then 23 else (bif Nat.blt y 147 then 17 else 20))) else (bif Nat.blt y 150 then (bif Nat.blt y 149 then 67 else 49) else (bif Nat.blt y 151 then 83 else (bif Nat.blt y 152 then 43 else 8)))) else (bif Nat.blt y 158 then (bif Nat.blt y 155 then (bif Nat.blt y 154 then 90 else 57) else (bif Nat.blt y 156 then 129 else (bif Nat.blt y 157 then 118 else 22))) else (bif Nat.blt y 161 then (bif Nat.blt y 159 then 26 else (bif Nat.blt y 160 then 28 else 41)) else (bif Nat.blt y 162 then 16 else (bif Nat.blt y 163 then 7 else 7)))))))) else 0
def m_code (y k : Nat) : Option ME := bif Nat.blt k (m_len y) then m_tree y k else none
def m_maxL (y : Nat) : Nat := (bif Nat.blt y 82 then (bif Nat.blt y 41 then (bif Nat.blt y 20 then (bif Nat.blt y 10 then (bif Nat.blt y 5 then (bif Nat.blt y 2 then (bif Nat.blt y 1 then 1 else 1) else (bif Nat.blt y 3 then 2 else (bif Nat.blt y 4 then 5 else 3))) else (bif Nat.blt y 7 then (bif Nat.blt y 6 then 2 else 2) else (bif Nat.blt y 8 then 2 else (bif Nat.blt y 9 then 2 else 2)))) else (bif Nat.blt y 15 then (bif Nat.blt y 12 then (bif Nat.blt y 11 then 3 else 4) else (bif Nat.blt y 13 then 1 else (bif Nat.blt y 14 then 3 else 3))) else (bif Nat.blt y 17 then (bif Nat.blt y 16 then 8 else 3) else (bif Nat.blt y 18 then 4 else (bif Nat.blt y 19 then 2 else 2))))) else (bif Nat.blt y 30 then (bif Nat.blt y 25 then (bif Nat.blt y 22 then (bif Nat.blt y 21 then 4 else 5) else (bif Nat.blt y 23 then 4 else (bif Nat.blt y 24 then 5 else 1))) else (bif Nat.blt y 27 then (bif Nat.blt y 26 then 5 else 3) else (bif Nat.blt y 28 then 2 else (bif Nat.blt y 29 then 4 else 4)))) else (bif Nat.blt y 35 then (bif Nat.blt y 32 then (bif Nat.blt y 31 then 4 else 3) else (bif Nat.blt y 33 then 6 else (bif Nat.blt y 34 then 9 else 2))) else (bif Nat.blt y 38 then (bif Nat.blt y 36 then 2 else (bif Nat.blt y 37 then 2 else 5)) else (bif Nat.blt y 39 then 3 else (bif Nat.blt y 40 then 4 else 2)))))) else (bif Nat.blt y 61 then (bif Nat.blt y 51 then (bif Nat.blt y 46 then (bif Nat.blt y 43 then (bif Nat.blt y 42 then 2 else 2) else (bif Nat.blt y 44 then 2 else (bif Nat.blt y 45 then 3 else 2))) else (bif Nat.blt y 48 then (bif Nat.blt y 47 then 2 else 2) else (bif Nat.blt y 49 then 3 else (bif Nat.blt y 50 then 1 else 2)))) else (bif Nat.blt y 56 then (bif Nat.blt y 53 then (bif Nat.blt y 52 then 3 else 1) else (bif Nat.blt y 54 then 3 else (bif Nat.blt y 55 then 6 else 1))) else (bif Nat.blt y 58 then (bif Nat.blt y 57 then 2 else 2) else (bif Nat.blt y 59 then 3 else (bif Nat.blt y 60 then 2 else 2))))) else (bif Nat.blt y 71 then (bif Nat.blt y 66 then (bif Nat.blt y 63 then (bif Nat.blt y 62 then 1 else 2) else (bif Nat.blt y 64 then 2 else (bif Nat.blt y 65 then 3 else 3))) else (bif Nat.blt y 68 then (bif Nat.blt y 67 then 2 else 4) else (bif Nat.blt y 69 then 2 else (bif Nat.blt y 70 then 1 else 1)))) else (bif Nat.blt y 76 then (bif Nat.blt y 73 then (bif Nat.blt y 72 then 2 else 2) else (bif Nat.blt y 74 then 2 else (bif Nat.blt y 75 then 3 else 6))) else (bif Nat.blt y 79 then (bif Nat.blt y 77 then 4 else (bif Nat.blt y 78 then 4 else 3)) else (bif Nat.blt y 80 then 2 else (bif Nat.blt y 81 then 6 else 4))))))) else (bif Nat.blt y 123 then (bif Nat.blt y 102 then (bif Nat.blt y 92 then (bif Nat.blt y 87 then (bif Nat.blt y 84 then (bif Nat.blt y 83 then 9 else 6) else (bif Nat.blt y 85 then 1 else (bif Nat.blt y 86 then 1 else 2))) else (bif Nat.blt y 89 then (bif Nat.blt y 88 then 2 else 1) else (bif Nat.blt y 90 then 3 else (bif Nat.blt y 91 then 4 else 2)))) else (bif Nat.blt y 97 then (bif Nat.blt y 94 then (bif Nat.blt y 93 then 6 else 4) else (bif Nat.blt y 95 then 4 else (bif Nat.blt y 96 then 2 else 1))) else (bif Nat.blt y 99 then (bif Nat.blt y 98 then 1 else 5) else (bif Nat.blt y 100 then 3 else (bif Nat.blt y 101 then 3 else 2))))) else (bif Nat.blt y 112 then (bif Nat.blt y 107 then (bif Nat.blt y 104 then (bif Nat.blt y 103 then 2 else 2) else (bif Nat.blt y 105 then 1 else (bif Nat.blt y 106 then 2 else 2))) else (bif Nat.blt y 109 then (bif Nat.blt y 108 then 2 else 1) else (bif Nat.blt y 110 then 3 else (bif Nat.blt y 111 then 4 else 1)))) else (bif Nat.blt y 117 then (bif Nat.blt y 114 then (bif Nat.blt y 113 then 1 else 3) else (bif Nat.blt y 115 then 1 else (bif Nat.blt y 116 then 2 else 1))) else (bif Nat.blt y 120 then (bif Nat.blt y 118 then 1 else (bif Nat.blt y 119 then 2 else 2)) else (bif Nat.blt y 121 then 1 else (bif Nat.blt y 122 then 6 else 2)))))) else (bif Nat.blt y 143 then (bif Nat.blt y 133 then (bif Nat.blt y 128 then (bif Nat.blt y 125 then (bif Nat.blt y 124 then 5 else 6) else (bif Nat.blt y 126 then 2 else (bif Nat.blt y 127 then 5 else 2))) else (bif Nat.blt y 130 then (bif Nat.blt y 129 then 3 else 2) else (bif Nat.blt y 131 then 3 else (bif Nat.blt y 132 then 2 else 2)))) else (bif Nat.blt y 138 then (bif Nat.blt y 135 then (bif Nat.blt y 134 then 3 else 3) else (bif Nat.blt y 136 then 3 else (bif Nat.blt y 137 then 4 else 3))) else (bif Nat.blt y 140 then (bif Nat.blt y 139 then 2 else 1) else (bif Nat.blt y 141 then 1 else (bif Nat.blt y 142 then 2 else 4))))) else (bif Nat.blt y 153 then (bif Nat.blt y 148 then (bif Nat.blt y 145 then (bif Nat.blt y 144 then 7 else 3) else (bif Nat.blt y 146 then 3 else (bif Nat.blt y 147 then 2 else 3))) else (bif Nat.blt y 150 then (bif Nat.blt y 149 then 8 else 4) else (bif Nat.blt y 151 then 5 else (bif Nat.blt y 152 then 3 else 2)))) else (bif Nat.blt y 158 then (bif Nat.blt y 155 then (bif Nat.blt y 154 then 8 else 5) else (bif Nat.blt y 156 then 11 else (bif Nat.blt y 157 then 10 else 3))) else (bif Nat.blt y 161 then (bif Nat.blt y 159 then 1 else (bif Nat.blt y 160 then 1 else 2)) else (bif Nat.blt y 162 then 3 else (bif Nat.blt y 163 then 2 else 2))))))))
/-- what it answers: 0 int, 1 boolean, 2 char, 3 nothing, 4 a reference -/
def m_rt (y : Nat) : Nat := (bif Nat.blt y 82 then (bif Nat.blt y 41 then (bif Nat.blt y 20 then (bif Nat.blt y 10 then (bif Nat.blt y 5 then (bif Nat.blt y 2 then (bif Nat.blt y 1 then 3 else 3) else (bif Nat.blt y 3 then 1 else (bif Nat.blt y 4 then 1 else 1))) else (bif Nat.blt y 7 then (bif Nat.blt y 6 then 1 else 1) else (bif Nat.blt y 8 then 1 else (bif Nat.blt y 9 then 0 else 0)))) else (bif Nat.blt y 15 then (bif Nat.blt y 12 then (bif Nat.blt y 11 then 0 else 0) else (bif Nat.blt y 13 then 3 else (bif Nat.blt y 14 then 3 else 3))) else (bif Nat.blt y 17 then (bif Nat.blt y 16 then 0 else 0) else (bif Nat.blt y 18 then 3 else (bif Nat.blt y 19 then 3 else 1))))) else (bif Nat.blt y 30 then (bif Nat.blt y 25 then (bif Nat.blt y 22 then (bif Nat.blt y 21 then 0 else 0) else (bif Nat.blt y 23 then 0 else (bif Nat.blt y 24 then 3 else 3))) else (bif Nat.blt y 27 then (bif Nat.blt y 26 then 3 else 1) else (bif Nat.blt y 28 then 0 else (bif Nat.blt y 29 then 0 else 3)))) else (bif Nat.blt y 35 then (bif Nat.blt y 32 then (bif Nat.blt y 31 then 3 else 0) else (bif Nat.blt y 33 then 3 else (bif Nat.blt y 34 then 3 else 0))) else (bif Nat.blt y 38 then (bif Nat.blt y 36 then 0 else (bif Nat.blt y 37 then 3 else 0)) else (bif Nat.blt y 39 then 1 else (bif Nat.blt y 40 then 1 else 1)))))) else (bif Nat.blt y 61 then (bif Nat.blt y 51 then (bif Nat.blt y 46 then (bif Nat.blt y 43 then (bif Nat.blt y 42 then 1 else 1) else (bif Nat.blt y 44 then 1 else (bif Nat.blt y 45 then 1 else 0))) else (bif Nat.blt y 48 then (bif Nat.blt y 47 then 1 else 1) else (bif Nat.blt y 49 then 3 else (bif Nat.blt y 50 then 3 else 3)))) else (bif Nat.blt y 56 then (bif Nat.blt y 53 then (bif Nat.blt y 52 then 3 else 3) else (bif Nat.blt y 54 then 1 else (bif Nat.blt y 55 then 1 else 3))) else (bif Nat.blt y 58 then (bif Nat.blt y 57 then 1 else 2) else (bif Nat.blt y 59 then 3 else (bif Nat.blt y 60 then 0 else 0))))) else (bif Nat.blt y 71 then (bif Nat.blt y 66 then (bif Nat.blt y 63 then (bif Nat.blt y 62 then 0 else 0) else (bif Nat.blt y 64 then 0 else (bif Nat.blt y 65 then 0 else 0))) else (bif Nat.blt y 68 then (bif Nat.blt y 67 then 0 else 0) else (bif Nat.blt y 69 then 0 else (bif Nat.blt y 70 then 0 else 0)))) else (bif Nat.blt y 76 then (bif Nat.blt y 73 then (bif Nat.blt y 72 then 0 else 0) else (bif Nat.blt y 74 then 0 else (bif Nat.blt y 75 then 0 else 0))) else (bif Nat.blt y 79 then (bif Nat.blt y 77 then 0 else (bif Nat.blt y 78 then 0 else 0)) else (bif Nat.blt y 80 then 0 else (bif Nat.blt y 81 then 0 else 0))))))) else (bif Nat.blt y 123 then (bif Nat.blt y 102 then (bif Nat.blt y 92 then (bif Nat.blt y 87 then (bif Nat.blt y 84 then (bif Nat.blt y 83 then 0 else 0) else (bif Nat.blt y 85 then 0 else (bif Nat.blt y 86 then 0 else 0))) else (bif Nat.blt y 89 then (bif Nat.blt y 88 then 4 else 1) else (bif Nat.blt y 90 then 0 else (bif Nat.blt y 91 then 1 else 0)))) else (bif Nat.blt y 97 then (bif Nat.blt y 94 then (bif Nat.blt y 93 then 0 else 0) else (bif Nat.blt y 95 then 0 else (bif Nat.blt y 96 then 3 else 3))) else (bif Nat.blt y 99 then (bif Nat.blt y 98 then 3 else 3) else (bif Nat.blt y 100 then 3 else (bif Nat.blt y 101 then 1 else 1))))) else (bif Nat.blt y 112 then (bif Nat.blt y 107 then (bif Nat.blt y 104 then (bif Nat.blt y 103 then 1 else 1) else (bif Nat.blt y 105 then 1 else (bif Nat.blt y 106 then 0 else 0))) else (bif Nat.blt y 109 then (bif Nat.blt y 108 then 0 else 1) else (bif Nat.blt y 110 then 1 else (bif Nat.blt y 111 then 1 else 3)))) else (bif Nat.blt y 117 then (bif Nat.blt y 114 then (bif Nat.blt y 113 then 0 else 1) else (bif Nat.blt y 115 then 1 else (bif Nat.blt y 116 then 1 else 1))) else (bif Nat.blt y 120 then (bif Nat.blt y 118 then 1 else (bif Nat.blt y 119 then 1 else 0)) else (bif Nat.blt y 121 then 0 else (bif Nat.blt y 122 then 3 else 3)))))) else (bif Nat.blt y 143 then (bif Nat.blt y 133 then (bif Nat.blt y 128 then (bif Nat.blt y 125 then (bif Nat.blt y 124 then 0 else 3) else (bif Nat.blt y 126 then 0 else (bif Nat.blt y 127 then 0 else 0))) else (bif Nat.blt y 130 then (bif Nat.blt y 129 then 0 else 1) else (bif Nat.blt y 131 then 0 else (bif Nat.blt y 132 then 3 else 3)))) else (bif Nat.blt y 138 then (bif Nat.blt y 135 then (bif Nat.blt y 134 then 0 else 1) else (bif Nat.blt y 136 then 0 else (bif Nat.blt y 137 then 0 else 0))) else (bif Nat.blt y 140 then (bif Nat.blt y 139 then 0 else 0) else (bif Nat.blt y 141 then 0 else (bif Nat.blt y 142 then 0 else 0))))) else (bif Nat.blt y 153 then (bif Nat.blt y 148 then (bif Nat.blt y 145 then (bif Nat.blt y 144 then 3 else 0) else (bif Nat.blt y 146 then 3 else (bif Nat.blt y 147 then 0 else 0))) else (bif Nat.blt y 150 then (bif Nat.blt y 149 then 0 else 0) else (bif Nat.blt y 151 then 0 else (bif Nat.blt y 152 then 0 else 0)))) else (bif Nat.blt y 158 then (bif Nat.blt y 155 then (bif Nat.blt y 154 then 0 else 0) else (bif Nat.blt y 156 then 0 else (bif Nat.blt y 157 then 0 else 0))) else (bif Nat.blt y 161 then (bif Nat.blt y 159 then 0 else (bif Nat.blt y 160 then 0 else 0)) else (bif Nat.blt y 162 then 0 else (bif Nat.blt y 163 then 0 else 0))))))))
/-- its class, by the place in vwCl (9: none of them) -/
def m_rc (y : Nat) : Nat := (bif Nat.blt y 82 then (bif Nat.blt y 41 then (bif Nat.blt y 20 then (bif Nat.blt y 10 then (bif Nat.blt y 5 then (bif Nat.blt y 2 then (bif Nat.blt y 1 then 0 else 0) else (bif Nat.blt y 3 then 0 else (bif Nat.blt y 4 then 0 else 0))) else (bif Nat.blt y 7 then (bif Nat.blt y 6 then 0 else 0) else (bif Nat.blt y 8 then 0 else (bif Nat.blt y 9 then 0 else 0)))) else (bif Nat.blt y 15 then (bif Nat.blt y 12 then (bif Nat.blt y 11 then 0 else 0) else (bif Nat.blt y 13 then 1 else (bif Nat.blt y 14 then 1 else 1))) else (bif Nat.blt y 17 then (bif Nat.blt y 16 then 1 else 1) else (bif Nat.blt y 18 then 1 else (bif Nat.blt y 19 then 1 else 1))))) else (bif Nat.blt y 30 then (bif Nat.blt y 25 then (bif Nat.blt y 22 then (bif Nat.blt y 21 then 1 else 1) else (bif Nat.blt y 23 then 1 else (bif Nat.blt y 24 then 1 else 2))) else (bif Nat.blt y 27 then (bif Nat.blt y 26 then 2 else 2) else (bif Nat.blt y 28 then 2 else (bif Nat.blt y 29 then 2 else 2)))) else (bif Nat.blt y 35 then (bif Nat.blt y 32 then (bif Nat.blt y 31 then 2 else 2) else (bif Nat.blt y 33 then 2 else (bif Nat.blt y 34 then 2 else 2))) else (bif Nat.blt y 38 then (bif Nat.blt y 36 then 2 else (bif Nat.blt y 37 then 3 else 3)) else (bif Nat.blt y 39 then 3 else (bif Nat.blt y 40 then 3 else 3)))))) else (bif Nat.blt y 61 then (bif Nat.blt y 51 then (bif Nat.blt y 46 then (bif Nat.blt y 43 then (bif Nat.blt y 42 then 3 else 3) else (bif Nat.blt y 44 then 3 else (bif Nat.blt y 45 then 3 else 3))) else (bif Nat.blt y 48 then (bif Nat.blt y 47 then 3 else 3) else (bif Nat.blt y 49 then 4 else (bif Nat.blt y 50 then 4 else 4)))) else (bif Nat.blt y 56 then (bif Nat.blt y 53 then (bif Nat.blt y 52 then 4 else 5) else (bif Nat.blt y 54 then 5 else (bif Nat.blt y 55 then 5 else 6))) else (bif Nat.blt y 58 then (bif Nat.blt y 57 then 6 else 6) else (bif Nat.blt y 59 then 7 else (bif Nat.blt y 60 then 7 else 7))))) else (bif Nat.blt y 71 then (bif Nat.blt y 66 then (bif Nat.blt y 63 then (bif Nat.blt y 62 then 7 else 7) else (bif Nat.blt y 64 then 7 else (bif Nat.blt y 65 then 7 else 7))) else (bif Nat.blt y 68 then (bif Nat.blt y 67 then 7 else 7) else (bif Nat.blt y 69 then 7 else (bif Nat.blt y 70 then 7 else 7)))) else (bif Nat.blt y 76 then (bif Nat.blt y 73 then (bif Nat.blt y 72 then 7 else 7) else (bif Nat.blt y 74 then 7 else (bif Nat.blt y 75 then 7 else 7))) else (bif Nat.blt y 79 then (bif Nat.blt y 77 then 7 else (bif Nat.blt y 78 then 7 else 7)) else (bif Nat.blt y 80 then 7 else (bif Nat.blt y 81 then 7 else 7))))))) else (bif Nat.blt y 123 then (bif Nat.blt y 102 then (bif Nat.blt y 92 then (bif Nat.blt y 87 then (bif Nat.blt y 84 then (bif Nat.blt y 83 then 7 else 7) else (bif Nat.blt y 85 then 7 else (bif Nat.blt y 86 then 7 else 7))) else (bif Nat.blt y 89 then (bif Nat.blt y 88 then 7 else 7) else (bif Nat.blt y 90 then 7 else (bif Nat.blt y 91 then 7 else 7)))) else (bif Nat.blt y 97 then (bif Nat.blt y 94 then (bif Nat.blt y 93 then 7 else 7) else (bif Nat.blt y 95 then 7 else (bif Nat.blt y 96 then 7 else 8))) else (bif Nat.blt y 99 then (bif Nat.blt y 98 then 8 else 8) else (bif Nat.blt y 100 then 8 else (bif Nat.blt y 101 then 8 else 8))))) else (bif Nat.blt y 112 then (bif Nat.blt y 107 then (bif Nat.blt y 104 then (bif Nat.blt y 103 then 8 else 8) else (bif Nat.blt y 105 then 8 else (bif Nat.blt y 106 then 8 else 8))) else (bif Nat.blt y 109 then (bif Nat.blt y 108 then 8 else 8) else (bif Nat.blt y 110 then 8 else (bif Nat.blt y 111 then 8 else 8)))) else (bif Nat.blt y 117 then (bif Nat.blt y 114 then (bif Nat.blt y 113 then 8 else 8) else (bif Nat.blt y 115 then 8 else (bif Nat.blt y 116 then 8 else 8))) else (bif Nat.blt y 120 then (bif Nat.blt y 118 then 8 else (bif Nat.blt y 119 then 8 else 8)) else (bif Nat.blt y 121 then 8 else (bif Nat.blt y 122 then 8 else 8)))))) else (bif Nat.blt y 143 then (bif Nat.blt y 133 then (bif Nat.blt y 128 then (bif Nat.blt y 125 then (bif Nat.blt y 124 then 8 else 8) else (bif Nat.blt y 126 then 8 else (bif Nat.blt y 127 then 8 else 8))) else (bif Nat.blt y 130 then (bif Nat.blt y 129 then 8 else 8) else (bif Nat.blt y 131 then 8 else (bif Nat.blt y 132 then 8 else 8)))) else (bif Nat.blt y 138 then (bif Nat.blt y 135 then (bif Nat.blt y 134 then 8 else 8) else (bif Nat.blt y 136 then 8 else (bif Nat.blt y 137 then 8 else 8))) else (bif Nat.blt y 140 then (bif Nat.blt y 139 then 8 else 8) else (bif Nat.blt y 141 then 8 else (bif Nat.blt y 142 then 8 else 8))))) else (bif Nat.blt y 153 then (bif Nat.blt y 148 then (bif Nat.blt y 145 then (bif Nat.blt y 144 then 8 else 8) else (bif Nat.blt y 146 then 8 else (bif Nat.blt y 147 then 8 else 8))) else (bif Nat.blt y 150 then (bif Nat.blt y 149 then 8 else 8) else (bif Nat.blt y 151 then 8 else (bif Nat.blt y 152 then 8 else 8)))) else (bif Nat.blt y 158 then (bif Nat.blt y 155 then (bif Nat.blt y 154 then 8 else 8) else (bif Nat.blt y 156 then 8 else (bif Nat.blt y 157 then 8 else 8))) else (bif Nat.blt y 161 then (bif Nat.blt y 159 then 8 else (bif Nat.blt y 160 then 8 else 8)) else (bif Nat.blt y 162 then 9 else (bif Nat.blt y 163 then 9 else 9))))))))
end
section
/-! THE SMALL MACHINE: a pure stepper over a list of cells (a reference is a place in the list; a string constant j is the value .retAddr j). Its steps are the real machine's (part 05); all else is proved of it alone. -/
abbrev MH : Type := List va_E
abbrev ML : Type := List (Option Value)
abbrev MR : Type := Option (Option Value × MH)
abbrev MF : Type := Nat → Nat → ML → List Value → MH → MR
-- reading and writing the cells
def m_fi (h : MH) (a c k : Nat) : Option Int32 := match h[a]? with
  | some (.inr o) => (match o with
    | (c', fs) => if c' = c then (match fs[k]? with
      | some (.int x) => some x
      | _ => none) else none)
  | _ => none
def m_fr (h : MH) (a c k : Nat) : Option Nat := match h[a]? with
  | some (.inr o) => (match o with
    | (c', fs) => if c' = c then (match fs[k]? with
      | some (.ref x) => some x
      | _ => none) else none)
  | _ => none
def m_pf (h : MH) (a c k : Nat) (v : Value) : Option MH := match h[a]? with
  | some (.inr o) => (match o with
    | (c', fs) => if c' = c then (if k < fs.length then some (h.set a (.inr (c, fs.set k v))) else none) else none)
  | _ => none
def m_cls (h : MH) (a : Nat) : Option Nat := match h[a]? with
  | some (.inr o) => some o.1
  | _ => none
def m_ai (h : MH) (a t : Nat) (i : Int32) : Option Int32 := match h[a]? with
  | some (.inl (t', n, .inl f)) => if t' = t then (if i < 0 ∨ n ≤ i.toNatClampNeg then none else some (f i.toNatClampNeg)) else none
  | _ => none
def m_ar (h : MH) (a : Nat) (i : Int32) : Option Nat := match h[a]? with
  | some (.inl (t', n, .inr (.inr (.inr (.inr f))))) => if t' = 2 then (if i < 0 ∨ n ≤ i.toNatClampNeg then none else f i.toNatClampNeg) else none
  | _ => none
def m_pi (h : MH) (a t : Nat) (i x : Int32) : Option MH := match h[a]? with
  | some (.inl (t', n, .inl f)) => if t' = t then (if i < 0 ∨ n ≤ i.toNatClampNeg then none else some (h.set a (.inl (t, n, .inl (upd f i.toNatClampNeg x))))) else none
  | _ => none
def m_pr (h : MH) (a : Nat) (i : Int32) (x : Nat) : Option MH := match h[a]? with
  | some (.inl (t', n, .inr (.inr (.inr (.inr f))))) => if t' = 2 then (if i < 0 ∨ n ≤ i.toNatClampNeg then none else (if m_cls h x = some 1 then some (h.set a (.inl (2, n, .inr (.inr (.inr (.inr (va_up f i.toNatClampNeg (some x)))))))) else none)) else none
  | _ => none
def m_al (h : MH) (a : Nat) : Option Int32 := match h[a]? with
  | some (.inl (t, z)) => if t < 3 then some (Int32.ofNat z.1) else none
  | _ => none
-- locals
def m_ld (ls : ML) (i : Nat) : Option Value := match ls[i]? with
  | some (some v) => some v
  | _ => none
def m_kill (ls : ML) : Nat → ML
  | 0 => ls
  | j + 1 => (match ls[j]? with
    | some (some v) => bif Nat.beq v.category 2 then ls.set j none else ls
    | _ => ls)
def m_sto (ls : ML) (i : Nat) (v : Value) : Option ML := if i < ls.length then some ((m_kill ls i).set i (some v)) else none
def m_sto2 (ls : ML) (i : Nat) (v : Value) : Option ML := if i + 1 < ls.length then some (((m_kill ls i).set i (some v)).set (i + 1) none) else none
-- what needs no cell and can't fail by a number
def m_bin (f : Int32 → Int32 → Int32) (ls : ML) (st : List Value) : Option (ML × List Value) := match st with
  | .int y :: .int x :: r => some (ls, .int (f x y) :: r)
  | _ => none
def m_binL (f : Int64 → Int64 → Int64) (ls : ML) (st : List Value) : Option (ML × List Value) := match st with
  | .long y :: .long x :: r => some (ls, .long (f x y) :: r)
  | _ => none
def m_ldi (ls : ML) (i : Nat) (st : List Value) : Option (ML × List Value) := match m_ld ls i with
  | some (.int x) => some (ls, .int x :: st)
  | _ => none
def m_lda (ls : ML) (i : Nat) (st : List Value) : Option (ML × List Value) := match m_ld ls i with
  | some (.ref x) => some (ls, .ref x :: st)
  | _ => none
def m_ldl (ls : ML) (i : Nat) (st : List Value) : Option (ML × List Value) := match m_ld ls i with
  | some (.long x) => some (ls, .long x :: st)
  | _ => none
def m_sti (ls : ML) (i : Nat) (st : List Value) : Option (ML × List Value) := match st with
  | .int x :: r => (match m_sto ls i (.int x) with
    | some l => some (l, r)
    | none => none)
  | _ => none
def m_sta (ls : ML) (i : Nat) (st : List Value) : Option (ML × List Value) := match st with
  | .ref x :: r => (match m_sto ls i (.ref x) with
    | some l => some (l, r)
    | none => none)
  | _ => none
def m_stl (ls : ML) (i : Nat) (st : List Value) : Option (ML × List Value) := match st with
  | .long x :: r => (match m_sto2 ls i (.long x) with
    | some l => some (l, r)
    | none => none)
  | _ => none
def m_inc (ls : ML) (i : Nat) (c : Int32) (st : List Value) : Option (ML × List Value) := match m_ld ls i with
  | some (.int x) => (match m_sto ls i (.int (x + c)) with
    | some l => some (l, st)
    | none => none)
  | _ => none
def m_a0 (a : List Nat) : Nat := match a with
  | i :: _ => i
  | [] => 0
def m_cat (v : Value) : Bool := match v with
  | .int _ => true
  | .ref _ => true
  | .retAddr _ => true
  | _ => false
def m_dup (ls : ML) (st : List Value) : Option (ML × List Value) := match st with
  | v :: r => if m_cat v = true then some (ls, v :: v :: r) else none
  | _ => none
def m_dup2 (ls : ML) (st : List Value) : Option (ML × List Value) := match st with
  | v :: w :: r => if m_cat v = true then (if m_cat w = true then some (ls, v :: w :: v :: w :: r) else none) else none
  | _ => none
def m_pop (ls : ML) (st : List Value) : Option (ML × List Value) := match st with
  | v :: r => if m_cat v = true then some (ls, r) else none
  | _ => none
def m_i2l (ls : ML) (st : List Value) : Option (ML × List Value) := match st with
  | .int x :: r => some (ls, .long x.toInt64 :: r)
  | _ => none
def m_l2i (ls : ML) (st : List Value) : Option (ML × List Value) := match st with
  | .long x :: r => some (ls, .int x.toInt32 :: r)
  | _ => none
def m_i2c (ls : ML) (st : List Value) : Option (ML × List Value) := match st with
  | .int x :: r => some (ls, .int (x.toUInt32 % 65536).toInt32 :: r)
  | _ => none
def m_pure (i : Instr) (a : List Nat) (c : Int32) (ls : ML) (st : List Value) : Option (ML × List Value) := match i with
  | .iconst _ => some (ls, .int c :: st)
  | .bipush _ => some (ls, .int c :: st)
  | .sipush _ => some (ls, .int c :: st)
  | .lconst _ => some (ls, .long (Int64.ofNat (m_a0 a)) :: st)
  | .ldc2_w _ => some (ls, .long (Int64.ofNat (m_a0 a)) :: st)
  | .ldc _ => some (ls, .retAddr (m_a0 a) :: st)
  | .ldc_w _ => some (ls, .retAddr (m_a0 a) :: st)
  | .iload_n _ => m_ldi ls (m_a0 a) st
  | .iload _ => m_ldi ls (m_a0 a) st
  | .aload_n _ => m_lda ls (m_a0 a) st
  | .aload _ => m_lda ls (m_a0 a) st
  | .lload_n _ => m_ldl ls (m_a0 a) st
  | .lload _ => m_ldl ls (m_a0 a) st
  | .istore_n _ => m_sti ls (m_a0 a) st
  | .istore _ => m_sti ls (m_a0 a) st
  | .astore_n _ => m_sta ls (m_a0 a) st
  | .astore _ => m_sta ls (m_a0 a) st
  | .lstore_n _ => m_stl ls (m_a0 a) st
  | .lstore _ => m_stl ls (m_a0 a) st
  | .iinc _ _ => m_inc ls (m_a0 a) c st
  | .iadd => m_bin (fun x y => x + y) ls st
  | .isub => m_bin (fun x y => x - y) ls st
  | .imul => m_bin (fun x y => x * y) ls st
  | .iand => m_bin (fun x y => x &&& y) ls st
  | .ior => m_bin (fun x y => x ||| y) ls st
  | .ixor => m_bin (fun x y => x ^^^ y) ls st
  | .ishl => m_bin (fun x y => x <<< (y &&& 31)) ls st
  | .ishr => m_bin (fun x y => x >>> (y &&& 31)) ls st
  | .ladd => m_binL (fun x y => x + y) ls st
  | .lmul => m_binL (fun x y => x * y) ls st
  | .dup => m_dup ls st
  | .dup2 => m_dup2 ls st
  | .pop => m_pop ls st
  | .i2l => m_i2l ls st
  | .l2i => m_l2i ls st
  | .i2c => m_i2c ls st
  | _ => none
-- branches
def m_br (cd : ClassFile.Cond) (x y : Int32) (A B : MR) : MR := match cd with
  | .eq => if x = y then A else B
  | .ne => if x = y then B else A
  | .lt => if x < y then A else B
  | .ge => if y ≤ x then A else B
  | .gt => if y < x then A else B
  | .le => if x ≤ y then A else B
def m_sw (x : Int32) (d : Nat) (f : Nat → MR) : List Nat → MR
  | v :: t :: r => if x = nI v then f t else m_sw x d f r
  | _ => f d
-- calls
def m_args : Nat → List Value → List Value → Option (List Value × List Value)
  | 0, acc, st => some (acc, st)
  | n + 1, acc, v :: st => m_args n (v :: acc) st
  | _ + 1, _, [] => none
def m_ent (n : Nat) (as : List Value) : ML := as.map some ++ List.replicate (n - as.length) none
/-- a string constant's text -/
def m_txt (j : Nat) : String := bif Nat.beq j 0 then "rynpybn;s2,5,1;h6;w0,0,1,3;w1,1,2,4;w2,2,3,2;w3,0,3,6;w0,3,4,5;w1,4,5,2;w3,5,0,9;a4,0;a3,1;a5,2;" else "ynpb"
/-- its letters, as numbers -/
def m_chs (j : Nat) : List Nat := bif Nat.beq j 0 then [114, 121, 110, 112, 121, 98, 110, 59, 115, 50, 44, 53, 44, 49, 59, 104, 54, 59, 119, 48, 44, 48, 44, 49, 44, 51, 59, 119, 49, 44, 49, 44, 50, 44, 52, 59, 119, 50, 44, 50, 44, 51, 44, 50, 59, 119, 51, 44, 48, 44, 51, 44, 54, 59, 119, 48, 44, 51, 44, 52, 44, 53, 59, 119, 49, 44, 52, 44, 53, 44, 50, 59, 119, 51, 44, 53, 44, 48, 44, 57, 59, 97, 52, 44, 48, 59, 97, 51, 44, 49, 59, 97, 53, 44, 50, 59] else [121, 110, 112, 98]
def m_ix (c : Int32) : List Nat → Nat → Int32
  | [], _ => -1
  | b :: l, k => if c = nI b then nI k else m_ix c l (k + 1)
/-- length, charAt, indexOf of a string constant -/
def m_str (q j : Nat) (as : List Value) : Option Int32 := bif Nat.blt j 2 then (match q with
  | 0 => some (nI (m_chs j).length)
  | 1 => (match as with
    | [.int i] => if i < 0 ∨ (m_chs j).length ≤ i.toNatClampNeg then none else some (nI ((m_chs j).getD i.toNatClampNeg 0))
    | _ => none)
  | 2 => (match as with
    | [.int c] => some (m_ix c (m_chs j) 0)
    | _ => none)
  | _ => none) else none
/-- what lies below a call's arguments is little, and the arguments are no longs -/
def m_okr (r : List Value) : Bool := match r with
  | [] => true
  | [_] => true
  | [_, _] => true
  | [_, _, _] => true
  | [_, _, _, _] => true
  | _ => false
def m_cats : List Value → Bool
  | [] => true
  | v :: r => m_cat v && m_cats r
def m_okc (as r : List Value) : Bool := m_okr r && m_cats as
def m_call (e : MF) (z y k : Nat) (as : List Value) (ls : ML) (r : List Value) (h : MH) : MR := (e z 0 (m_ent (m_maxL z) as) [] h).bind fun q => e y k ls (q.1.toList ++ r) q.2
def m_def (c : Nat) : List Value := match c with
  | 0 => [.null, .null, .null, .null, .null, .null, .null, .int 0, .int 0, .int 0, .int 0, .int 0, .int 0, .int 0]
  | 1 => [.null, .null, .int 0, .int 0, .int 0, .int 0]
  | 2 => [.null, .null]
  | 3 => [.null, .null, .int 0]
  | 4 => [.null, .int 0, .int 0]
  | 5 => [.null, .null, .int 0]
  | 6 => [.null, .int 0]
  | 7 => [.null, .null, .null, .null, .null, .null, .null, .null, .null, .null, .null]
  | 8 => [.int 0, .null, .int 0, .int 0, .int 0, .int 0, .int 0, .null, .int 0, .null, .null, .int 0, .null, .int 0, .null, .int 0, .null, .null, .int 0, .int 0, .null, .int 0, .int 0, .null, .int 0, .int 0, .int 0, .int 0, .int 0, .null, .int 0, .null, .null, .null, .null, .null]
  | _ => []
/-- one instruction, by its shape; e: the rest of the run -/
def m_step (e : MF) (y k : Nat) (ls : ML) (st : List Value) (h : MH) : MR := match m_code y k with
  | none => none
  | some (_, i, _, a, c) => (match i with
    | .getfield _ => (match st, a with
      | .ref o :: r, [ci, f, t] => bif Nat.beq t 2 then (m_fr h o ci f).bind fun x => e y (k + 1) ls (.ref x :: r) h else (m_fi h o ci f).bind fun x => e y (k + 1) ls (.int x :: r) h
      | _, _ => none)
    | .putfield _ => (match st, a with
      | .int x :: .ref o :: r, [ci, f, t] => bif Nat.beq t 0 then (m_pf h o ci f (.int x)).bind fun h' => e y (k + 1) ls r h' else (bif Nat.beq t 1 then (if x = nI 0 ∨ x = nI 1 then (m_pf h o ci f (.int x)).bind fun h' => e y (k + 1) ls r h' else none) else none)
      | .ref x :: .ref o :: r, [ci, f, t] => bif Nat.beq t 2 then (m_pf h o ci f (.ref x)).bind fun h' => e y (k + 1) ls r h' else none
      | _, _ => none)
    | .iaload => (match st with
      | .int j :: .ref o :: r => (m_ai h o 0 j).bind fun x => e y (k + 1) ls (.int x :: r) h
      | _ => none)
    | .caload => (match st with
      | .int j :: .ref o :: r => (m_ai h o 1 j).bind fun x => e y (k + 1) ls (.int x :: r) h
      | _ => none)
    | .aaload => (match st with
      | .int j :: .ref o :: r => (m_ar h o j).bind fun x => e y (k + 1) ls (.ref x :: r) h
      | _ => none)
    | .iastore => (match st with
      | .int x :: .int j :: .ref o :: r => (m_pi h o 0 j x).bind fun h' => e y (k + 1) ls r h'
      | _ => none)
    | .castore => (match st with
      | .int x :: .int j :: .ref o :: r => (m_pi h o 1 j (vp_nar .char x)).bind fun h' => e y (k + 1) ls r h'
      | _ => none)
    | .aastore => (match st with
      | .ref x :: .int j :: .ref o :: r => (m_pr h o j x).bind fun h' => e y (k + 1) ls r h'
      | _ => none)
    | .arraylength => (match st with
      | .ref o :: r => (m_al h o).bind fun x => e y (k + 1) ls (.int x :: r) h
      | _ => none)
    | .idiv => (match st with
      | .int y' :: .int x :: r => if y' = nI 0 then none else e y (k + 1) ls (.int (x / y') :: r) h
      | _ => none)
    | .irem => (match st with
      | .int y' :: .int x :: r => if y' = nI 0 then none else e y (k + 1) ls (.int (x - x / y' * y') :: r) h
      | _ => none)
    | .lrem => (match st with
      | .long y' :: .long x :: r => if y' = 0 then none else e y (k + 1) ls (.long (x - x / y' * y') :: r) h
      | _ => none)
    | .ifCond cd _ => (match st with
      | .int x :: r => m_br cd x (nI 0) (e y (m_a0 a) ls r h) (e y (k + 1) ls r h)
      | _ => none)
    | .if_icmp cd _ => (match st with
      | .int y' :: .int x :: r => m_br cd x y' (e y (m_a0 a) ls r h) (e y (k + 1) ls r h)
      | _ => none)
    | .goto _ => e y (m_a0 a) ls st h
    | .tableswitch _ _ _ _ => (match st with
      | .int x :: r => m_sw x (m_a0 a) (fun t => e y t ls r h) a.tail
      | _ => none)
    | .lookupswitch _ _ => (match st with
      | .int x :: r => m_sw x (m_a0 a) (fun t => e y t ls r h) a.tail
      | _ => none)
    | .invokevirtual _ => (match a with
      | [z, n] => (match m_args n [] st with
        | some (.ref o :: as, r) => bif Nat.blt z 900 then (bif m_okc as r then (if m_cls h o = some (m_rc z) then m_call e z y (k + 1) (.ref o :: as) ls r h else none) else none) else none
        | some (.retAddr j :: as, r) => bif Nat.blt 999 z then (bif m_okc as r then (m_str (z - 1000) j as).bind fun x => e y (k + 1) ls (.int x :: r) h else none) else none
        | _ => none)
      | _ => none)
    | .invokestatic _ => (match a with
      | [z, n] => (match m_args n [] st with
        | some (as, r) => bif m_okc as r then m_call e z y (k + 1) as ls r h else none
        | none => none)
      | _ => none)
    | .invokespecial _ => (match a with
      | [_] => (match st with
        | .ref _ :: r => bif m_okr r then e y (k + 1) ls r h else none
        | _ => none)
      | [z, n] => (match m_args n [] st with
        | some (.ref o :: as, r) => bif m_okc as r then m_call e z y (k + 1) (.ref o :: as) ls r h else none
        | _ => none)
      | _ => none)
    | .return_ => (match st with
      | [] => some (none, h)
      | _ => none)
    | .ireturn => (match st with
      | [.int x] => bif Nat.beq (m_rt y) 0 then some (some (.int x), h) else (bif Nat.beq (m_rt y) 1 then (if x = nI 0 ∨ x = nI 1 then some (some (.int x), h) else none) else (if vp_nar .char x = x then some (some (.int x), h) else none))
      | _ => none)
    | .areturn => (match st with
      | [.ref x] => some (some (.ref x), h)
      | _ => none)
    | .new _ => e y (k + 1) ls (.ref h.length :: st) (h ++ [.inr (m_a0 a, m_def (m_a0 a))])
    | .newarray _ => (match st with
      | .int n :: r => if n < 0 ∨ 100000 < n.toNatClampNeg then none else e y (k + 1) ls (.ref h.length :: r) (h ++ [.inl (m_a0 a, n.toNatClampNeg, .inl fun _ => 0)])
      | _ => none)
    | .anewarray _ => (match st with
      | .int n :: r => if n < 0 ∨ 100000 < n.toNatClampNeg then none else e y (k + 1) ls (.ref h.length :: r) (h ++ [.inl (2, n.toNatClampNeg, .inr (.inr (.inr (.inr fun _ => none))))])
      | _ => none)
    | i => (match m_pure i a c ls st with
      | some (l, s) => e y (k + 1) l s h
      | none => none))
/-- how much room the cells take -/
def m_csz (e : va_E) : Nat := match e with
  | .inl x => x.2.1
  | .inr o => (m_def o.1).length
def m_sz (h : MH) : Nat := (h.map m_csz).sum
def m_run : Nat → MF
  | 0 => fun _ _ _ _ _ => none
  | n + 1 => m_step (m_run n)
end
section
/-! the small machine's run as one function m_ev, without fuel: m_ev = m_step m_ev -/
theorem m_sz_push {h : MH} {e : va_E} : m_sz (h ++ [e]) = m_sz h + m_csz e := by simp [m_sz]
theorem m_set_sum : ∀ (l : List Nat) (o x : Nat), l[o]? = some x → (l.set o x).sum = l.sum := by
  intro l
  induction l with
  | nil => intro o x h; simp at h
  | cons a l ih =>
    intro o x h
    cases o with
    | zero => simp at h; simp [h]
    | succ o => simp at h; simp [ih o x (by simpa using h)]
theorem m_sz_set {h : MH} {o : Nat} {e e' : va_E} (he : h[o]? = some e) (hs : m_csz e' = m_csz e) : m_sz (h.set o e') = m_sz h := by
  unfold m_sz
  rw [List.map_set, hs]
  exact m_set_sum _ _ _ (by simp [he])
-- what a read or a write says
theorem m_fi_inv {h : MH} {a c k : Nat} {x : Int32} (hq : m_fi h a c k = some x) : ∃ fs, h[a]? = some (.inr (c, fs)) ∧ fs[k]? = some (.int x) := by
  unfold m_fi at hq
  split at hq
  · rename_i o ho
    obtain ⟨c', fs⟩ := o
    dsimp only at hq
    split at hq
    · rename_i hc
      subst hc
      split at hq
      · rename_i z hz
        cases hq
        exact ⟨fs, ho, hz⟩
      · cases hq
    · cases hq
  · cases hq
theorem m_fr_inv {h : MH} {a c k : Nat} {x : Nat} (hq : m_fr h a c k = some x) : ∃ fs, h[a]? = some (.inr (c, fs)) ∧ fs[k]? = some (.ref x) := by
  unfold m_fr at hq
  split at hq
  · rename_i o ho
    obtain ⟨c', fs⟩ := o
    dsimp only at hq
    split at hq
    · rename_i hc
      subst hc
      split at hq
      · rename_i z hz
        cases hq
        exact ⟨fs, ho, hz⟩
      · cases hq
    · cases hq
  · cases hq
theorem m_pf_inv {h h' : MH} {a c k : Nat} {v : Value} (hq : m_pf h a c k v = some h') : ∃ fs, h[a]? = some (.inr (c, fs)) ∧ k < fs.length ∧ h' = h.set a (.inr (c, fs.set k v)) := by
  unfold m_pf at hq
  split at hq
  · rename_i o ho
    obtain ⟨c', fs⟩ := o
    dsimp only at hq
    split at hq
    · rename_i hc
      subst hc
      split at hq
      · rename_i hk
        cases hq
        exact ⟨fs, ho, hk, rfl⟩
      · cases hq
    · cases hq
  · cases hq
theorem m_cls_inv {h : MH} {a c : Nat} (hq : m_cls h a = some c) : ∃ fs, h[a]? = some (.inr (c, fs)) := by
  unfold m_cls at hq
  split at hq
  · rename_i o ho
    cases hq
    exact ⟨o.2, ho⟩
  · cases hq
theorem m_ai_inv {h : MH} {a t : Nat} {i x : Int32} (hq : m_ai h a t i = some x) : ∃ n f, h[a]? = some (.inl (t, n, .inl f)) ∧ vp_in i n ∧ x = f i.toNatClampNeg := by
  unfold m_ai at hq
  split at hq
  · rename_i t' n f ho
    split at hq
    · rename_i hc
      subst hc
      split at hq
      · cases hq
      · rename_i hi
        cases hq
        exact ⟨n, f, ho, hi, rfl⟩
    · cases hq
  · cases hq
theorem m_ar_inv {h : MH} {a : Nat} {i : Int32} {x : Nat} (hq : m_ar h a i = some x) : ∃ n f, h[a]? = some (.inl (2, n, .inr (.inr (.inr (.inr f))))) ∧ vp_in i n ∧ f i.toNatClampNeg = some x := by
  unfold m_ar at hq
  split at hq
  · rename_i t' n f ho
    split at hq
    · rename_i hc
      subst hc
      split at hq
      · cases hq
      · rename_i hi
        exact ⟨n, f, ho, hi, hq⟩
    · cases hq
  · cases hq
theorem m_pi_inv {h h' : MH} {a t : Nat} {i x : Int32} (hq : m_pi h a t i x = some h') : ∃ n f, h[a]? = some (.inl (t, n, .inl f)) ∧ vp_in i n ∧ h' = h.set a (.inl (t, n, .inl (upd f i.toNatClampNeg x))) := by
  unfold m_pi at hq
  split at hq
  · rename_i t' n f ho
    split at hq
    · rename_i hc
      subst hc
      split at hq
      · cases hq
      · rename_i hi
        cases hq
        exact ⟨n, f, ho, hi, rfl⟩
    · cases hq
  · cases hq
theorem m_pr_inv {h h' : MH} {a : Nat} {i : Int32} {x : Nat} (hq : m_pr h a i x = some h') : ∃ n f, h[a]? = some (.inl (2, n, .inr (.inr (.inr (.inr f))))) ∧ vp_in i n ∧ m_cls h x = some 1 ∧ h' = h.set a (.inl (2, n, .inr (.inr (.inr (.inr (va_up f i.toNatClampNeg (some x))))))) := by
  unfold m_pr at hq
  split at hq
  · rename_i t' n f ho
    split at hq
    · rename_i hc
      subst hc
      split at hq
      · cases hq
      · rename_i hi
        split at hq
        · rename_i hx
          cases hq
          exact ⟨n, f, ho, hi, hx, rfl⟩
        · cases hq
    · cases hq
  · cases hq
theorem m_al_inv {h : MH} {a : Nat} {x : Int32} (hq : m_al h a = some x) : ∃ t z, h[a]? = some (.inl (t, z)) ∧ t < 3 ∧ x = Int32.ofNat z.1 := by
  unfold m_al at hq
  split at hq
  · rename_i t z ho
    split at hq
    · rename_i ht
      cases hq
      exact ⟨t, z, ho, ht, rfl⟩
    · cases hq
  · cases hq
def m_le (h h1 : MH) : Prop := h.length ≤ h1.length ∧ m_sz h ≤ m_sz h1
theorem m_le_rf (h : MH) : m_le h h := ⟨Nat.le_refl _, Nat.le_refl _⟩
theorem m_le_tr {h h1 h2 : MH} (a : m_le h h1) (b : m_le h1 h2) : m_le h h2 := ⟨Nat.le_trans a.1 b.1, Nat.le_trans a.2 b.2⟩
theorem m_le_push (h : MH) (e : va_E) : m_le h (h ++ [e]) := ⟨by simp, by rw [m_sz_push]; omega⟩
theorem m_le_pf {h h' : MH} {a c k : Nat} {v : Value} (hq : m_pf h a c k v = some h') : m_le h h' := by
  obtain ⟨fs, h1, h2, rfl⟩ := m_pf_inv hq
  exact ⟨by simp, by have := m_sz_set (e' := .inr (c, fs.set k v)) h1 rfl; omega⟩
theorem m_le_pi {h h' : MH} {a t : Nat} {i x : Int32} (hq : m_pi h a t i x = some h') : m_le h h' := by
  obtain ⟨n, f, h1, h2, rfl⟩ := m_pi_inv hq
  exact ⟨by simp, by have := m_sz_set (e' := .inl (t, n, .inl (upd f i.toNatClampNeg x))) h1 rfl; omega⟩
theorem m_le_pr {h h' : MH} {a : Nat} {i : Int32} {x : Nat} (hq : m_pr h a i x = some h') : m_le h h' := by
  obtain ⟨n, f, h1, h2, h3, rfl⟩ := m_pr_inv hq
  exact ⟨by simp, by have := m_sz_set (e' := .inl (2, n, .inr (.inr (.inr (.inr (va_up f i.toNatClampNeg (some x))))))) h1 rfl; omega⟩
def m_Sh (h0 : MH) (F : MF → MR) : Prop := (∃ r, (∀ v h1, r = some (v, h1) → m_le h0 h1) ∧ ∀ e, F e = r) ∨ (∃ y k ls st h, m_le h0 h ∧ ∀ e, F e = e y k ls st h) ∨ ∃ z y k as ls r h, m_le h0 h ∧ ∀ e, F e = m_call e z y k as ls r h
theorem m_Sh_n (h0 : MH) : m_Sh h0 (fun _ => none) := Or.inl ⟨none, fun _ _ h => (by cases h), fun _ => rfl⟩
theorem m_Sh_r (v : Option Value) (h : MH) : m_Sh h (fun _ => some (v, h)) := Or.inl ⟨some (v, h), fun _ _ q => (by cases q; exact m_le_rf _), fun _ => rfl⟩
theorem m_Sh_e (y k : Nat) (ls : ML) (st : List Value) (h : MH) : m_Sh h (fun e => e y k ls st h) := Or.inr (Or.inl ⟨y, k, ls, st, h, m_le_rf _, fun _ => rfl⟩)
theorem m_Sh_p (y k : Nat) (ls : ML) (st : List Value) (h : MH) (x : va_E) : m_Sh h (fun e => e y k ls st (h ++ [x])) := Or.inr (Or.inl ⟨y, k, ls, st, _, m_le_push _ _, fun _ => rfl⟩)
theorem m_Sh_k (z y k : Nat) (as : List Value) (ls : ML) (r : List Value) (h : MH) : m_Sh h (fun e => m_call e z y k as ls r h) := Or.inr (Or.inr ⟨z, y, k, as, ls, r, h, m_le_rf _, fun _ => rfl⟩)
theorem m_Sh_b {α : Type} {h0 : MH} (o : Option α) (F : MF → α → MR) (hF : ∀ x, m_Sh h0 (fun e => F e x)) : m_Sh h0 (fun e => o.bind (F e)) := by
  cases o with
  | none => exact m_Sh_n h0
  | some x => exact hF x
theorem m_Sh_h {h0 : MH} (o : Option MH) (ho : ∀ h', o = some h' → m_le h0 h') (y k : Nat) (ls : ML) (st : List Value) : m_Sh h0 (fun e => o.bind fun h' => e y k ls st h') := by
  cases o with
  | none => exact m_Sh_n h0
  | some x => exact Or.inr (Or.inl ⟨y, k, ls, st, x, ho x rfl, fun _ => rfl⟩)
theorem m_Sh_i {h0 : MH} {c : Prop} [Decidable c] (F G : MF → MR) (hF : m_Sh h0 F) (hG : m_Sh h0 G) : m_Sh h0 (fun e => if c then F e else G e) := by
  by_cases hc : c
  · simp only [hc, if_true]; exact hF
  · simp only [hc, if_false]; exact hG
theorem m_Sh_w {h0 : MH} (b : Bool) (F G : MF → MR) (hF : m_Sh h0 F) (hG : m_Sh h0 G) : m_Sh h0 (fun e => bif b then F e else G e) := by
  cases b
  · exact hG
  · exact hF
theorem m_Sh_br {h0 : MH} (cd : ClassFile.Cond) (x y : Int32) (F G : MF → MR) (hF : m_Sh h0 F) (hG : m_Sh h0 G) : m_Sh h0 (fun e => m_br cd x y (F e) (G e)) := by
  cases cd <;> exact m_Sh_i _ _ (by assumption) (by assumption)
theorem m_Sh_sw {h0 : MH} (x : Int32) (d : Nat) (F : MF → Nat → MR) (hF : ∀ t, m_Sh h0 (fun e => F e t)) : ∀ (n : Nat) (l : List Nat), l.length ≤ n → m_Sh h0 (fun e => m_sw x d (F e) l) := by
  intro n
  induction n with
  | zero =>
    intro l hl
    cases l with
    | nil => exact hF d
    | cons a l => simp at hl
  | succ n ih =>
    intro l hl
    match l, hl with
    | [], _ => exact hF d
    | [_], _ => exact hF d
    | v :: t :: r, hl => exact m_Sh_i _ _ (hF t) (ih r (by simp at hl; omega))
set_option maxRecDepth 100000 in
theorem m_shape (y k : Nat) (ls : ML) (st : List Value) (h : MH) : m_Sh h (fun e => m_step e y k ls st h) := by
  unfold m_step
  cases m_code y k with
  | none => exact m_Sh_n h
  | some en =>
    obtain ⟨pc, i, len, a, c⟩ := en
    dsimp only
    split <;> (try dsimp only)
    all_goals (try split) <;> (try dsimp only)
    all_goals first
      | exact m_Sh_n _
      | exact m_Sh_r _ _
      | exact m_Sh_e _ _ _ _ _
      | exact m_Sh_p _ _ _ _ _ _
      | exact m_Sh_b _ _ fun _ => m_Sh_e _ _ _ _ _
      | exact m_Sh_h _ (fun _ q => m_le_pi q) _ _ _ _
      | exact m_Sh_h _ (fun _ q => m_le_pr q) _ _ _ _
      | exact m_Sh_w _ _ _ (m_Sh_b _ _ fun _ => m_Sh_e _ _ _ _ _) (m_Sh_b _ _ fun _ => m_Sh_e _ _ _ _ _)
      | exact m_Sh_w _ _ _ (m_Sh_h _ (fun _ q => m_le_pf q) _ _ _ _) (m_Sh_w _ _ _ (m_Sh_i _ _ (m_Sh_h _ (fun _ q => m_le_pf q) _ _ _ _) (m_Sh_n _)) (m_Sh_n _))
      | exact m_Sh_w _ _ _ (m_Sh_h _ (fun _ q => m_le_pf q) _ _ _ _) (m_Sh_n _)
      | exact m_Sh_i _ _ (m_Sh_n _) (m_Sh_e _ _ _ _ _)
      | exact m_Sh_i _ _ (m_Sh_n _) (m_Sh_p _ _ _ _ _ _)
      | exact m_Sh_br _ _ _ _ _ (m_Sh_e _ _ _ _ _) (m_Sh_e _ _ _ _ _)
      | exact m_Sh_sw _ _ _ (fun _ => m_Sh_e _ _ _ _ _) _ _ (Nat.le_refl _)
      | exact m_Sh_w _ _ _ (m_Sh_r _ _) (m_Sh_w _ _ _ (m_Sh_i _ _ (m_Sh_r _ _) (m_Sh_n _)) (m_Sh_i _ _ (m_Sh_r _ _) (m_Sh_n _)))
      | (split <;> (try dsimp only) <;> first
        | exact m_Sh_n _
        | exact m_Sh_e _ _ _ _ _
        | exact m_Sh_w _ _ _ (m_Sh_e _ _ _ _ _) (m_Sh_n _)
        | exact m_Sh_w _ _ _ (m_Sh_k _ _ _ _ _ _ _) (m_Sh_n _)
        | exact m_Sh_w _ _ _ (m_Sh_w _ _ _ (m_Sh_i _ _ (m_Sh_k _ _ _ _ _ _ _) (m_Sh_n _)) (m_Sh_n _)) (m_Sh_n _)
        | exact m_Sh_w _ _ _ (m_Sh_w _ _ _ (m_Sh_b _ _ fun _ => m_Sh_e _ _ _ _ _) (m_Sh_n _)) (m_Sh_n _))
theorem m_mono (e e' : MF) (he : ∀ y k ls st h r, e y k ls st h = some r → e' y k ls st h = some r) (y k : Nat) (ls : ML) (st : List Value) (h : MH) (r : Option Value × MH) (hr : m_step e y k ls st h = some r) : m_step e' y k ls st h = some r := by
  rcases m_shape y k ls st h with ⟨r0, -, hF⟩ | ⟨y1, k1, l1, s1, h1, -, hF⟩ | ⟨z, y1, k1, as, l1, s1, h1, -, hF⟩
  · have h1 := hF e
    have h2 := hF e'
    dsimp only at h1 h2
    rw [h2, ← h1]; exact hr
  · have h1 := hF e
    have h2 := hF e'
    dsimp only at h1 h2
    rw [h2]; rw [h1] at hr
    exact he _ _ _ _ _ _ hr
  · have h1 := hF e
    have h2 := hF e'
    dsimp only at h1 h2
    rw [h2]; rw [h1] at hr
    unfold m_call at hr ⊢
    obtain ⟨q, hq, hr⟩ := Option.bind_eq_some_iff.mp hr
    rw [he _ _ _ _ _ _ hq]
    exact he _ _ _ _ _ _ hr
theorem m_run_s : ∀ (n y k : Nat) (ls : ML) (st : List Value) (h : MH) (r : Option Value × MH), m_run n y k ls st h = some r → m_run (n + 1) y k ls st h = some r := by
  intro n
  induction n with
  | zero => intro y k ls st h r hr; cases hr
  | succ n ih => intro y k ls st h r hr; exact m_mono _ _ ih y k ls st h r hr
theorem m_run_le {n m : Nat} (hnm : n ≤ m) {y k : Nat} {ls : ML} {st : List Value} {h : MH} {r : Option Value × MH} (hr : m_run n y k ls st h = some r) : m_run m y k ls st h = some r := by
  induction m with
  | zero => rw [show n = 0 by omega] at hr; exact hr
  | succ m ih =>
    by_cases hq : n ≤ m
    · exact m_run_s m _ _ _ _ _ _ (ih hq)
    · rw [show m + 1 = n by omega]; exact hr

noncomputable def m_ev : MF := fun y k ls st h => @dite _ (∃ r n, m_run n y k ls st h = some r) (Classical.propDecidable _) (fun q => some q.choose) (fun _ => none)
theorem m_ev_of {n y k : Nat} {ls : ML} {st : List Value} {h : MH} {r : Option Value × MH} (hr : m_run n y k ls st h = some r) : m_ev y k ls st h = some r := by
  have q : ∃ r n, m_run n y k ls st h = some r := ⟨r, n, hr⟩
  unfold m_ev
  rw [dif_pos q]
  obtain ⟨m, hm⟩ := q.choose_spec
  have h1 := m_run_le (Nat.le_max_left n m) hr
  have h2 := m_run_le (Nat.le_max_right n m) hm
  rw [← h2, h1]
theorem m_ev_run {y k : Nat} {ls : ML} {st : List Value} {h : MH} {r : Option Value × MH} (hr : m_ev y k ls st h = some r) : ∃ n, m_run n y k ls st h = some r := by
  unfold m_ev at hr
  by_cases q : ∃ r n, m_run n y k ls st h = some r
  · rw [dif_pos q] at hr
    obtain ⟨n, hn⟩ := q.choose_spec
    exact ⟨n, by rw [hn]; exact hr⟩
  · rw [dif_neg q] at hr
    cases hr
theorem m_ev_eq (y k : Nat) (ls : ML) (st : List Value) (h : MH) : m_ev y k ls st h = m_step m_ev y k ls st h := by
  have fwd : ∀ r, m_ev y k ls st h = some r → m_step m_ev y k ls st h = some r := by
    intro r hr
    obtain ⟨n, hn⟩ := m_ev_run hr
    cases n with
    | zero => cases hn
    | succ n => exact m_mono (m_run n) m_ev (fun _ _ _ _ _ _ q => m_ev_of q) _ _ _ _ _ _ hn
  have bwd : ∀ r, m_step m_ev y k ls st h = some r → m_ev y k ls st h = some r := by
    intro r hr
    rcases m_shape y k ls st h with ⟨r0, -, hF⟩ | ⟨y1, k1, l1, s1, h1, -, hF⟩ | ⟨z, y1, k1, as, l1, s1, h1, -, hF⟩
    · refine m_ev_of (n := 1) ?_
      show m_step (m_run 0) y k ls st h = some r
      have h1 := hF m_ev
      have h2 := hF (m_run 0)
      dsimp only at h1 h2
      rw [h2, ← h1]; exact hr
    · have h2 := hF m_ev
      dsimp only at h2
      rw [h2] at hr
      obtain ⟨n, hn⟩ := m_ev_run hr
      refine m_ev_of (n := n + 1) ?_
      have h3 := hF (m_run n)
      dsimp only at h3
      show m_step (m_run n) y k ls st h = some r
      rw [h3]; exact hn
    · have h2 := hF m_ev
      dsimp only at h2
      rw [h2] at hr
      unfold m_call at hr
      obtain ⟨q, hq, hr⟩ := Option.bind_eq_some_iff.mp hr
      obtain ⟨n1, hn1⟩ := m_ev_run hq
      obtain ⟨n2, hn2⟩ := m_ev_run hr
      refine m_ev_of (n := max n1 n2 + 1) ?_
      have h3 := hF (m_run (max n1 n2))
      dsimp only at h3
      show m_step (m_run (max n1 n2)) y k ls st h = some r
      rw [h3]
      unfold m_call
      rw [m_run_le (Nat.le_max_left n1 n2) hn1]
      exact m_run_le (Nat.le_max_right n1 n2) hn2
  cases h1 : m_ev y k ls st h with
  | some r => exact (fwd r h1).symm
  | none =>
    cases h2 : m_step m_ev y k ls st h with
    | none => rfl
    | some r => rw [bwd r h2] at h1; cases h1
def m_stK (e : MF) : Nat → MF
  | 0 => e
  | n + 1 => m_step (m_stK e n)
theorem m_evK : ∀ n, m_ev = m_stK m_ev n := by
  intro n
  induction n with
  | zero => rfl
  | succ n ih =>
    funext y k ls st h
    rw [m_ev_eq]
    show m_step m_ev y k ls st h = m_step (m_stK m_ev n) y k ls st h
    rw [← ih]
theorem m_evB (n : Nat) {y k : Nat} {ls : ML} {st : List Value} {h : MH} {r : MR} (hr : m_stK m_ev n y k ls st h = r) : m_ev y k ls st h = r := by
  rw [m_evK n]; exact hr
/-- the cells grow -/
theorem m_grow : ∀ (n y k : Nat) (ls : ML) (st : List Value) (h : MH) (v : Option Value) (h' : MH), m_run n y k ls st h = some (v, h') → m_le h h' := by
  intro n
  induction n with
  | zero => intro y k ls st h v h' hr; cases hr
  | succ n ih =>
    intro y k ls st h v h' hr
    have hr : m_step (m_run n) y k ls st h = some (v, h') := hr
    rcases m_shape y k ls st h with ⟨r0, hl, hF⟩ | ⟨y1, k1, l1, s1, h1, hl, hF⟩ | ⟨z, y1, k1, as, l1, s1, h1, hl, hF⟩
    · have h2 := hF (m_run n)
      dsimp only at h2
      rw [h2] at hr
      exact hl v h' hr
    · have h2 := hF (m_run n)
      dsimp only at h2
      rw [h2] at hr
      exact m_le_tr hl (ih _ _ _ _ _ _ _ hr)
    · have h2 := hF (m_run n)
      dsimp only at h2
      rw [h2] at hr
      unfold m_call at hr
      obtain ⟨q, hq, hr⟩ := Option.bind_eq_some_iff.mp hr
      exact m_le_tr hl (m_le_tr (ih _ _ _ _ _ _ _ hq) (ih _ _ _ _ _ _ _ hr))
end
section
/-! what the tables say of the codes, decided by the kernel -/
def m_name (y : Nat) : MethodName := (bif Nat.blt y 82 then (bif Nat.blt y 41 then (bif Nat.blt y 20 then (bif Nat.blt y 10 then (bif Nat.blt y 5 then (bif Nat.blt y 2 then (bif Nat.blt y 1 then yX0_init else yX0_clear) else (bif Nat.blt y 3 then yX0_addWord else (bif Nat.blt y 4 then yX0_addWay else yX0_addAsker))) else (bif Nat.blt y 7 then (bif Nat.blt y 6 then yX0_hasPlace else yX0_hasWay) else (bif Nat.blt y 8 then yX0_hasAsker else (bif Nat.blt y 9 then yX0_wordAt else yX0_spotAround)))) else (bif Nat.blt y 15 then (bif Nat.blt y 12 then (bif Nat.blt y 11 then yX0_otherEnd else yX0_hoursBy) else (bif Nat.blt y 13 then yX1_init else (bif Nat.blt y 14 then yX1_start else yX1_copy))) else (bif Nat.blt y 17 then (bif Nat.blt y 16 then yX1_spotIn else yX1_uppermost) else (bif Nat.blt y 18 then yX1_goOn else (bif Nat.blt y 19 then yX1_turnOnePlace else yX1_isOnTop))))) else (bif Nat.blt y 30 then (bif Nat.blt y 25 then (bif Nat.blt y 22 then (bif Nat.blt y 21 then yX1_manyOnTop else yX1_readersOfWishes) else (bif Nat.blt y 23 then yX1_hoursToSetOut else (bif Nat.blt y 24 then yX1_leave else yX2_init))) else (bif Nat.blt y 27 then (bif Nat.blt y 26 then yX2_look else yX2_comesAgainBehind) else (bif Nat.blt y 28 then yX2_wordIn else (bif Nat.blt y 29 then yX2_soonestWord else yX2_prepare)))) else (bif Nat.blt y 35 then (bif Nat.blt y 32 then (bif Nat.blt y 31 then yX2_mark else yX2_whoIsAt) else (bif Nat.blt y 33 then yX2_spread else (bif Nat.blt y 34 then yX2_spreadByWays else yX2_onTop))) else (bif Nat.blt y 38 then (bif Nat.blt y 36 then yX2_soonestTopOfAny else (bif Nat.blt y 37 then yX3_init else yX3_copyOut)) else (bif Nat.blt y 39 then yX3_copyItem else (bif Nat.blt y 40 then yX3_copyRing else yX3_copyLaw)))))) else (bif Nat.blt y 61 then (bif Nat.blt y 51 then (bif Nat.blt y 46 then (bif Nat.blt y 43 then (bif Nat.blt y 42 then yX3_copyPlaces else yX3_copyWay) else (bif Nat.blt y 44 then yX3_copyAsker else (bif Nat.blt y 45 then yX3_takesNumbers else yX3_takeFigure))) else (bif Nat.blt y 48 then (bif Nat.blt y 47 then yX3_takes else yX3_isAtFigure) else (bif Nat.blt y 49 then yX4_init else (bif Nat.blt y 50 then yX4_clear else yX4_push)))) else (bif Nat.blt y 56 then (bif Nat.blt y 53 then (bif Nat.blt y 52 then yX4_pop else yX5_init) else (bif Nat.blt y 54 then yX5_add else (bif Nat.blt y 55 then yX5_fits else yX6_init))) else (bif Nat.blt y 58 then (bif Nat.blt y 57 then yX6_append else yX6_letterAt) else (bif Nat.blt y 59 then yX7_init else (bif Nat.blt y 60 then yX7_write else yX7_wipe))))) else (bif Nat.blt y 71 then (bif Nat.blt y 66 then (bif Nat.blt y 63 then (bif Nat.blt y 62 then yX7_fault else yX7_lay) else (bif Nat.blt y 64 then yX7_word else (bif Nat.blt y 65 then yX7_way else yX7_asker))) else (bif Nat.blt y 68 then (bif Nat.blt y 67 then yX7_pass else yX7_setOut) else (bif Nat.blt y 69 then yX7_foot else (bif Nat.blt y 70 then yX7_graze else yX7_undo)))) else (bif Nat.blt y 76 then (bif Nat.blt y 73 then (bif Nat.blt y 72 then yX7_upper else yX7_round) else (bif Nat.blt y 74 then yX7_top else (bif Nat.blt y 75 then yX7_read else yX7_both))) else (bif Nat.blt y 79 then (bif Nat.blt y 77 then yX7_hold else (bif Nat.blt y 78 then yX7_first else yX7_see)) else (bif Nat.blt y 80 then yX7_forget else (bif Nat.blt y 81 then yX7_laws else yX7_from))))))) else (bif Nat.blt y 123 then (bif Nat.blt y 102 then (bif Nat.blt y 92 then (bif Nat.blt y 87 then (bif Nat.blt y 84 then (bif Nat.blt y 83 then yX7_grazing else yX7_year) else (bif Nat.blt y 85 then yX7_keep else (bif Nat.blt y 86 then yX7_back else yX7_count))) else (bif Nat.blt y 89 then (bif Nat.blt y 88 then yX7_firstHill else yX7_isWord) else (bif Nat.blt y 90 then yX7_soonestTop else (bif Nat.blt y 91 then yX7_getsHisWish else yX7_lowestBit)))) else (bif Nat.blt y 97 then (bif Nat.blt y 94 then (bif Nat.blt y 93 then yX7_weighTurns else yX7_commonDivisor) else (bif Nat.blt y 95 then yX7_draw else (bif Nat.blt y 96 then yX7_setOutByDraw else yX8_init))) else (bif Nat.blt y 99 then (bif Nat.blt y 98 then yX8_tellsRing else yX8_tellsWay) else (bif Nat.blt y 100 then yX8_tellsAsker else (bif Nat.blt y 101 then yX8_in else yX8_has))))) else (bif Nat.blt y 112 then (bif Nat.blt y 107 then (bif Nat.blt y 104 then (bif Nat.blt y 103 then yX8_isWay else yX8_isAsker) else (bif Nat.blt y 105 then yX8_isWord else (bif Nat.blt y 106 then yX8_write else yX8_wipe))) else (bif Nat.blt y 109 then (bif Nat.blt y 108 then yX8_letterAt else yX8_isFigure) else (bif Nat.blt y 110 then yX8_readNumbers else (bif Nat.blt y 111 then yX8_isTold else yX8_clearTold)))) else (bif Nat.blt y 117 then (bif Nat.blt y 114 then (bif Nat.blt y 113 then yX8_wordOf else yX8_readRingOf) else (bif Nat.blt y 115 then yX8_readTurnOf else (bif Nat.blt y 116 then yX8_readPlacesOf else yX8_readWayOf))) else (bif Nat.blt y 120 then (bif Nat.blt y 118 then yX8_readAskerOf else (bif Nat.blt y 119 then yX8_readItem else yX8_fault)) else (bif Nat.blt y 121 then yX8_lay else (bif Nat.blt y 122 then yX8_copies else yX8_settles)))))) else (bif Nat.blt y 143 then (bif Nat.blt y 133 then (bif Nat.blt y 128 then (bif Nat.blt y 125 then (bif Nat.blt y 124 then yX8_turnsBy else yX8_findUps) else (bif Nat.blt y 126 then yX8_wordBy else (bif Nat.blt y 127 then yX8_hoursOf else yX8_word))) else (bif Nat.blt y 130 then (bif Nat.blt y 129 then yX8_way else yX8_isOnTop) else (bif Nat.blt y 131 then yX8_asker else (bif Nat.blt y 132 then yX8_remembers else yX8_goes)))) else (bif Nat.blt y 138 then (bif Nat.blt y 135 then (bif Nat.blt y 134 then yX8_pass else yX8_leadsFrom) else (bif Nat.blt y 136 then yX8_otherEnd else (bif Nat.blt y 137 then yX8_setsOut else yX8_setOut))) else (bif Nat.blt y 140 then (bif Nat.blt y 139 then yX8_foot else yX8_graze) else (bif Nat.blt y 141 then yX8_undo else (bif Nat.blt y 142 then yX8_upper else yX8_round))))) else (bif Nat.blt y 153 then (bif Nat.blt y 148 then (bif Nat.blt y 145 then (bif Nat.blt y 144 then yX8_findCan else yX8_topBy) else (bif Nat.blt y 146 then yX8_findOf else (bif Nat.blt y 147 then yX8_top else yX8_read))) else (bif Nat.blt y 150 then (bif Nat.blt y 149 then yX8_both else yX8_hold) else (bif Nat.blt y 151 then yX8_first else (bif Nat.blt y 152 then yX8_see else yX8_forget)))) else (bif Nat.blt y 158 then (bif Nat.blt y 155 then (bif Nat.blt y 154 then yX8_laws else yX8_from) else (bif Nat.blt y 156 then yX8_grazing else (bif Nat.blt y 157 then yX8_year else yX8_onTop))) else (bif Nat.blt y 161 then (bif Nat.blt y 159 then yX8_keep else (bif Nat.blt y 160 then yX8_back else yX8_count)) else (bif Nat.blt y 162 then yJ9_floorMod_7cf53 else (bif Nat.blt y 163 then yJ9_max_7cf53 else yJ9_min_7cf53))))))))
def m_bytes (y : Nat) : ByteArray := (bif Nat.blt y 82 then (bif Nat.blt y 41 then (bif Nat.blt y 20 then (bif Nat.blt y 10 then (bif Nat.blt y 5 then (bif Nat.blt y 2 then (bif Nat.blt y 1 then cX0_init else cX0_clear) else (bif Nat.blt y 3 then cX0_addWord else (bif Nat.blt y 4 then cX0_addWay else cX0_addAsker))) else (bif Nat.blt y 7 then (bif Nat.blt y 6 then cX0_hasPlace else cX0_hasWay) else (bif Nat.blt y 8 then cX0_hasAsker else (bif Nat.blt y 9 then cX0_wordAt else cX0_spotAround)))) else (bif Nat.blt y 15 then (bif Nat.blt y 12 then (bif Nat.blt y 11 then cX0_otherEnd else cX0_hoursBy) else (bif Nat.blt y 13 then cX1_init else (bif Nat.blt y 14 then cX1_start else cX1_copy))) else (bif Nat.blt y 17 then (bif Nat.blt y 16 then cX1_spotIn else cX1_uppermost) else (bif Nat.blt y 18 then cX1_goOn else (bif Nat.blt y 19 then cX1_turnOnePlace else cX1_isOnTop))))) else (bif Nat.blt y 30 then (bif Nat.blt y 25 then (bif Nat.blt y 22 then (bif Nat.blt y 21 then cX1_manyOnTop else cX1_readersOfWishes) else (bif Nat.blt y 23 then cX1_hoursToSetOut else (bif Nat.blt y 24 then cX1_leave else cX2_init))) else (bif Nat.blt y 27 then (bif Nat.blt y 26 then cX2_look else cX2_comesAgainBehind) else (bif Nat.blt y 28 then cX2_wordIn else (bif Nat.blt y 29 then cX2_soonestWord else cX2_prepare)))) else (bif Nat.blt y 35 then (bif Nat.blt y 32 then (bif Nat.blt y 31 then cX2_mark else cX2_whoIsAt) else (bif Nat.blt y 33 then cX2_spread else (bif Nat.blt y 34 then cX2_spreadByWays else cX2_onTop))) else (bif Nat.blt y 38 then (bif Nat.blt y 36 then cX2_soonestTopOfAny else (bif Nat.blt y 37 then cX3_init else cX3_copyOut)) else (bif Nat.blt y 39 then cX3_copyItem else (bif Nat.blt y 40 then cX3_copyRing else cX3_copyLaw)))))) else (bif Nat.blt y 61 then (bif Nat.blt y 51 then (bif Nat.blt y 46 then (bif Nat.blt y 43 then (bif Nat.blt y 42 then cX3_copyPlaces else cX3_copyWay) else (bif Nat.blt y 44 then cX3_copyAsker else (bif Nat.blt y 45 then cX3_takesNumbers else cX3_takeFigure))) else (bif Nat.blt y 48 then (bif Nat.blt y 47 then cX3_takes else cX3_isAtFigure) else (bif Nat.blt y 49 then cX4_init else (bif Nat.blt y 50 then cX4_clear else cX4_push)))) else (bif Nat.blt y 56 then (bif Nat.blt y 53 then (bif Nat.blt y 52 then cX4_pop else cX5_init) else (bif Nat.blt y 54 then cX5_add else (bif Nat.blt y 55 then cX5_fits else cX6_init))) else (bif Nat.blt y 58 then (bif Nat.blt y 57 then cX6_append else cX6_letterAt) else (bif Nat.blt y 59 then cX7_init else (bif Nat.blt y 60 then cX7_write else cX7_wipe))))) else (bif Nat.blt y 71 then (bif Nat.blt y 66 then (bif Nat.blt y 63 then (bif Nat.blt y 62 then cX7_fault else cX7_lay) else (bif Nat.blt y 64 then cX7_word else (bif Nat.blt y 65 then cX7_way else cX7_asker))) else (bif Nat.blt y 68 then (bif Nat.blt y 67 then cX7_pass else cX7_setOut) else (bif Nat.blt y 69 then cX7_foot else (bif Nat.blt y 70 then cX7_graze else cX7_undo)))) else (bif Nat.blt y 76 then (bif Nat.blt y 73 then (bif Nat.blt y 72 then cX7_upper else cX7_round) else (bif Nat.blt y 74 then cX7_top else (bif Nat.blt y 75 then cX7_read else cX7_both))) else (bif Nat.blt y 79 then (bif Nat.blt y 77 then cX7_hold else (bif Nat.blt y 78 then cX7_first else cX7_see)) else (bif Nat.blt y 80 then cX7_forget else (bif Nat.blt y 81 then cX7_laws else cX7_from))))))) else (bif Nat.blt y 123 then (bif Nat.blt y 102 then (bif Nat.blt y 92 then (bif Nat.blt y 87 then (bif Nat.blt y 84 then (bif Nat.blt y 83 then cX7_grazing else cX7_year) else (bif Nat.blt y 85 then cX7_keep else (bif Nat.blt y 86 then cX7_back else cX7_count))) else (bif Nat.blt y 89 then (bif Nat.blt y 88 then cX7_firstHill else cX7_isWord) else (bif Nat.blt y 90 then cX7_soonestTop else (bif Nat.blt y 91 then cX7_getsHisWish else cX7_lowestBit)))) else (bif Nat.blt y 97 then (bif Nat.blt y 94 then (bif Nat.blt y 93 then cX7_weighTurns else cX7_commonDivisor) else (bif Nat.blt y 95 then cX7_draw else (bif Nat.blt y 96 then cX7_setOutByDraw else cX8_init))) else (bif Nat.blt y 99 then (bif Nat.blt y 98 then cX8_tellsRing else cX8_tellsWay) else (bif Nat.blt y 100 then cX8_tellsAsker else (bif Nat.blt y 101 then cX8_in else cX8_has))))) else (bif Nat.blt y 112 then (bif Nat.blt y 107 then (bif Nat.blt y 104 then (bif Nat.blt y 103 then cX8_isWay else cX8_isAsker) else (bif Nat.blt y 105 then cX8_isWord else (bif Nat.blt y 106 then cX8_write else cX8_wipe))) else (bif Nat.blt y 109 then (bif Nat.blt y 108 then cX8_letterAt else cX8_isFigure) else (bif Nat.blt y 110 then cX8_readNumbers else (bif Nat.blt y 111 then cX8_isTold else cX8_clearTold)))) else (bif Nat.blt y 117 then (bif Nat.blt y 114 then (bif Nat.blt y 113 then cX8_wordOf else cX8_readRingOf) else (bif Nat.blt y 115 then cX8_readTurnOf else (bif Nat.blt y 116 then cX8_readPlacesOf else cX8_readWayOf))) else (bif Nat.blt y 120 then (bif Nat.blt y 118 then cX8_readAskerOf else (bif Nat.blt y 119 then cX8_readItem else cX8_fault)) else (bif Nat.blt y 121 then cX8_lay else (bif Nat.blt y 122 then cX8_copies else cX8_settles)))))) else (bif Nat.blt y 143 then (bif Nat.blt y 133 then (bif Nat.blt y 128 then (bif Nat.blt y 125 then (bif Nat.blt y 124 then cX8_turnsBy else cX8_findUps) else (bif Nat.blt y 126 then cX8_wordBy else (bif Nat.blt y 127 then cX8_hoursOf else cX8_word))) else (bif Nat.blt y 130 then (bif Nat.blt y 129 then cX8_way else cX8_isOnTop) else (bif Nat.blt y 131 then cX8_asker else (bif Nat.blt y 132 then cX8_remembers else cX8_goes)))) else (bif Nat.blt y 138 then (bif Nat.blt y 135 then (bif Nat.blt y 134 then cX8_pass else cX8_leadsFrom) else (bif Nat.blt y 136 then cX8_otherEnd else (bif Nat.blt y 137 then cX8_setsOut else cX8_setOut))) else (bif Nat.blt y 140 then (bif Nat.blt y 139 then cX8_foot else cX8_graze) else (bif Nat.blt y 141 then cX8_undo else (bif Nat.blt y 142 then cX8_upper else cX8_round))))) else (bif Nat.blt y 153 then (bif Nat.blt y 148 then (bif Nat.blt y 145 then (bif Nat.blt y 144 then cX8_findCan else cX8_topBy) else (bif Nat.blt y 146 then cX8_findOf else (bif Nat.blt y 147 then cX8_top else cX8_read))) else (bif Nat.blt y 150 then (bif Nat.blt y 149 then cX8_both else cX8_hold) else (bif Nat.blt y 151 then cX8_first else (bif Nat.blt y 152 then cX8_see else cX8_forget)))) else (bif Nat.blt y 158 then (bif Nat.blt y 155 then (bif Nat.blt y 154 then cX8_laws else cX8_from) else (bif Nat.blt y 156 then cX8_grazing else (bif Nat.blt y 157 then cX8_year else cX8_onTop))) else (bif Nat.blt y 161 then (bif Nat.blt y 159 then cX8_keep else (bif Nat.blt y 160 then cX8_back else cX8_count)) else (bif Nat.blt y 162 then cJ9_floorMod_7cf53 else (bif Nat.blt y 163 then cJ9_max_7cf53 else cJ9_min_7cf53))))))))
def m_retT (y : Nat) : Option FieldType := (bif Nat.blt y 82 then (bif Nat.blt y 41 then (bif Nat.blt y 20 then (bif Nat.blt y 10 then (bif Nat.blt y 5 then (bif Nat.blt y 2 then (bif Nat.blt y 1 then none else none) else (bif Nat.blt y 3 then (some .boolean) else (bif Nat.blt y 4 then (some .boolean) else (some .boolean)))) else (bif Nat.blt y 7 then (bif Nat.blt y 6 then (some .boolean) else (some .boolean)) else (bif Nat.blt y 8 then (some .boolean) else (bif Nat.blt y 9 then (some .int) else (some .int))))) else (bif Nat.blt y 15 then (bif Nat.blt y 12 then (bif Nat.blt y 11 then (some .int) else (some .int)) else (bif Nat.blt y 13 then none else (bif Nat.blt y 14 then none else none))) else (bif Nat.blt y 17 then (bif Nat.blt y 16 then (some .int) else (some .int)) else (bif Nat.blt y 18 then none else (bif Nat.blt y 19 then none else (some .boolean)))))) else (bif Nat.blt y 30 then (bif Nat.blt y 25 then (bif Nat.blt y 22 then (bif Nat.blt y 21 then (some .int) else (some .int)) else (bif Nat.blt y 23 then (some .int) else (bif Nat.blt y 24 then none else none))) else (bif Nat.blt y 27 then (bif Nat.blt y 26 then none else (some .boolean)) else (bif Nat.blt y 28 then (some .int) else (bif Nat.blt y 29 then (some .int) else none)))) else (bif Nat.blt y 35 then (bif Nat.blt y 32 then (bif Nat.blt y 31 then none else (some .int)) else (bif Nat.blt y 33 then none else (bif Nat.blt y 34 then none else (some .int)))) else (bif Nat.blt y 38 then (bif Nat.blt y 36 then (some .int) else (bif Nat.blt y 37 then none else (some .int))) else (bif Nat.blt y 39 then (some .boolean) else (bif Nat.blt y 40 then (some .boolean) else (some .boolean))))))) else (bif Nat.blt y 61 then (bif Nat.blt y 51 then (bif Nat.blt y 46 then (bif Nat.blt y 43 then (bif Nat.blt y 42 then (some .boolean) else (some .boolean)) else (bif Nat.blt y 44 then (some .boolean) else (bif Nat.blt y 45 then (some .boolean) else (some .int)))) else (bif Nat.blt y 48 then (bif Nat.blt y 47 then (some .boolean) else (some .boolean)) else (bif Nat.blt y 49 then none else (bif Nat.blt y 50 then none else none)))) else (bif Nat.blt y 56 then (bif Nat.blt y 53 then (bif Nat.blt y 52 then none else none) else (bif Nat.blt y 54 then (some .boolean) else (bif Nat.blt y 55 then (some .boolean) else none))) else (bif Nat.blt y 58 then (bif Nat.blt y 57 then (some .boolean) else (some .char)) else (bif Nat.blt y 59 then none else (bif Nat.blt y 60 then (some .int) else (some .int)))))) else (bif Nat.blt y 71 then (bif Nat.blt y 66 then (bif Nat.blt y 63 then (bif Nat.blt y 62 then (some .int) else (some .int)) else (bif Nat.blt y 64 then (some .int) else (bif Nat.blt y 65 then (some .int) else (some .int)))) else (bif Nat.blt y 68 then (bif Nat.blt y 67 then (some .int) else (some .int)) else (bif Nat.blt y 69 then (some .int) else (bif Nat.blt y 70 then (some .int) else (some .int))))) else (bif Nat.blt y 76 then (bif Nat.blt y 73 then (bif Nat.blt y 72 then (some .int) else (some .int)) else (bif Nat.blt y 74 then (some .int) else (bif Nat.blt y 75 then (some .int) else (some .int)))) else (bif Nat.blt y 79 then (bif Nat.blt y 77 then (some .int) else (bif Nat.blt y 78 then (some .int) else (some .int))) else (bif Nat.blt y 80 then (some .int) else (bif Nat.blt y 81 then (some .int) else (some .int)))))))) else (bif Nat.blt y 123 then (bif Nat.blt y 102 then (bif Nat.blt y 92 then (bif Nat.blt y 87 then (bif Nat.blt y 84 then (bif Nat.blt y 83 then (some .int) else (some .int)) else (bif Nat.blt y 85 then (some .int) else (bif Nat.blt y 86 then (some .int) else (some .int)))) else (bif Nat.blt y 89 then (bif Nat.blt y 88 then (some (.object "OracleWheel$Hill")) else (some .boolean)) else (bif Nat.blt y 90 then (some .int) else (bif Nat.blt y 91 then (some .boolean) else (some .int))))) else (bif Nat.blt y 97 then (bif Nat.blt y 94 then (bif Nat.blt y 93 then (some .int) else (some .int)) else (bif Nat.blt y 95 then (some .int) else (bif Nat.blt y 96 then none else none))) else (bif Nat.blt y 99 then (bif Nat.blt y 98 then none else none) else (bif Nat.blt y 100 then none else (bif Nat.blt y 101 then (some .boolean) else (some .boolean)))))) else (bif Nat.blt y 112 then (bif Nat.blt y 107 then (bif Nat.blt y 104 then (bif Nat.blt y 103 then (some .boolean) else (some .boolean)) else (bif Nat.blt y 105 then (some .boolean) else (bif Nat.blt y 106 then (some .int) else (some .int)))) else (bif Nat.blt y 109 then (bif Nat.blt y 108 then (some .int) else (some .boolean)) else (bif Nat.blt y 110 then (some .boolean) else (bif Nat.blt y 111 then (some .boolean) else none)))) else (bif Nat.blt y 117 then (bif Nat.blt y 114 then (bif Nat.blt y 113 then (some .int) else (some .boolean)) else (bif Nat.blt y 115 then (some .boolean) else (bif Nat.blt y 116 then (some .boolean) else (some .boolean)))) else (bif Nat.blt y 120 then (bif Nat.blt y 118 then (some .boolean) else (bif Nat.blt y 119 then (some .boolean) else (some .int))) else (bif Nat.blt y 121 then (some .int) else (bif Nat.blt y 122 then none else none)))))) else (bif Nat.blt y 143 then (bif Nat.blt y 133 then (bif Nat.blt y 128 then (bif Nat.blt y 125 then (bif Nat.blt y 124 then (some .int) else none) else (bif Nat.blt y 126 then (some .int) else (bif Nat.blt y 127 then (some .int) else (some .int)))) else (bif Nat.blt y 130 then (bif Nat.blt y 129 then (some .int) else (some .boolean)) else (bif Nat.blt y 131 then (some .int) else (bif Nat.blt y 132 then none else none)))) else (bif Nat.blt y 138 then (bif Nat.blt y 135 then (bif Nat.blt y 134 then (some .int) else (some .boolean)) else (bif Nat.blt y 136 then (some .int) else (bif Nat.blt y 137 then (some .int) else (some .int)))) else (bif Nat.blt y 140 then (bif Nat.blt y 139 then (some .int) else (some .int)) else (bif Nat.blt y 141 then (some .int) else (bif Nat.blt y 142 then (some .int) else (some .int)))))) else (bif Nat.blt y 153 then (bif Nat.blt y 148 then (bif Nat.blt y 145 then (bif Nat.blt y 144 then none else (some .int)) else (bif Nat.blt y 146 then none else (bif Nat.blt y 147 then (some .int) else (some .int)))) else (bif Nat.blt y 150 then (bif Nat.blt y 149 then (some .int) else (some .int)) else (bif Nat.blt y 151 then (some .int) else (bif Nat.blt y 152 then (some .int) else (some .int))))) else (bif Nat.blt y 158 then (bif Nat.blt y 155 then (bif Nat.blt y 154 then (some .int) else (some .int)) else (bif Nat.blt y 156 then (some .int) else (bif Nat.blt y 157 then (some .int) else (some .int)))) else (bif Nat.blt y 161 then (bif Nat.blt y 159 then (some .int) else (bif Nat.blt y 160 then (some .int) else (some .int))) else (bif Nat.blt y 162 then (some .int) else (bif Nat.blt y 163 then (some .int) else (some .int)))))))))
def m_own (y : Nat) : String := (bif Nat.blt y 82 then (bif Nat.blt y 41 then (bif Nat.blt y 20 then (bif Nat.blt y 10 then (bif Nat.blt y 5 then (bif Nat.blt y 2 then (bif Nat.blt y 1 then RX0 else RX0) else (bif Nat.blt y 3 then RX0 else (bif Nat.blt y 4 then RX0 else RX0))) else (bif Nat.blt y 7 then (bif Nat.blt y 6 then RX0 else RX0) else (bif Nat.blt y 8 then RX0 else (bif Nat.blt y 9 then RX0 else RX0)))) else (bif Nat.blt y 15 then (bif Nat.blt y 12 then (bif Nat.blt y 11 then RX0 else RX0) else (bif Nat.blt y 13 then RX1 else (bif Nat.blt y 14 then RX1 else RX1))) else (bif Nat.blt y 17 then (bif Nat.blt y 16 then RX1 else RX1) else (bif Nat.blt y 18 then RX1 else (bif Nat.blt y 19 then RX1 else RX1))))) else (bif Nat.blt y 30 then (bif Nat.blt y 25 then (bif Nat.blt y 22 then (bif Nat.blt y 21 then RX1 else RX1) else (bif Nat.blt y 23 then RX1 else (bif Nat.blt y 24 then RX1 else RX2))) else (bif Nat.blt y 27 then (bif Nat.blt y 26 then RX2 else RX2) else (bif Nat.blt y 28 then RX2 else (bif Nat.blt y 29 then RX2 else RX2)))) else (bif Nat.blt y 35 then (bif Nat.blt y 32 then (bif Nat.blt y 31 then RX2 else RX2) else (bif Nat.blt y 33 then RX2 else (bif Nat.blt y 34 then RX2 else RX2))) else (bif Nat.blt y 38 then (bif Nat.blt y 36 then RX2 else (bif Nat.blt y 37 then RX3 else RX3)) else (bif Nat.blt y 39 then RX3 else (bif Nat.blt y 40 then RX3 else RX3)))))) else (bif Nat.blt y 61 then (bif Nat.blt y 51 then (bif Nat.blt y 46 then (bif Nat.blt y 43 then (bif Nat.blt y 42 then RX3 else RX3) else (bif Nat.blt y 44 then RX3 else (bif Nat.blt y 45 then RX3 else RX3))) else (bif Nat.blt y 48 then (bif Nat.blt y 47 then RX3 else RX3) else (bif Nat.blt y 49 then RX4 else (bif Nat.blt y 50 then RX4 else RX4)))) else (bif Nat.blt y 56 then (bif Nat.blt y 53 then (bif Nat.blt y 52 then RX4 else RX5) else (bif Nat.blt y 54 then RX5 else (bif Nat.blt y 55 then RX5 else RX6))) else (bif Nat.blt y 58 then (bif Nat.blt y 57 then RX6 else RX6) else (bif Nat.blt y 59 then RX7 else (bif Nat.blt y 60 then RX7 else RX7))))) else (bif Nat.blt y 71 then (bif Nat.blt y 66 then (bif Nat.blt y 63 then (bif Nat.blt y 62 then RX7 else RX7) else (bif Nat.blt y 64 then RX7 else (bif Nat.blt y 65 then RX7 else RX7))) else (bif Nat.blt y 68 then (bif Nat.blt y 67 then RX7 else RX7) else (bif Nat.blt y 69 then RX7 else (bif Nat.blt y 70 then RX7 else RX7)))) else (bif Nat.blt y 76 then (bif Nat.blt y 73 then (bif Nat.blt y 72 then RX7 else RX7) else (bif Nat.blt y 74 then RX7 else (bif Nat.blt y 75 then RX7 else RX7))) else (bif Nat.blt y 79 then (bif Nat.blt y 77 then RX7 else (bif Nat.blt y 78 then RX7 else RX7)) else (bif Nat.blt y 80 then RX7 else (bif Nat.blt y 81 then RX7 else RX7))))))) else (bif Nat.blt y 123 then (bif Nat.blt y 102 then (bif Nat.blt y 92 then (bif Nat.blt y 87 then (bif Nat.blt y 84 then (bif Nat.blt y 83 then RX7 else RX7) else (bif Nat.blt y 85 then RX7 else (bif Nat.blt y 86 then RX7 else RX7))) else (bif Nat.blt y 89 then (bif Nat.blt y 88 then RX7 else RX7) else (bif Nat.blt y 90 then RX7 else (bif Nat.blt y 91 then RX7 else RX7)))) else (bif Nat.blt y 97 then (bif Nat.blt y 94 then (bif Nat.blt y 93 then RX7 else RX7) else (bif Nat.blt y 95 then RX7 else (bif Nat.blt y 96 then RX7 else RX8))) else (bif Nat.blt y 99 then (bif Nat.blt y 98 then RX8 else RX8) else (bif Nat.blt y 100 then RX8 else (bif Nat.blt y 101 then RX8 else RX8))))) else (bif Nat.blt y 112 then (bif Nat.blt y 107 then (bif Nat.blt y 104 then (bif Nat.blt y 103 then RX8 else RX8) else (bif Nat.blt y 105 then RX8 else (bif Nat.blt y 106 then RX8 else RX8))) else (bif Nat.blt y 109 then (bif Nat.blt y 108 then RX8 else RX8) else (bif Nat.blt y 110 then RX8 else (bif Nat.blt y 111 then RX8 else RX8)))) else (bif Nat.blt y 117 then (bif Nat.blt y 114 then (bif Nat.blt y 113 then RX8 else RX8) else (bif Nat.blt y 115 then RX8 else (bif Nat.blt y 116 then RX8 else RX8))) else (bif Nat.blt y 120 then (bif Nat.blt y 118 then RX8 else (bif Nat.blt y 119 then RX8 else RX8)) else (bif Nat.blt y 121 then RX8 else (bif Nat.blt y 122 then RX8 else RX8)))))) else (bif Nat.blt y 143 then (bif Nat.blt y 133 then (bif Nat.blt y 128 then (bif Nat.blt y 125 then (bif Nat.blt y 124 then RX8 else RX8) else (bif Nat.blt y 126 then RX8 else (bif Nat.blt y 127 then RX8 else RX8))) else (bif Nat.blt y 130 then (bif Nat.blt y 129 then RX8 else RX8) else (bif Nat.blt y 131 then RX8 else (bif Nat.blt y 132 then RX8 else RX8)))) else (bif Nat.blt y 138 then (bif Nat.blt y 135 then (bif Nat.blt y 134 then RX8 else RX8) else (bif Nat.blt y 136 then RX8 else (bif Nat.blt y 137 then RX8 else RX8))) else (bif Nat.blt y 140 then (bif Nat.blt y 139 then RX8 else RX8) else (bif Nat.blt y 141 then RX8 else (bif Nat.blt y 142 then RX8 else RX8))))) else (bif Nat.blt y 153 then (bif Nat.blt y 148 then (bif Nat.blt y 145 then (bif Nat.blt y 144 then RX8 else RX8) else (bif Nat.blt y 146 then RX8 else (bif Nat.blt y 147 then RX8 else RX8))) else (bif Nat.blt y 150 then (bif Nat.blt y 149 then RX8 else RX8) else (bif Nat.blt y 151 then RX8 else (bif Nat.blt y 152 then RX8 else RX8)))) else (bif Nat.blt y 158 then (bif Nat.blt y 155 then (bif Nat.blt y 154 then RX8 else RX8) else (bif Nat.blt y 156 then RX8 else (bif Nat.blt y 157 then RX8 else RX8))) else (bif Nat.blt y 161 then (bif Nat.blt y 159 then RX8 else (bif Nat.blt y 160 then RX8 else RX8)) else (bif Nat.blt y 162 then RJ9 else (bif Nat.blt y 163 then RJ9 else RJ9))))))))
def m_frm (y : Nat) : Nat := (bif Nat.blt y 82 then (bif Nat.blt y 41 then (bif Nat.blt y 20 then (bif Nat.blt y 10 then (bif Nat.blt y 5 then (bif Nat.blt y 2 then (bif Nat.blt y 1 then 1 else 1) else (bif Nat.blt y 3 then 0 else (bif Nat.blt y 4 then 0 else 0))) else (bif Nat.blt y 7 then (bif Nat.blt y 6 then 0 else 0) else (bif Nat.blt y 8 then 0 else (bif Nat.blt y 9 then 0 else 1)))) else (bif Nat.blt y 15 then (bif Nat.blt y 12 then (bif Nat.blt y 11 then 1 else 1) else (bif Nat.blt y 13 then 1 else (bif Nat.blt y 14 then 0 else 0))) else (bif Nat.blt y 17 then (bif Nat.blt y 16 then 1 else 2) else (bif Nat.blt y 18 then 2 else (bif Nat.blt y 19 then 2 else 0))))) else (bif Nat.blt y 30 then (bif Nat.blt y 25 then (bif Nat.blt y 22 then (bif Nat.blt y 21 then 1 else 3) else (bif Nat.blt y 23 then 3 else (bif Nat.blt y 24 then 4 else 1))) else (bif Nat.blt y 27 then (bif Nat.blt y 26 then 3 else 1) else (bif Nat.blt y 28 then 0 else (bif Nat.blt y 29 then 1 else 4)))) else (bif Nat.blt y 35 then (bif Nat.blt y 32 then (bif Nat.blt y 31 then 0 else 0) else (bif Nat.blt y 33 then 3 else (bif Nat.blt y 34 then 2 else 1))) else (bif Nat.blt y 38 then (bif Nat.blt y 36 then 2 else (bif Nat.blt y 37 then 1 else 7)) else (bif Nat.blt y 39 then 6 else (bif Nat.blt y 40 then 5 else 3)))))) else (bif Nat.blt y 61 then (bif Nat.blt y 51 then (bif Nat.blt y 46 then (bif Nat.blt y 43 then (bif Nat.blt y 42 then 3 else 3) else (bif Nat.blt y 44 then 3 else (bif Nat.blt y 45 then 2 else 1))) else (bif Nat.blt y 48 then (bif Nat.blt y 47 then 1 else 1) else (bif Nat.blt y 49 then 2 else (bif Nat.blt y 50 then 0 else 1)))) else (bif Nat.blt y 56 then (bif Nat.blt y 53 then (bif Nat.blt y 52 then 1 else 1) else (bif Nat.blt y 54 then 0 else (bif Nat.blt y 55 then 2 else 1))) else (bif Nat.blt y 58 then (bif Nat.blt y 57 then 0 else 0) else (bif Nat.blt y 59 then 9 else (bif Nat.blt y 60 then 1 else 0))))) else (bif Nat.blt y 71 then (bif Nat.blt y 66 then (bif Nat.blt y 63 then (bif Nat.blt y 62 then 8 else 8) else (bif Nat.blt y 64 then 1 else (bif Nat.blt y 65 then 3 else 3))) else (bif Nat.blt y 68 then (bif Nat.blt y 67 then 3 else 5) else (bif Nat.blt y 69 then 3 else (bif Nat.blt y 70 then 3 else 2)))) else (bif Nat.blt y 76 then (bif Nat.blt y 73 then (bif Nat.blt y 72 then 3 else 4) else (bif Nat.blt y 74 then 6 else (bif Nat.blt y 75 then 6 else 6))) else (bif Nat.blt y 79 then (bif Nat.blt y 77 then 7 else (bif Nat.blt y 78 then 5 else 1)) else (bif Nat.blt y 80 then 0 else (bif Nat.blt y 81 then 3 else 5))))))) else (bif Nat.blt y 123 then (bif Nat.blt y 102 then (bif Nat.blt y 92 then (bif Nat.blt y 87 then (bif Nat.blt y 84 then (bif Nat.blt y 83 then 2 else 6) else (bif Nat.blt y 85 then 2 else (bif Nat.blt y 86 then 2 else 2))) else (bif Nat.blt y 89 then (bif Nat.blt y 88 then 8 else 0) else (bif Nat.blt y 90 then 5 else (bif Nat.blt y 91 then 6 else 0)))) else (bif Nat.blt y 97 then (bif Nat.blt y 94 then (bif Nat.blt y 93 then 0 else 0) else (bif Nat.blt y 95 then 0 else (bif Nat.blt y 96 then 5 else 2))) else (bif Nat.blt y 99 then (bif Nat.blt y 98 then 0 else 0) else (bif Nat.blt y 100 then 0 else (bif Nat.blt y 101 then 0 else 0))))) else (bif Nat.blt y 112 then (bif Nat.blt y 107 then (bif Nat.blt y 104 then (bif Nat.blt y 103 then 1 else 1) else (bif Nat.blt y 105 then 1 else (bif Nat.blt y 106 then 1 else 0))) else (bif Nat.blt y 109 then (bif Nat.blt y 108 then 0 else 1) else (bif Nat.blt y 110 then 2 else (bif Nat.blt y 111 then 1 else 0)))) else (bif Nat.blt y 117 then (bif Nat.blt y 114 then (bif Nat.blt y 113 then 0 else 1) else (bif Nat.blt y 115 then 3 else (bif Nat.blt y 116 then 3 else 3))) else (bif Nat.blt y 120 then (bif Nat.blt y 118 then 3 else (bif Nat.blt y 119 then 4 else 5)) else (bif Nat.blt y 121 then 6 else (bif Nat.blt y 122 then 0 else 1)))))) else (bif Nat.blt y 143 then (bif Nat.blt y 133 then (bif Nat.blt y 128 then (bif Nat.blt y 125 then (bif Nat.blt y 124 then 0 else 1) else (bif Nat.blt y 126 then 0 else (bif Nat.blt y 127 then 1 else 0))) else (bif Nat.blt y 130 then (bif Nat.blt y 129 then 2 else 0) else (bif Nat.blt y 131 then 2 else (bif Nat.blt y 132 then 1 else 1)))) else (bif Nat.blt y 138 then (bif Nat.blt y 135 then (bif Nat.blt y 134 then 2 else 0) else (bif Nat.blt y 136 then 0 else (bif Nat.blt y 137 then 2 else 3))) else (bif Nat.blt y 140 then (bif Nat.blt y 139 then 2 else 2) else (bif Nat.blt y 141 then 1 else (bif Nat.blt y 142 then 2 else 2))))) else (bif Nat.blt y 153 then (bif Nat.blt y 148 then (bif Nat.blt y 145 then (bif Nat.blt y 144 then 2 else 1) else (bif Nat.blt y 146 then 3 else (bif Nat.blt y 147 then 4 else 4))) else (bif Nat.blt y 150 then (bif Nat.blt y 149 then 4 else 4) else (bif Nat.blt y 151 then 4 else (bif Nat.blt y 152 then 2 else 0)))) else (bif Nat.blt y 158 then (bif Nat.blt y 155 then (bif Nat.blt y 154 then 2 else 3) else (bif Nat.blt y 156 then 2 else (bif Nat.blt y 157 then 3 else 1))) else (bif Nat.blt y 161 then (bif Nat.blt y 159 then 1 else (bif Nat.blt y 160 then 1 else 2)) else (bif Nat.blt y 162 then 0 else (bif Nat.blt y 163 then 0 else 0))))))))
def m_loc (y : Nat) : Nat := (bif Nat.blt y 82 then (bif Nat.blt y 41 then (bif Nat.blt y 20 then (bif Nat.blt y 10 then (bif Nat.blt y 5 then (bif Nat.blt y 2 then (bif Nat.blt y 1 then 20 else 21) else (bif Nat.blt y 3 then 0 else (bif Nat.blt y 4 then 0 else 0))) else (bif Nat.blt y 7 then (bif Nat.blt y 6 then 0 else 0) else (bif Nat.blt y 8 then 0 else (bif Nat.blt y 9 then 0 else 22)))) else (bif Nat.blt y 15 then (bif Nat.blt y 12 then (bif Nat.blt y 11 then 21 else 21) else (bif Nat.blt y 13 then 20 else (bif Nat.blt y 14 then 0 else 0))) else (bif Nat.blt y 17 then (bif Nat.blt y 16 then 22 else 49) else (bif Nat.blt y 18 then 49 else (bif Nat.blt y 19 then 43 else 0))))) else (bif Nat.blt y 30 then (bif Nat.blt y 25 then (bif Nat.blt y 22 then (bif Nat.blt y 21 then 21 else 71) else (bif Nat.blt y 23 then 71 else (bif Nat.blt y 24 then 94 else 20))) else (bif Nat.blt y 27 then (bif Nat.blt y 26 then 71 else 21) else (bif Nat.blt y 28 then 0 else (bif Nat.blt y 29 then 21 else 95)))) else (bif Nat.blt y 35 then (bif Nat.blt y 32 then (bif Nat.blt y 31 then 0 else 0) else (bif Nat.blt y 33 then 72 else (bif Nat.blt y 34 then 44 else 22))) else (bif Nat.blt y 38 then (bif Nat.blt y 36 then 43 else (bif Nat.blt y 37 then 20 else 185)) else (bif Nat.blt y 39 then 163 else (bif Nat.blt y 40 then 140 else 64)))))) else (bif Nat.blt y 61 then (bif Nat.blt y 51 then (bif Nat.blt y 46 then (bif Nat.blt y 43 then (bif Nat.blt y 42 then 64 else 64) else (bif Nat.blt y 44 then 64 else (bif Nat.blt y 45 then 42 else 21))) else (bif Nat.blt y 48 then (bif Nat.blt y 47 then 21 else 21) else (bif Nat.blt y 49 then 40 else (bif Nat.blt y 50 then 0 else 22)))) else (bif Nat.blt y 56 then (bif Nat.blt y 53 then (bif Nat.blt y 52 then 22 else 20) else (bif Nat.blt y 54 then 0 else (bif Nat.blt y 55 then 49 else 20))) else (bif Nat.blt y 58 then (bif Nat.blt y 57 then 0 else 0) else (bif Nat.blt y 59 then 230 else (bif Nat.blt y 60 then 21 else 0))))) else (bif Nat.blt y 71 then (bif Nat.blt y 66 then (bif Nat.blt y 63 then (bif Nat.blt y 62 then 209 else 209) else (bif Nat.blt y 64 then 21 else (bif Nat.blt y 65 then 71 else 71))) else (bif Nat.blt y 68 then (bif Nat.blt y 67 then 72 else 118) else (bif Nat.blt y 69 then 71 else (bif Nat.blt y 70 then 71 else 44)))) else (bif Nat.blt y 76 then (bif Nat.blt y 73 then (bif Nat.blt y 72 then 71 else 95) else (bif Nat.blt y 74 then 140 else (bif Nat.blt y 75 then 140 else 140))) else (bif Nat.blt y 79 then (bif Nat.blt y 77 then 163 else (bif Nat.blt y 78 then 118 else 22)) else (bif Nat.blt y 80 then 0 else (bif Nat.blt y 81 then 74 else 118))))))) else (bif Nat.blt y 123 then (bif Nat.blt y 102 then (bif Nat.blt y 92 then (bif Nat.blt y 87 then (bif Nat.blt y 84 then (bif Nat.blt y 83 then 49 else 139) else (bif Nat.blt y 85 then 43 else (bif Nat.blt y 86 then 44 else 44))) else (bif Nat.blt y 89 then (bif Nat.blt y 88 then 209 else 0) else (bif Nat.blt y 90 then 118 else (bif Nat.blt y 91 then 140 else 0)))) else (bif Nat.blt y 97 then (bif Nat.blt y 94 then (bif Nat.blt y 93 then 0 else 0) else (bif Nat.blt y 95 then 0 else (bif Nat.blt y 96 then 118 else 46))) else (bif Nat.blt y 99 then (bif Nat.blt y 98 then 0 else 0) else (bif Nat.blt y 100 then 0 else (bif Nat.blt y 101 then 0 else 0))))) else (bif Nat.blt y 112 then (bif Nat.blt y 107 then (bif Nat.blt y 104 then (bif Nat.blt y 103 then 22 else 22) else (bif Nat.blt y 105 then 22 else (bif Nat.blt y 106 then 22 else 0))) else (bif Nat.blt y 109 then (bif Nat.blt y 108 then 0 else 22) else (bif Nat.blt y 110 then 42 else (bif Nat.blt y 111 then 22 else 0)))) else (bif Nat.blt y 117 then (bif Nat.blt y 114 then (bif Nat.blt y 113 then 0 else 21) else (bif Nat.blt y 115 then 64 else (bif Nat.blt y 116 then 64 else 64))) else (bif Nat.blt y 120 then (bif Nat.blt y 118 then 64 else (bif Nat.blt y 119 then 85 else 106)) else (bif Nat.blt y 121 then 127 else (bif Nat.blt y 122 then 0 else 25)))))) else (bif Nat.blt y 143 then (bif Nat.blt y 133 then (bif Nat.blt y 128 then (bif Nat.blt y 125 then (bif Nat.blt y 124 then 0 else 24) else (bif Nat.blt y 126 then 0 else (bif Nat.blt y 127 then 21 else 0))) else (bif Nat.blt y 130 then (bif Nat.blt y 129 then 49 else 0) else (bif Nat.blt y 131 then 43 else (bif Nat.blt y 132 then 25 else 24)))) else (bif Nat.blt y 138 then (bif Nat.blt y 135 then (bif Nat.blt y 134 then 46 else 0) else (bif Nat.blt y 136 then 0 else (bif Nat.blt y 137 then 45 else 68))) else (bif Nat.blt y 140 then (bif Nat.blt y 139 then 46 else 46) else (bif Nat.blt y 141 then 25 else (bif Nat.blt y 142 then 49 else 49))))) else (bif Nat.blt y 153 then (bif Nat.blt y 148 then (bif Nat.blt y 145 then (bif Nat.blt y 144 then 45 else 21) else (bif Nat.blt y 146 then 71 else (bif Nat.blt y 147 then 93 else 93))) else (bif Nat.blt y 150 then (bif Nat.blt y 149 then 93 else 93) else (bif Nat.blt y 151 then 93 else (bif Nat.blt y 152 then 42 else 0)))) else (bif Nat.blt y 158 then (bif Nat.blt y 155 then (bif Nat.blt y 154 then 49 else 71) else (bif Nat.blt y 156 then 49 else (bif Nat.blt y 157 then 68 else 21))) else (bif Nat.blt y 161 then (bif Nat.blt y 159 then 25 else (bif Nat.blt y 160 then 25 else 43)) else (bif Nat.blt y 162 then 0 else (bif Nat.blt y 163 then 0 else 0))))))))
def m_stat (y : Nat) : Bool := (bif Nat.blt y 82 then (bif Nat.blt y 41 then (bif Nat.blt y 20 then (bif Nat.blt y 10 then (bif Nat.blt y 5 then (bif Nat.blt y 2 then (bif Nat.blt y 1 then false else false) else (bif Nat.blt y 3 then false else (bif Nat.blt y 4 then false else false))) else (bif Nat.blt y 7 then (bif Nat.blt y 6 then false else false) else (bif Nat.blt y 8 then false else (bif Nat.blt y 9 then false else false)))) else (bif Nat.blt y 15 then (bif Nat.blt y 12 then (bif Nat.blt y 11 then false else false) else (bif Nat.blt y 13 then false else (bif Nat.blt y 14 then false else false))) else (bif Nat.blt y 17 then (bif Nat.blt y 16 then false else false) else (bif Nat.blt y 18 then false else (bif Nat.blt y 19 then false else false))))) else (bif Nat.blt y 30 then (bif Nat.blt y 25 then (bif Nat.blt y 22 then (bif Nat.blt y 21 then false else false) else (bif Nat.blt y 23 then false else (bif Nat.blt y 24 then false else false))) else (bif Nat.blt y 27 then (bif Nat.blt y 26 then false else false) else (bif Nat.blt y 28 then false else (bif Nat.blt y 29 then false else false)))) else (bif Nat.blt y 35 then (bif Nat.blt y 32 then (bif Nat.blt y 31 then false else false) else (bif Nat.blt y 33 then false else (bif Nat.blt y 34 then false else false))) else (bif Nat.blt y 38 then (bif Nat.blt y 36 then false else (bif Nat.blt y 37 then false else false)) else (bif Nat.blt y 39 then false else (bif Nat.blt y 40 then false else false)))))) else (bif Nat.blt y 61 then (bif Nat.blt y 51 then (bif Nat.blt y 46 then (bif Nat.blt y 43 then (bif Nat.blt y 42 then false else false) else (bif Nat.blt y 44 then false else (bif Nat.blt y 45 then false else false))) else (bif Nat.blt y 48 then (bif Nat.blt y 47 then false else false) else (bif Nat.blt y 49 then false else (bif Nat.blt y 50 then false else false)))) else (bif Nat.blt y 56 then (bif Nat.blt y 53 then (bif Nat.blt y 52 then false else false) else (bif Nat.blt y 54 then false else (bif Nat.blt y 55 then false else false))) else (bif Nat.blt y 58 then (bif Nat.blt y 57 then false else false) else (bif Nat.blt y 59 then false else (bif Nat.blt y 60 then false else false))))) else (bif Nat.blt y 71 then (bif Nat.blt y 66 then (bif Nat.blt y 63 then (bif Nat.blt y 62 then false else false) else (bif Nat.blt y 64 then false else (bif Nat.blt y 65 then false else false))) else (bif Nat.blt y 68 then (bif Nat.blt y 67 then false else false) else (bif Nat.blt y 69 then false else (bif Nat.blt y 70 then false else false)))) else (bif Nat.blt y 76 then (bif Nat.blt y 73 then (bif Nat.blt y 72 then false else false) else (bif Nat.blt y 74 then false else (bif Nat.blt y 75 then false else false))) else (bif Nat.blt y 79 then (bif Nat.blt y 77 then false else (bif Nat.blt y 78 then false else false)) else (bif Nat.blt y 80 then false else (bif Nat.blt y 81 then false else false))))))) else (bif Nat.blt y 123 then (bif Nat.blt y 102 then (bif Nat.blt y 92 then (bif Nat.blt y 87 then (bif Nat.blt y 84 then (bif Nat.blt y 83 then false else false) else (bif Nat.blt y 85 then false else (bif Nat.blt y 86 then false else false))) else (bif Nat.blt y 89 then (bif Nat.blt y 88 then true else true) else (bif Nat.blt y 90 then false else (bif Nat.blt y 91 then false else true)))) else (bif Nat.blt y 97 then (bif Nat.blt y 94 then (bif Nat.blt y 93 then false else true) else (bif Nat.blt y 95 then true else (bif Nat.blt y 96 then false else false))) else (bif Nat.blt y 99 then (bif Nat.blt y 98 then false else false) else (bif Nat.blt y 100 then false else (bif Nat.blt y 101 then true else true))))) else (bif Nat.blt y 112 then (bif Nat.blt y 107 then (bif Nat.blt y 104 then (bif Nat.blt y 103 then false else false) else (bif Nat.blt y 105 then true else (bif Nat.blt y 106 then false else false))) else (bif Nat.blt y 109 then (bif Nat.blt y 108 then false else true) else (bif Nat.blt y 110 then false else (bif Nat.blt y 111 then false else false)))) else (bif Nat.blt y 117 then (bif Nat.blt y 114 then (bif Nat.blt y 113 then true else false) else (bif Nat.blt y 115 then false else (bif Nat.blt y 116 then false else false))) else (bif Nat.blt y 120 then (bif Nat.blt y 118 then false else (bif Nat.blt y 119 then false else false)) else (bif Nat.blt y 121 then false else (bif Nat.blt y 122 then true else false)))))) else (bif Nat.blt y 143 then (bif Nat.blt y 133 then (bif Nat.blt y 128 then (bif Nat.blt y 125 then (bif Nat.blt y 124 then false else false) else (bif Nat.blt y 126 then false else (bif Nat.blt y 127 then false else false))) else (bif Nat.blt y 130 then (bif Nat.blt y 129 then false else false) else (bif Nat.blt y 131 then false else (bif Nat.blt y 132 then false else false)))) else (bif Nat.blt y 138 then (bif Nat.blt y 135 then (bif Nat.blt y 134 then false else false) else (bif Nat.blt y 136 then false else (bif Nat.blt y 137 then false else false))) else (bif Nat.blt y 140 then (bif Nat.blt y 139 then false else false) else (bif Nat.blt y 141 then false else (bif Nat.blt y 142 then false else false))))) else (bif Nat.blt y 153 then (bif Nat.blt y 148 then (bif Nat.blt y 145 then (bif Nat.blt y 144 then false else false) else (bif Nat.blt y 146 then false else (bif Nat.blt y 147 then false else false))) else (bif Nat.blt y 150 then (bif Nat.blt y 149 then false else false) else (bif Nat.blt y 151 then false else (bif Nat.blt y 152 then false else false)))) else (bif Nat.blt y 158 then (bif Nat.blt y 155 then (bif Nat.blt y 154 then false else false) else (bif Nat.blt y 156 then false else (bif Nat.blt y 157 then false else false))) else (bif Nat.blt y 161 then (bif Nat.blt y 159 then false else (bif Nat.blt y 160 then false else false)) else (bif Nat.blt y 162 then true else (bif Nat.blt y 163 then true else true))))))))
def m_C (c : Nat) : vw_C := (bif Nat.blt c 4 then (bif Nat.blt c 2 then (bif Nat.blt c 1 then (RX0, TX0, 14) else (RX1, TX1, 6)) else (bif Nat.blt c 3 then (RX2, TX2, 2) else (RX3, TX3, 3))) else (bif Nat.blt c 6 then (bif Nat.blt c 5 then (RX4, TX4, 3) else (RX5, TX5, 3)) else (bif Nat.blt c 7 then (RX6, TX6, 2) else (bif Nat.blt c 8 then (RX7, TX7, 11) else (RX8, TX8, 36)))))
def m_ty (c : Nat) : Nat → FieldType := (bif Nat.blt c 4 then (bif Nat.blt c 2 then (bif Nat.blt c 1 then tyX0 else tyX1) else (bif Nat.blt c 3 then tyX2 else tyX3)) else (bif Nat.blt c 6 then (bif Nat.blt c 5 then tyX4 else tyX5) else (bif Nat.blt c 7 then tyX6 else (bif Nat.blt c 8 then tyX7 else tyX8))))
def m_pCode (y : Nat) : Nat := (bif Nat.blt y 82 then (bif Nat.blt y 41 then (bif Nat.blt y 20 then (bif Nat.blt y 10 then (bif Nat.blt y 5 then (bif Nat.blt y 2 then (bif Nat.blt y 1 then 134 else 230) else (bif Nat.blt y 3 then 234 else (bif Nat.blt y 4 then 343 else 354))) else (bif Nat.blt y 7 then (bif Nat.blt y 6 then 339 else 509) else (bif Nat.blt y 8 then 535 else (bif Nat.blt y 9 then 501 else 593)))) else (bif Nat.blt y 15 then (bif Nat.blt y 12 then (bif Nat.blt y 11 then 570 else 526) else (bif Nat.blt y 13 then 359 else (bif Nat.blt y 14 then 439 else 551))) else (bif Nat.blt y 17 then (bif Nat.blt y 16 then 517 else 513) else (bif Nat.blt y 18 then 556 else (bif Nat.blt y 19 then 589 else 539))))) else (bif Nat.blt y 30 then (bif Nat.blt y 25 then (bif Nat.blt y 22 then (bif Nat.blt y 21 then 757 else 752) else (bif Nat.blt y 23 then 565 else (bif Nat.blt y 24 then 576 else 427))) else (bif Nat.blt y 27 then (bif Nat.blt y 26 then 614 else 619) else (bif Nat.blt y 28 then 623 else (bif Nat.blt y 29 then 672 else 635)))) else (bif Nat.blt y 35 then (bif Nat.blt y 32 then (bif Nat.blt y 31 then 640 else 648) else (bif Nat.blt y 33 then 644 else (bif Nat.blt y 34 then 653 else 663))) else (bif Nat.blt y 38 then (bif Nat.blt y 36 then 659 else (bif Nat.blt y 37 then 211 else 226)) else (bif Nat.blt y 39 then 242 else (bif Nat.blt y 40 then 246 else 311)))))) else (bif Nat.blt y 61 then (bif Nat.blt y 51 then (bif Nat.blt y 46 then (bif Nat.blt y 43 then (bif Nat.blt y 42 then 331 else 335) else (bif Nat.blt y 44 then 347 else (bif Nat.blt y 45 then 315 else 327))) else (bif Nat.blt y 48 then (bif Nat.blt y 47 then 319 else 323) else (bif Nat.blt y 49 then 389 else (bif Nat.blt y 50 then 493 else 547)))) else (bif Nat.blt y 56 then (bif Nat.blt y 53 then (bif Nat.blt y 52 then 602 else 410) else (bif Nat.blt y 54 then 703 else (bif Nat.blt y 55 then 715 else 65))) else (bif Nat.blt y 58 then (bif Nat.blt y 57 then 129 else 238) else (bif Nat.blt y 59 then 54 else (bif Nat.blt y 60 then 477 else 481))))) else (bif Nat.blt y 71 then (bif Nat.blt y 66 then (bif Nat.blt y 63 then (bif Nat.blt y 62 then 485 else 489) else (bif Nat.blt y 64 then 497 else (bif Nat.blt y 65 then 505 else 531))) else (bif Nat.blt y 68 then (bif Nat.blt y 67 then 543 else 561) else (bif Nat.blt y 69 then 581 else (bif Nat.blt y 70 then 585 else 598)))) else (bif Nat.blt y 76 then (bif Nat.blt y 73 then (bif Nat.blt y 72 then 606 else 610) else (bif Nat.blt y 74 then 627 else (bif Nat.blt y 75 then 667 else 676))) else (bif Nat.blt y 79 then (bif Nat.blt y 77 then 681 else (bif Nat.blt y 78 then 690 else 699)) else (bif Nat.blt y 80 then 707 else (bif Nat.blt y 81 then 711 else 721))))))) else (bif Nat.blt y 123 then (bif Nat.blt y 102 then (bif Nat.blt y 92 then (bif Nat.blt y 87 then (bif Nat.blt y 84 then (bif Nat.blt y 83 then 725 else 738) else (bif Nat.blt y 85 then 761 else (bif Nat.blt y 86 then 765 else 769))) else (bif Nat.blt y 89 then (bif Nat.blt y 88 then 60 else 350) else (bif Nat.blt y 90 then 631 else (bif Nat.blt y 91 then 685 else 695)))) else (bif Nat.blt y 97 then (bif Nat.blt y 94 then (bif Nat.blt y 93 then 729 else 734) else (bif Nat.blt y 95 then 741 else (bif Nat.blt y 96 then 748 else 774))) else (bif Nat.blt y 99 then (bif Nat.blt y 98 then 783 else 787) else (bif Nat.blt y 100 then 791 else (bif Nat.blt y 101 then 914 else 1072))))) else (bif Nat.blt y 112 then (bif Nat.blt y 107 then (bif Nat.blt y 104 then (bif Nat.blt y 103 then 981 else 1005) else (bif Nat.blt y 105 then 1083 else (bif Nat.blt y 106 then 911 else 918))) else (bif Nat.blt y 109 then (bif Nat.blt y 108 then 930 else 948) else (bif Nat.blt y 110 then 945 else (bif Nat.blt y 111 then 952 else 779)))) else (bif Nat.blt y 117 then (bif Nat.blt y 114 then (bif Nat.blt y 113 then 937 else 934) else (bif Nat.blt y 115 then 941 else (bif Nat.blt y 116 then 956 else 960))) else (bif Nat.blt y 120 then (bif Nat.blt y 118 then 964 else (bif Nat.blt y 119 then 926 else 922)) else (bif Nat.blt y 121 then 968 else (bif Nat.blt y 122 then 798 else 795)))))) else (bif Nat.blt y 143 then (bif Nat.blt y 133 then (bif Nat.blt y 128 then (bif Nat.blt y 125 then (bif Nat.blt y 124 then 989 else 985) else (bif Nat.blt y 126 then 997 else (bif Nat.blt y 127 then 993 else 973))) else (bif Nat.blt y 130 then (bif Nat.blt y 129 then 977 else 1009) else (bif Nat.blt y 131 then 1001 else (bif Nat.blt y 132 then 1017 else 1021)))) else (bif Nat.blt y 138 then (bif Nat.blt y 135 then (bif Nat.blt y 134 then 1013 else 1029) else (bif Nat.blt y 136 then 1037 else (bif Nat.blt y 137 then 1033 else 1025))) else (bif Nat.blt y 140 then (bif Nat.blt y 139 then 1041 else 1045) else (bif Nat.blt y 141 then 1049 else (bif Nat.blt y 142 then 1053 else 1057))))) else (bif Nat.blt y 153 then (bif Nat.blt y 148 then (bif Nat.blt y 145 then (bif Nat.blt y 144 then 1069 else 1076) else (bif Nat.blt y 146 then 1065 else (bif Nat.blt y 147 then 1061 else 1080))) else (bif Nat.blt y 150 then (bif Nat.blt y 149 then 1087 else 1091) else (bif Nat.blt y 151 then 1095 else (bif Nat.blt y 152 then 1099 else 1103)))) else (bif Nat.blt y 158 then (bif Nat.blt y 155 then (bif Nat.blt y 154 then 1107 else 1111) else (bif Nat.blt y 156 then 1115 else (bif Nat.blt y 157 then 1119 else 1126))) else (bif Nat.blt y 161 then (bif Nat.blt y 159 then 1130 else (bif Nat.blt y 160 then 1134 else 1138)) else (bif Nat.blt y 162 then 521 else (bif Nat.blt y 163 then 265 else 268))))))))
def m_pInst (y : Nat) : Nat := (bif Nat.blt y 82 then (bif Nat.blt y 41 then (bif Nat.blt y 20 then (bif Nat.blt y 10 then (bif Nat.blt y 5 then (bif Nat.blt y 2 then (bif Nat.blt y 1 then 133 else 228) else (bif Nat.blt y 3 then 232 else (bif Nat.blt y 4 then 341 else 352))) else (bif Nat.blt y 7 then (bif Nat.blt y 6 then 337 else 507) else (bif Nat.blt y 8 then 533 else (bif Nat.blt y 9 then 499 else 591)))) else (bif Nat.blt y 15 then (bif Nat.blt y 12 then (bif Nat.blt y 11 then 568 else 524) else (bif Nat.blt y 13 then 358 else (bif Nat.blt y 14 then 437 else 549))) else (bif Nat.blt y 17 then (bif Nat.blt y 16 then 515 else 511) else (bif Nat.blt y 18 then 554 else (bif Nat.blt y 19 then 587 else 537))))) else (bif Nat.blt y 30 then (bif Nat.blt y 25 then (bif Nat.blt y 22 then (bif Nat.blt y 21 then 755 else 750) else (bif Nat.blt y 23 then 563 else (bif Nat.blt y 24 then 574 else 426))) else (bif Nat.blt y 27 then (bif Nat.blt y 26 then 612 else 617) else (bif Nat.blt y 28 then 621 else (bif Nat.blt y 29 then 670 else 633)))) else (bif Nat.blt y 35 then (bif Nat.blt y 32 then (bif Nat.blt y 31 then 638 else 646) else (bif Nat.blt y 33 then 642 else (bif Nat.blt y 34 then 651 else 661))) else (bif Nat.blt y 38 then (bif Nat.blt y 36 then 657 else (bif Nat.blt y 37 then 210 else 224)) else (bif Nat.blt y 39 then 240 else (bif Nat.blt y 40 then 244 else 309)))))) else (bif Nat.blt y 61 then (bif Nat.blt y 51 then (bif Nat.blt y 46 then (bif Nat.blt y 43 then (bif Nat.blt y 42 then 329 else 333) else (bif Nat.blt y 44 then 345 else (bif Nat.blt y 45 then 313 else 325))) else (bif Nat.blt y 48 then (bif Nat.blt y 47 then 317 else 321) else (bif Nat.blt y 49 then 388 else (bif Nat.blt y 50 then 491 else 545)))) else (bif Nat.blt y 56 then (bif Nat.blt y 53 then (bif Nat.blt y 52 then 600 else 409) else (bif Nat.blt y 54 then 701 else (bif Nat.blt y 55 then 713 else 64))) else (bif Nat.blt y 58 then (bif Nat.blt y 57 then 127 else 236) else (bif Nat.blt y 59 then 53 else (bif Nat.blt y 60 then 475 else 479))))) else (bif Nat.blt y 71 then (bif Nat.blt y 66 then (bif Nat.blt y 63 then (bif Nat.blt y 62 then 483 else 487) else (bif Nat.blt y 64 then 495 else (bif Nat.blt y 65 then 503 else 529))) else (bif Nat.blt y 68 then (bif Nat.blt y 67 then 541 else 559) else (bif Nat.blt y 69 then 579 else (bif Nat.blt y 70 then 583 else 596)))) else (bif Nat.blt y 76 then (bif Nat.blt y 73 then (bif Nat.blt y 72 then 604 else 608) else (bif Nat.blt y 74 then 625 else (bif Nat.blt y 75 then 665 else 674))) else (bif Nat.blt y 79 then (bif Nat.blt y 77 then 679 else (bif Nat.blt y 78 then 688 else 697)) else (bif Nat.blt y 80 then 705 else (bif Nat.blt y 81 then 709 else 719))))))) else (bif Nat.blt y 123 then (bif Nat.blt y 102 then (bif Nat.blt y 92 then (bif Nat.blt y 87 then (bif Nat.blt y 84 then (bif Nat.blt y 83 then 723 else 736) else (bif Nat.blt y 85 then 759 else (bif Nat.blt y 86 then 763 else 767))) else (bif Nat.blt y 89 then (bif Nat.blt y 88 then 59 else 349) else (bif Nat.blt y 90 then 630 else (bif Nat.blt y 91 then 684 else 694)))) else (bif Nat.blt y 97 then (bif Nat.blt y 94 then (bif Nat.blt y 93 then 728 else 733) else (bif Nat.blt y 95 then 740 else (bif Nat.blt y 96 then 747 else 773))) else (bif Nat.blt y 99 then (bif Nat.blt y 98 then 782 else 786) else (bif Nat.blt y 100 then 790 else (bif Nat.blt y 101 then 913 else 1071))))) else (bif Nat.blt y 112 then (bif Nat.blt y 107 then (bif Nat.blt y 104 then (bif Nat.blt y 103 then 980 else 1004) else (bif Nat.blt y 105 then 1082 else (bif Nat.blt y 106 then 909 else 916))) else (bif Nat.blt y 109 then (bif Nat.blt y 108 then 929 else 947) else (bif Nat.blt y 110 then 944 else (bif Nat.blt y 111 then 951 else 778)))) else (bif Nat.blt y 117 then (bif Nat.blt y 114 then (bif Nat.blt y 113 then 936 else 933) else (bif Nat.blt y 115 then 940 else (bif Nat.blt y 116 then 955 else 959))) else (bif Nat.blt y 120 then (bif Nat.blt y 118 then 963 else (bif Nat.blt y 119 then 925 else 920)) else (bif Nat.blt y 121 then 966 else (bif Nat.blt y 122 then 797 else 794)))))) else (bif Nat.blt y 143 then (bif Nat.blt y 133 then (bif Nat.blt y 128 then (bif Nat.blt y 125 then (bif Nat.blt y 124 then 988 else 984) else (bif Nat.blt y 126 then 996 else (bif Nat.blt y 127 then 992 else 971))) else (bif Nat.blt y 130 then (bif Nat.blt y 129 then 975 else 1008) else (bif Nat.blt y 131 then 999 else (bif Nat.blt y 132 then 1016 else 1020)))) else (bif Nat.blt y 138 then (bif Nat.blt y 135 then (bif Nat.blt y 134 then 1011 else 1028) else (bif Nat.blt y 136 then 1036 else (bif Nat.blt y 137 then 1032 else 1023))) else (bif Nat.blt y 140 then (bif Nat.blt y 139 then 1039 else 1043) else (bif Nat.blt y 141 then 1047 else (bif Nat.blt y 142 then 1051 else 1055))))) else (bif Nat.blt y 153 then (bif Nat.blt y 148 then (bif Nat.blt y 145 then (bif Nat.blt y 144 then 1068 else 1075) else (bif Nat.blt y 146 then 1064 else (bif Nat.blt y 147 then 1059 else 1078))) else (bif Nat.blt y 150 then (bif Nat.blt y 149 then 1085 else 1089) else (bif Nat.blt y 151 then 1093 else (bif Nat.blt y 152 then 1097 else 1101)))) else (bif Nat.blt y 158 then (bif Nat.blt y 155 then (bif Nat.blt y 154 then 1105 else 1109) else (bif Nat.blt y 156 then 1113 else (bif Nat.blt y 157 then 1117 else 1125))) else (bif Nat.blt y 161 then (bif Nat.blt y 159 then 1128 else (bif Nat.blt y 160 then 1132 else 1136)) else (bif Nat.blt y 162 then 520 else (bif Nat.blt y 163 then 264 else 267))))))))
def m_pSel (y : Nat) : Nat := (bif Nat.blt y 82 then (bif Nat.blt y 41 then (bif Nat.blt y 20 then (bif Nat.blt y 10 then (bif Nat.blt y 5 then (bif Nat.blt y 2 then (bif Nat.blt y 1 then 0 else 229) else (bif Nat.blt y 3 then 233 else (bif Nat.blt y 4 then 342 else 353))) else (bif Nat.blt y 7 then (bif Nat.blt y 6 then 338 else 508) else (bif Nat.blt y 8 then 534 else (bif Nat.blt y 9 then 500 else 592)))) else (bif Nat.blt y 15 then (bif Nat.blt y 12 then (bif Nat.blt y 11 then 569 else 525) else (bif Nat.blt y 13 then 0 else (bif Nat.blt y 14 then 438 else 550))) else (bif Nat.blt y 17 then (bif Nat.blt y 16 then 516 else 512) else (bif Nat.blt y 18 then 555 else (bif Nat.blt y 19 then 588 else 538))))) else (bif Nat.blt y 30 then (bif Nat.blt y 25 then (bif Nat.blt y 22 then (bif Nat.blt y 21 then 756 else 751) else (bif Nat.blt y 23 then 564 else (bif Nat.blt y 24 then 575 else 0))) else (bif Nat.blt y 27 then (bif Nat.blt y 26 then 613 else 618) else (bif Nat.blt y 28 then 622 else (bif Nat.blt y 29 then 671 else 634)))) else (bif Nat.blt y 35 then (bif Nat.blt y 32 then (bif Nat.blt y 31 then 639 else 647) else (bif Nat.blt y 33 then 643 else (bif Nat.blt y 34 then 652 else 662))) else (bif Nat.blt y 38 then (bif Nat.blt y 36 then 658 else (bif Nat.blt y 37 then 0 else 225)) else (bif Nat.blt y 39 then 241 else (bif Nat.blt y 40 then 245 else 310)))))) else (bif Nat.blt y 61 then (bif Nat.blt y 51 then (bif Nat.blt y 46 then (bif Nat.blt y 43 then (bif Nat.blt y 42 then 330 else 334) else (bif Nat.blt y 44 then 346 else (bif Nat.blt y 45 then 314 else 326))) else (bif Nat.blt y 48 then (bif Nat.blt y 47 then 318 else 322) else (bif Nat.blt y 49 then 0 else (bif Nat.blt y 50 then 492 else 546)))) else (bif Nat.blt y 56 then (bif Nat.blt y 53 then (bif Nat.blt y 52 then 601 else 0) else (bif Nat.blt y 54 then 702 else (bif Nat.blt y 55 then 714 else 0))) else (bif Nat.blt y 58 then (bif Nat.blt y 57 then 128 else 237) else (bif Nat.blt y 59 then 0 else (bif Nat.blt y 60 then 476 else 480))))) else (bif Nat.blt y 71 then (bif Nat.blt y 66 then (bif Nat.blt y 63 then (bif Nat.blt y 62 then 484 else 488) else (bif Nat.blt y 64 then 496 else (bif Nat.blt y 65 then 504 else 530))) else (bif Nat.blt y 68 then (bif Nat.blt y 67 then 542 else 560) else (bif Nat.blt y 69 then 580 else (bif Nat.blt y 70 then 584 else 597)))) else (bif Nat.blt y 76 then (bif Nat.blt y 73 then (bif Nat.blt y 72 then 605 else 609) else (bif Nat.blt y 74 then 626 else (bif Nat.blt y 75 then 666 else 675))) else (bif Nat.blt y 79 then (bif Nat.blt y 77 then 680 else (bif Nat.blt y 78 then 689 else 698)) else (bif Nat.blt y 80 then 706 else (bif Nat.blt y 81 then 710 else 720))))))) else (bif Nat.blt y 123 then (bif Nat.blt y 102 then (bif Nat.blt y 92 then (bif Nat.blt y 87 then (bif Nat.blt y 84 then (bif Nat.blt y 83 then 724 else 737) else (bif Nat.blt y 85 then 760 else (bif Nat.blt y 86 then 764 else 768))) else (bif Nat.blt y 89 then (bif Nat.blt y 88 then 0 else 0) else (bif Nat.blt y 90 then 0 else (bif Nat.blt y 91 then 1 else 0)))) else (bif Nat.blt y 97 then (bif Nat.blt y 94 then (bif Nat.blt y 93 then 2 else 0) else (bif Nat.blt y 95 then 0 else (bif Nat.blt y 96 then 3 else 0))) else (bif Nat.blt y 99 then (bif Nat.blt y 98 then 5 else 6) else (bif Nat.blt y 100 then 7 else (bif Nat.blt y 101 then 0 else 0))))) else (bif Nat.blt y 112 then (bif Nat.blt y 107 then (bif Nat.blt y 104 then (bif Nat.blt y 103 then 18 else 23) else (bif Nat.blt y 105 then 0 else (bif Nat.blt y 106 then 910 else 917))) else (bif Nat.blt y 109 then (bif Nat.blt y 108 then 10 else 0) else (bif Nat.blt y 110 then 13 else (bif Nat.blt y 111 then 14 else 4)))) else (bif Nat.blt y 117 then (bif Nat.blt y 114 then (bif Nat.blt y 113 then 0 else 11) else (bif Nat.blt y 115 then 12 else (bif Nat.blt y 116 then 15 else 16))) else (bif Nat.blt y 120 then (bif Nat.blt y 118 then 17 else (bif Nat.blt y 119 then 9 else 921)) else (bif Nat.blt y 121 then 967 else (bif Nat.blt y 122 then 0 else 8)))))) else (bif Nat.blt y 143 then (bif Nat.blt y 133 then (bif Nat.blt y 128 then (bif Nat.blt y 125 then (bif Nat.blt y 124 then 20 else 19) else (bif Nat.blt y 126 then 22 else (bif Nat.blt y 127 then 21 else 972))) else (bif Nat.blt y 130 then (bif Nat.blt y 129 then 976 else 24) else (bif Nat.blt y 131 then 1000 else (bif Nat.blt y 132 then 25 else 26)))) else (bif Nat.blt y 138 then (bif Nat.blt y 135 then (bif Nat.blt y 134 then 1012 else 27) else (bif Nat.blt y 136 then 29 else (bif Nat.blt y 137 then 28 else 1024))) else (bif Nat.blt y 140 then (bif Nat.blt y 139 then 1040 else 1044) else (bif Nat.blt y 141 then 1048 else (bif Nat.blt y 142 then 1052 else 1056))))) else (bif Nat.blt y 153 then (bif Nat.blt y 148 then (bif Nat.blt y 145 then (bif Nat.blt y 144 then 31 else 32) else (bif Nat.blt y 146 then 30 else (bif Nat.blt y 147 then 1060 else 1079))) else (bif Nat.blt y 150 then (bif Nat.blt y 149 then 1086 else 1090) else (bif Nat.blt y 151 then 1094 else (bif Nat.blt y 152 then 1098 else 1102)))) else (bif Nat.blt y 158 then (bif Nat.blt y 155 then (bif Nat.blt y 154 then 1106 else 1110) else (bif Nat.blt y 156 then 1114 else (bif Nat.blt y 157 then 1118 else 33))) else (bif Nat.blt y 161 then (bif Nat.blt y 159 then 1129 else (bif Nat.blt y 160 then 1133 else 1137)) else (bif Nat.blt y 162 then 0 else (bif Nat.blt y 163 then 0 else 0))))))))
def m_pIni (y : Nat) : Nat := (bif Nat.blt y 82 then (bif Nat.blt y 41 then (bif Nat.blt y 20 then (bif Nat.blt y 10 then (bif Nat.blt y 5 then (bif Nat.blt y 2 then (bif Nat.blt y 1 then 41 else 41) else (bif Nat.blt y 3 then 41 else (bif Nat.blt y 4 then 41 else 41))) else (bif Nat.blt y 7 then (bif Nat.blt y 6 then 41 else 41) else (bif Nat.blt y 8 then 41 else (bif Nat.blt y 9 then 41 else 41)))) else (bif Nat.blt y 15 then (bif Nat.blt y 12 then (bif Nat.blt y 11 then 41 else 41) else (bif Nat.blt y 13 then 45 else (bif Nat.blt y 14 then 45 else 45))) else (bif Nat.blt y 17 then (bif Nat.blt y 16 then 45 else 45) else (bif Nat.blt y 18 then 45 else (bif Nat.blt y 19 then 45 else 45))))) else (bif Nat.blt y 30 then (bif Nat.blt y 25 then (bif Nat.blt y 22 then (bif Nat.blt y 21 then 45 else 45) else (bif Nat.blt y 23 then 45 else (bif Nat.blt y 24 then 45 else 48))) else (bif Nat.blt y 27 then (bif Nat.blt y 26 then 48 else 48) else (bif Nat.blt y 28 then 48 else (bif Nat.blt y 29 then 48 else 48)))) else (bif Nat.blt y 35 then (bif Nat.blt y 32 then (bif Nat.blt y 31 then 48 else 48) else (bif Nat.blt y 33 then 48 else (bif Nat.blt y 34 then 48 else 48))) else (bif Nat.blt y 38 then (bif Nat.blt y 36 then 48 else (bif Nat.blt y 37 then 42 else 42)) else (bif Nat.blt y 39 then 42 else (bif Nat.blt y 40 then 42 else 42)))))) else (bif Nat.blt y 61 then (bif Nat.blt y 51 then (bif Nat.blt y 46 then (bif Nat.blt y 43 then (bif Nat.blt y 42 then 42 else 42) else (bif Nat.blt y 44 then 42 else (bif Nat.blt y 45 then 42 else 42))) else (bif Nat.blt y 48 then (bif Nat.blt y 47 then 42 else 42) else (bif Nat.blt y 49 then 46 else (bif Nat.blt y 50 then 46 else 46)))) else (bif Nat.blt y 56 then (bif Nat.blt y 53 then (bif Nat.blt y 52 then 46 else 47) else (bif Nat.blt y 54 then 47 else (bif Nat.blt y 55 then 47 else 36))) else (bif Nat.blt y 58 then (bif Nat.blt y 57 then 36 else 36) else (bif Nat.blt y 59 then 35 else (bif Nat.blt y 60 then 35 else 35))))) else (bif Nat.blt y 71 then (bif Nat.blt y 66 then (bif Nat.blt y 63 then (bif Nat.blt y 62 then 35 else 35) else (bif Nat.blt y 64 then 35 else (bif Nat.blt y 65 then 35 else 35))) else (bif Nat.blt y 68 then (bif Nat.blt y 67 then 35 else 35) else (bif Nat.blt y 69 then 35 else (bif Nat.blt y 70 then 35 else 35)))) else (bif Nat.blt y 76 then (bif Nat.blt y 73 then (bif Nat.blt y 72 then 35 else 35) else (bif Nat.blt y 74 then 35 else (bif Nat.blt y 75 then 35 else 35))) else (bif Nat.blt y 79 then (bif Nat.blt y 77 then 35 else (bif Nat.blt y 78 then 35 else 35)) else (bif Nat.blt y 80 then 35 else (bif Nat.blt y 81 then 35 else 35))))))) else (bif Nat.blt y 123 then (bif Nat.blt y 102 then (bif Nat.blt y 92 then (bif Nat.blt y 87 then (bif Nat.blt y 84 then (bif Nat.blt y 83 then 35 else 35) else (bif Nat.blt y 85 then 35 else (bif Nat.blt y 86 then 35 else 35))) else (bif Nat.blt y 89 then (bif Nat.blt y 88 then 35 else 35) else (bif Nat.blt y 90 then 35 else (bif Nat.blt y 91 then 35 else 35)))) else (bif Nat.blt y 97 then (bif Nat.blt y 94 then (bif Nat.blt y 93 then 35 else 35) else (bif Nat.blt y 95 then 35 else (bif Nat.blt y 96 then 35 else 49))) else (bif Nat.blt y 99 then (bif Nat.blt y 98 then 49 else 49) else (bif Nat.blt y 100 then 49 else (bif Nat.blt y 101 then 49 else 49))))) else (bif Nat.blt y 112 then (bif Nat.blt y 107 then (bif Nat.blt y 104 then (bif Nat.blt y 103 then 49 else 49) else (bif Nat.blt y 105 then 49 else (bif Nat.blt y 106 then 49 else 49))) else (bif Nat.blt y 109 then (bif Nat.blt y 108 then 49 else 49) else (bif Nat.blt y 110 then 49 else (bif Nat.blt y 111 then 49 else 49)))) else (bif Nat.blt y 117 then (bif Nat.blt y 114 then (bif Nat.blt y 113 then 49 else 49) else (bif Nat.blt y 115 then 49 else (bif Nat.blt y 116 then 49 else 49))) else (bif Nat.blt y 120 then (bif Nat.blt y 118 then 49 else (bif Nat.blt y 119 then 49 else 49)) else (bif Nat.blt y 121 then 49 else (bif Nat.blt y 122 then 49 else 49)))))) else (bif Nat.blt y 143 then (bif Nat.blt y 133 then (bif Nat.blt y 128 then (bif Nat.blt y 125 then (bif Nat.blt y 124 then 49 else 49) else (bif Nat.blt y 126 then 49 else (bif Nat.blt y 127 then 49 else 49))) else (bif Nat.blt y 130 then (bif Nat.blt y 129 then 49 else 49) else (bif Nat.blt y 131 then 49 else (bif Nat.blt y 132 then 49 else 49)))) else (bif Nat.blt y 138 then (bif Nat.blt y 135 then (bif Nat.blt y 134 then 49 else 49) else (bif Nat.blt y 136 then 49 else (bif Nat.blt y 137 then 49 else 49))) else (bif Nat.blt y 140 then (bif Nat.blt y 139 then 49 else 49) else (bif Nat.blt y 141 then 49 else (bif Nat.blt y 142 then 49 else 49))))) else (bif Nat.blt y 153 then (bif Nat.blt y 148 then (bif Nat.blt y 145 then (bif Nat.blt y 144 then 49 else 49) else (bif Nat.blt y 146 then 49 else (bif Nat.blt y 147 then 49 else 49))) else (bif Nat.blt y 150 then (bif Nat.blt y 149 then 49 else 49) else (bif Nat.blt y 151 then 49 else (bif Nat.blt y 152 then 49 else 49)))) else (bif Nat.blt y 158 then (bif Nat.blt y 155 then (bif Nat.blt y 154 then 49 else 49) else (bif Nat.blt y 156 then 49 else (bif Nat.blt y 157 then 49 else 49))) else (bif Nat.blt y 161 then (bif Nat.blt y 159 then 49 else (bif Nat.blt y 160 then 49 else 49)) else (bif Nat.blt y 162 then 43 else (bif Nat.blt y 163 then 43 else 43))))))))
def m_np (y : Nat) : Nat := (bif Nat.blt y 82 then (bif Nat.blt y 41 then (bif Nat.blt y 20 then (bif Nat.blt y 10 then (bif Nat.blt y 5 then (bif Nat.blt y 2 then (bif Nat.blt y 1 then 0 else 0) else (bif Nat.blt y 3 then 1 else (bif Nat.blt y 4 then 4 else 2))) else (bif Nat.blt y 7 then (bif Nat.blt y 6 then 1 else 1) else (bif Nat.blt y 8 then 1 else (bif Nat.blt y 9 then 1 else 1)))) else (bif Nat.blt y 15 then (bif Nat.blt y 12 then (bif Nat.blt y 11 then 2 else 3) else (bif Nat.blt y 13 then 0 else (bif Nat.blt y 14 then 1 else 1))) else (bif Nat.blt y 17 then (bif Nat.blt y 16 then 4 else 2) else (bif Nat.blt y 18 then 2 else (bif Nat.blt y 19 then 1 else 1))))) else (bif Nat.blt y 30 then (bif Nat.blt y 25 then (bif Nat.blt y 22 then (bif Nat.blt y 21 then 1 else 1) else (bif Nat.blt y 23 then 3 else (bif Nat.blt y 24 then 3 else 0))) else (bif Nat.blt y 27 then (bif Nat.blt y 26 then 3 else 1) else (bif Nat.blt y 28 then 1 else (bif Nat.blt y 29 then 2 else 2)))) else (bif Nat.blt y 35 then (bif Nat.blt y 32 then (bif Nat.blt y 31 then 3 else 2) else (bif Nat.blt y 33 then 2 else (bif Nat.blt y 34 then 4 else 1))) else (bif Nat.blt y 38 then (bif Nat.blt y 36 then 0 else (bif Nat.blt y 37 then 1 else 1)) else (bif Nat.blt y 39 then 2 else (bif Nat.blt y 40 then 1 else 1)))))) else (bif Nat.blt y 61 then (bif Nat.blt y 51 then (bif Nat.blt y 46 then (bif Nat.blt y 43 then (bif Nat.blt y 42 then 1 else 1) else (bif Nat.blt y 44 then 1 else (bif Nat.blt y 45 then 1 else 0))) else (bif Nat.blt y 48 then (bif Nat.blt y 47 then 1 else 0) else (bif Nat.blt y 49 then 1 else (bif Nat.blt y 50 then 0 else 1)))) else (bif Nat.blt y 56 then (bif Nat.blt y 53 then (bif Nat.blt y 52 then 1 else 0) else (bif Nat.blt y 54 then 2 else (bif Nat.blt y 55 then 4 else 0))) else (bif Nat.blt y 58 then (bif Nat.blt y 57 then 1 else 1) else (bif Nat.blt y 59 then 0 else (bif Nat.blt y 60 then 1 else 0))))) else (bif Nat.blt y 71 then (bif Nat.blt y 66 then (bif Nat.blt y 63 then (bif Nat.blt y 62 then 0 else 0) else (bif Nat.blt y 64 then 1 else (bif Nat.blt y 65 then 2 else 2))) else (bif Nat.blt y 68 then (bif Nat.blt y 67 then 1 else 2) else (bif Nat.blt y 69 then 1 else (bif Nat.blt y 70 then 0 else 0)))) else (bif Nat.blt y 76 then (bif Nat.blt y 73 then (bif Nat.blt y 72 then 1 else 0) else (bif Nat.blt y 74 then 1 else (bif Nat.blt y 75 then 2 else 3))) else (bif Nat.blt y 79 then (bif Nat.blt y 77 then 1 else (bif Nat.blt y 78 then 1 else 2)) else (bif Nat.blt y 80 then 0 else (bif Nat.blt y 81 then 1 else 2))))))) else (bif Nat.blt y 123 then (bif Nat.blt y 102 then (bif Nat.blt y 92 then (bif Nat.blt y 87 then (bif Nat.blt y 84 then (bif Nat.blt y 83 then 4 else 3) else (bif Nat.blt y 85 then 0 else (bif Nat.blt y 86 then 0 else 1))) else (bif Nat.blt y 89 then (bif Nat.blt y 88 then 0 else 1) else (bif Nat.blt y 90 then 2 else (bif Nat.blt y 91 then 2 else 1)))) else (bif Nat.blt y 97 then (bif Nat.blt y 94 then (bif Nat.blt y 93 then 2 else 2) else (bif Nat.blt y 95 then 2 else (bif Nat.blt y 96 then 1 else 0))) else (bif Nat.blt y 99 then (bif Nat.blt y 98 then 0 else 4) else (bif Nat.blt y 100 then 2 else (bif Nat.blt y 101 then 3 else 2))))) else (bif Nat.blt y 112 then (bif Nat.blt y 107 then (bif Nat.blt y 104 then (bif Nat.blt y 103 then 1 else 1) else (bif Nat.blt y 105 then 1 else (bif Nat.blt y 106 then 1 else 0))) else (bif Nat.blt y 109 then (bif Nat.blt y 108 then 1 else 1) else (bif Nat.blt y 110 then 1 else (bif Nat.blt y 111 then 3 else 0)))) else (bif Nat.blt y 117 then (bif Nat.blt y 114 then (bif Nat.blt y 113 then 1 else 0) else (bif Nat.blt y 115 then 0 else (bif Nat.blt y 116 then 0 else 0))) else (bif Nat.blt y 120 then (bif Nat.blt y 118 then 0 else (bif Nat.blt y 119 then 0 else 0)) else (bif Nat.blt y 121 then 0 else (bif Nat.blt y 122 then 5 else 0)))))) else (bif Nat.blt y 143 then (bif Nat.blt y 133 then (bif Nat.blt y 128 then (bif Nat.blt y 125 then (bif Nat.blt y 124 then 4 else 4) else (bif Nat.blt y 126 then 1 else (bif Nat.blt y 127 then 2 else 1))) else (bif Nat.blt y 130 then (bif Nat.blt y 129 then 2 else 1) else (bif Nat.blt y 131 then 2 else (bif Nat.blt y 132 then 0 else 0)))) else (bif Nat.blt y 138 then (bif Nat.blt y 135 then (bif Nat.blt y 134 then 1 else 2) else (bif Nat.blt y 136 then 2 else (bif Nat.blt y 137 then 2 else 2))) else (bif Nat.blt y 140 then (bif Nat.blt y 139 then 1 else 0) else (bif Nat.blt y 141 then 0 else (bif Nat.blt y 142 then 1 else 0))))) else (bif Nat.blt y 153 then (bif Nat.blt y 148 then (bif Nat.blt y 145 then (bif Nat.blt y 144 then 2 else 1) else (bif Nat.blt y 146 then 2 else (bif Nat.blt y 147 then 1 else 2))) else (bif Nat.blt y 150 then (bif Nat.blt y 149 then 3 else 1) else (bif Nat.blt y 151 then 1 else (bif Nat.blt y 152 then 2 else 0)))) else (bif Nat.blt y 158 then (bif Nat.blt y 155 then (bif Nat.blt y 154 then 1 else 2) else (bif Nat.blt y 156 then 4 else (bif Nat.blt y 157 then 3 else 0))) else (bif Nat.blt y 161 then (bif Nat.blt y 159 then 0 else (bif Nat.blt y 160 then 0 else 1)) else (bif Nat.blt y 162 then 2 else (bif Nat.blt y 163 then 2 else 2))))))))
def m_pLn (c k : Nat) : Nat := (bif Nat.blt c 4 then (bif Nat.blt c 2 then (bif Nat.blt c 1 then (bif Nat.blt k 37 then (bif Nat.blt k 21 then (bif Nat.blt k 15 then (bif Nat.blt k 9 then 135 else 136) else (bif Nat.blt k 18 then 137 else 139)) else (bif Nat.blt k 27 then (bif Nat.blt k 24 then 141 else 143) else (bif Nat.blt k 30 then 144 else (bif Nat.blt k 33 then 146 else 149)))) else (bif Nat.blt k 50 then (bif Nat.blt k 44 then (bif Nat.blt k 41 then 231 else 153) else (bif Nat.blt k 47 then 157 else 161)) else (bif Nat.blt k 56 then (bif Nat.blt k 53 then 164 else 168) else (bif Nat.blt k 59 then 172 else (bif Nat.blt k 65 then 594 else 527))))) else (bif Nat.blt k 55 then (bif Nat.blt k 28 then (bif Nat.blt k 18 then (bif Nat.blt k 9 then 360 else (bif Nat.blt k 15 then 361 else 363)) else (bif Nat.blt k 22 then 365 else (bif Nat.blt k 25 then 367 else 368))) else (bif Nat.blt k 43 then (bif Nat.blt k 32 then 370 else (bif Nat.blt k 37 then 145 else 518)) else (bif Nat.blt k 49 then (bif Nat.blt k 46 then 162 else 151) else (bif Nat.blt k 52 then 519 else 154)))) else (bif Nat.blt k 75 then (bif Nat.blt k 66 then (bif Nat.blt k 58 then 158 else (bif Nat.blt k 62 then 514 else 522)) else (bif Nat.blt k 69 then 557 else (bif Nat.blt k 72 then 590 else 175))) else (bif Nat.blt k 86 then (bif Nat.blt k 79 then 753 else (bif Nat.blt k 83 then 571 else 148)) else (bif Nat.blt k 92 then (bif Nat.blt k 89 then 566 else 567) else (bif Nat.blt k 96 then 572 else 577)))))) else (bif Nat.blt c 3 then (bif Nat.blt k 38 then (bif Nat.blt k 18 then (bif Nat.blt k 9 then 428 else (bif Nat.blt k 15 then 429 else 430)) else (bif Nat.blt k 28 then (bif Nat.blt k 24 then 615 else 620) else (bif Nat.blt k 32 then 636 else 167))) else (bif Nat.blt k 50 then (bif Nat.blt k 42 then 645 else (bif Nat.blt k 46 then 649 else 650)) else (bif Nat.blt k 56 then (bif Nat.blt k 53 then 170 else 654) else (bif Nat.blt k 60 then 655 else 660)))) else (bif Nat.blt k 64 then (bif Nat.blt k 37 then (bif Nat.blt k 19 then (bif Nat.blt k 9 then 212 else (bif Nat.blt k 15 then 213 else 214)) else (bif Nat.blt k 28 then (bif Nat.blt k 23 then 215 else 227) else (bif Nat.blt k 33 then 69 else 235))) else (bif Nat.blt k 52 then (bif Nat.blt k 45 then (bif Nat.blt k 41 then 239 else 316) else (bif Nat.blt k 49 then 243 else 308)) else (bif Nat.blt k 58 then (bif Nat.blt k 55 then 328 else 332) else (bif Nat.blt k 61 then 344 else 150)))) else (bif Nat.blt k 91 then (bif Nat.blt k 79 then (bif Nat.blt k 72 then (bif Nat.blt k 66 then 247 else 248) else (bif Nat.blt k 76 then 307 else 312)) else (bif Nat.blt k 85 then (bif Nat.blt k 82 then 155 else 159) else (bif Nat.blt k 88 then 163 else 169))) else (bif Nat.blt k 104 then (bif Nat.blt k 97 then (bif Nat.blt k 94 then 174 else 166) else (bif Nat.blt k 100 then 336 else 340)) else (bif Nat.blt k 111 then (bif Nat.blt k 107 then 348 else 351) else (bif Nat.blt k 115 then 320 else 324))))))) else (bif Nat.blt c 6 then (bif Nat.blt c 5 then (bif Nat.blt k 21 then (bif Nat.blt k 13 then (bif Nat.blt k 7 then 390 else 391) else (bif Nat.blt k 15 then 392 else 395)) else (bif Nat.blt k 26 then (bif Nat.blt k 22 then 394 else 397) else (bif Nat.blt k 29 then 396 else (bif Nat.blt k 33 then 548 else 552)))) else (bif Nat.blt k 18 then (bif Nat.blt k 9 then 411 else (bif Nat.blt k 15 then 412 else 413)) else (bif Nat.blt k 22 then 414 else (bif Nat.blt k 28 then 716 else 717)))) else (bif Nat.blt c 7 then (bif Nat.blt k 9 then 66 else (bif Nat.blt k 15 then 67 else 68)) else (bif Nat.blt c 8 then (bif Nat.blt k 144 then (bif Nat.blt k 68 then (bif Nat.blt k 35 then (bif Nat.blt k 20 then (bif Nat.blt k 13 then (bif Nat.blt k 7 then 55 else 58) else (bif Nat.blt k 17 then 449 else (bif Nat.blt k 19 then 130 else 132))) else (bif Nat.blt k 26 then (bif Nat.blt k 23 then 450 else (bif Nat.blt k 25 then 61 else 63)) else (bif Nat.blt k 30 then 440 else (bif Nat.blt k 32 then 207 else 209)))) else (bif Nat.blt k 51 then (bif Nat.blt k 42 then (bif Nat.blt k 39 then 441 else (bif Nat.blt k 41 then 355 else 357)) else (bif Nat.blt k 46 then 442 else (bif Nat.blt k 49 then 443 else 385))) else (bif Nat.blt k 61 then (bif Nat.blt k 54 then 387 else (bif Nat.blt k 58 then 444 else 445)) else (bif Nat.blt k 63 then 406 else (bif Nat.blt k 64 then 408 else 446))))) else (bif Nat.blt k 104 then (bif Nat.blt k 83 then (bif Nat.blt k 71 then (bif Nat.blt k 70 then 423 else 425) else (bif Nat.blt k 75 then 447 else (bif Nat.blt k 79 then 448 else 436))) else (bif Nat.blt k 95 then (bif Nat.blt k 87 then 126 else (bif Nat.blt k 91 then 70 else 223)) else (bif Nat.blt k 98 then 173 else (bif Nat.blt k 101 then 415 else 490)))) else (bif Nat.blt k 124 then (bif Nat.blt k 115 then (bif Nat.blt k 107 then 165 else (bif Nat.blt k 111 then 498 else 506)) else (bif Nat.blt k 118 then 138 else (bif Nat.blt k 121 then 140 else 142))) else (bif Nat.blt k 135 then (bif Nat.blt k 127 then 366 else (bif Nat.blt k 131 then 510 else 523)) else (bif Nat.blt k 138 then 532 else (bif Nat.blt k 141 then 362 else 147)))))) else (bif Nat.blt k 224 then (bif Nat.blt k 180 then (bif Nat.blt k 162 then (bif Nat.blt k 150 then (bif Nat.blt k 147 then 364 else 536) else (bif Nat.blt k 154 then 544 else (bif Nat.blt k 158 then 553 else 562))) else (bif Nat.blt k 173 then (bif Nat.blt k 166 then 573 else (bif Nat.blt k 170 then 371 else 369)) else (bif Nat.blt k 176 then 586 else (bif Nat.blt k 177 then 398 else 599)))) else (bif Nat.blt k 203 then (bif Nat.blt k 191 then (bif Nat.blt k 184 then 611 else (bif Nat.blt k 187 then 616 else 628)) else (bif Nat.blt k 194 then 668 else (bif Nat.blt k 198 then 669 else 677))) else (bif Nat.blt k 214 then (bif Nat.blt k 207 then 682 else (bif Nat.blt k 210 then 686 else 632)) else (bif Nat.blt k 218 then 637 else (bif Nat.blt k 221 then 171 else 691))))) else (bif Nat.blt k 261 then (bif Nat.blt k 241 then (bif Nat.blt k 231 then (bif Nat.blt k 227 then 641 else 656) else (bif Nat.blt k 234 then 692 else (bif Nat.blt k 237 then 693 else 700))) else (bif Nat.blt k 251 then (bif Nat.blt k 245 then 712 else (bif Nat.blt k 248 then 726 else 156)) else (bif Nat.blt k 254 then 160 else (bif Nat.blt k 258 then 730 else 731)))) else (bif Nat.blt k 279 then (bif Nat.blt k 270 then (bif Nat.blt k 264 then 732 else (bif Nat.blt k 267 then 739 else 745)) else (bif Nat.blt k 273 then 749 else (bif Nat.blt k 276 then 754 else 152))) else (bif Nat.blt k 289 then (bif Nat.blt k 281 then 77 else (bif Nat.blt k 285 then 78 else 88)) else (bif Nat.blt k 291 then 742 else (bif Nat.blt k 293 then 743 else 744))))))) else (bif Nat.blt k 128 then (bif Nat.blt k 64 then (bif Nat.blt k 34 then (bif Nat.blt k 19 then (bif Nat.blt k 13 then (bif Nat.blt k 7 then 775 else 800) else (bif Nat.blt k 16 then 806 else 808)) else (bif Nat.blt k 25 then (bif Nat.blt k 22 then 809 else 811) else (bif Nat.blt k 28 then 813 else (bif Nat.blt k 31 then 815 else 816)))) else (bif Nat.blt k 49 then (bif Nat.blt k 40 then (bif Nat.blt k 37 then 819 else 822) else (bif Nat.blt k 43 then 828 else (bif Nat.blt k 46 then 830 else 831))) else (bif Nat.blt k 55 then (bif Nat.blt k 52 then 832 else 833) else (bif Nat.blt k 58 then 834 else (bif Nat.blt k 61 then 776 else 780))))) else (bif Nat.blt k 94 then (bif Nat.blt k 77 then (bif Nat.blt k 71 then (bif Nat.blt k 68 then 823 else 824) else (bif Nat.blt k 74 then 825 else 826)) else (bif Nat.blt k 85 then (bif Nat.blt k 81 then 784 else 788) else (bif Nat.blt k 88 then 792 else (bif Nat.blt k 91 then 821 else 827)))) else (bif Nat.blt k 110 then (bif Nat.blt k 100 then (bif Nat.blt k 97 then 829 else 805) else (bif Nat.blt k 104 then 912 else (bif Nat.blt k 107 then 807 else 817))) else (bif Nat.blt k 117 then (bif Nat.blt k 113 then 818 else 927) else (bif Nat.blt k 121 then 946 else (bif Nat.blt k 125 then 820 else 935)))))) else (bif Nat.blt k 189 then (bif Nat.blt k 157 then (bif Nat.blt k 141 then (bif Nat.blt k 134 then (bif Nat.blt k 131 then 942 else 949) else (bif Nat.blt k 138 then 931 else 938)) else (bif Nat.blt k 147 then (bif Nat.blt k 144 then 953 else 957) else (bif Nat.blt k 150 then 961 else (bif Nat.blt k 153 then 923 else 969)))) else (bif Nat.blt k 173 then (bif Nat.blt k 163 then (bif Nat.blt k 160 then 804 else 799) else (bif Nat.blt k 167 then 796 else (bif Nat.blt k 170 then 801 else 802))) else (bif Nat.blt k 179 then (bif Nat.blt k 176 then 803 else 810) else (bif Nat.blt k 182 then 812 else (bif Nat.blt k 185 then 814 else 986))))) else (bif Nat.blt k 221 then (bif Nat.blt k 205 then (bif Nat.blt k 195 then (bif Nat.blt k 192 then 994 else 978) else (bif Nat.blt k 198 then 982 else (bif Nat.blt k 202 then 990 else 1002))) else (bif Nat.blt k 211 then (bif Nat.blt k 208 then 1006 else 1014) else (bif Nat.blt k 214 then 1018 else (bif Nat.blt k 218 then 1026 else 1034)))) else (bif Nat.blt k 236 then (bif Nat.blt k 227 then (bif Nat.blt k 224 then 1030 else 1070) else (bif Nat.blt k 230 then 1066 else (bif Nat.blt k 233 then 1062 else 1073))) else (bif Nat.blt k 241 then (bif Nat.blt k 239 then 1081 else 1120) else (bif Nat.blt k 243 then 1121 else (bif Nat.blt k 245 then 1122 else 1123)))))))))))
set_option maxRecDepth 100000 in
theorem m_cd_0 : lw_tbl[134]? = some (.code (m_name 0) (m_bytes 0) (m_maxL 0) (m_retT 0)) := rfl
set_option maxRecDepth 100000 in
theorem m_cd_1 : lw_tbl[230]? = some (.code (m_name 1) (m_bytes 1) (m_maxL 1) (m_retT 1)) := rfl
set_option maxRecDepth 100000 in
theorem m_cd_2 : lw_tbl[234]? = some (.code (m_name 2) (m_bytes 2) (m_maxL 2) (m_retT 2)) := rfl
set_option maxRecDepth 100000 in
theorem m_cd_3 : lw_tbl[343]? = some (.code (m_name 3) (m_bytes 3) (m_maxL 3) (m_retT 3)) := rfl
set_option maxRecDepth 100000 in
theorem m_cd_4 : lw_tbl[354]? = some (.code (m_name 4) (m_bytes 4) (m_maxL 4) (m_retT 4)) := rfl
set_option maxRecDepth 100000 in
theorem m_cd_5 : lw_tbl[339]? = some (.code (m_name 5) (m_bytes 5) (m_maxL 5) (m_retT 5)) := rfl
set_option maxRecDepth 100000 in
theorem m_cd_6 : lw_tbl[509]? = some (.code (m_name 6) (m_bytes 6) (m_maxL 6) (m_retT 6)) := rfl
set_option maxRecDepth 100000 in
theorem m_cd_7 : lw_tbl[535]? = some (.code (m_name 7) (m_bytes 7) (m_maxL 7) (m_retT 7)) := rfl
set_option maxRecDepth 100000 in
theorem m_cd_8 : lw_tbl[501]? = some (.code (m_name 8) (m_bytes 8) (m_maxL 8) (m_retT 8)) := rfl
set_option maxRecDepth 100000 in
theorem m_cd_9 : lw_tbl[593]? = some (.code (m_name 9) (m_bytes 9) (m_maxL 9) (m_retT 9)) := rfl
set_option maxRecDepth 100000 in
theorem m_cd_10 : lw_tbl[570]? = some (.code (m_name 10) (m_bytes 10) (m_maxL 10) (m_retT 10)) := rfl
set_option maxRecDepth 100000 in
theorem m_cd_11 : lw_tbl[526]? = some (.code (m_name 11) (m_bytes 11) (m_maxL 11) (m_retT 11)) := rfl
set_option maxRecDepth 100000 in
theorem m_cd_12 : lw_tbl[359]? = some (.code (m_name 12) (m_bytes 12) (m_maxL 12) (m_retT 12)) := rfl
set_option maxRecDepth 100000 in
theorem m_cd_13 : lw_tbl[439]? = some (.code (m_name 13) (m_bytes 13) (m_maxL 13) (m_retT 13)) := rfl
set_option maxRecDepth 100000 in
theorem m_cd_14 : lw_tbl[551]? = some (.code (m_name 14) (m_bytes 14) (m_maxL 14) (m_retT 14)) := rfl
set_option maxRecDepth 100000 in
theorem m_cd_15 : lw_tbl[517]? = some (.code (m_name 15) (m_bytes 15) (m_maxL 15) (m_retT 15)) := rfl
set_option maxRecDepth 100000 in
theorem m_cd_16 : lw_tbl[513]? = some (.code (m_name 16) (m_bytes 16) (m_maxL 16) (m_retT 16)) := rfl
set_option maxRecDepth 100000 in
theorem m_cd_17 : lw_tbl[556]? = some (.code (m_name 17) (m_bytes 17) (m_maxL 17) (m_retT 17)) := rfl
set_option maxRecDepth 100000 in
theorem m_cd_18 : lw_tbl[589]? = some (.code (m_name 18) (m_bytes 18) (m_maxL 18) (m_retT 18)) := rfl
set_option maxRecDepth 100000 in
theorem m_cd_19 : lw_tbl[539]? = some (.code (m_name 19) (m_bytes 19) (m_maxL 19) (m_retT 19)) := rfl
set_option maxRecDepth 100000 in
theorem m_cd_20 : lw_tbl[757]? = some (.code (m_name 20) (m_bytes 20) (m_maxL 20) (m_retT 20)) := rfl
set_option maxRecDepth 100000 in
theorem m_cd_21 : lw_tbl[752]? = some (.code (m_name 21) (m_bytes 21) (m_maxL 21) (m_retT 21)) := rfl
set_option maxRecDepth 100000 in
theorem m_cd_22 : lw_tbl[565]? = some (.code (m_name 22) (m_bytes 22) (m_maxL 22) (m_retT 22)) := rfl
set_option maxRecDepth 100000 in
theorem m_cd_23 : lw_tbl[576]? = some (.code (m_name 23) (m_bytes 23) (m_maxL 23) (m_retT 23)) := rfl
set_option maxRecDepth 100000 in
theorem m_cd_24 : lw_tbl[427]? = some (.code (m_name 24) (m_bytes 24) (m_maxL 24) (m_retT 24)) := rfl
set_option maxRecDepth 100000 in
theorem m_cd_25 : lw_tbl[614]? = some (.code (m_name 25) (m_bytes 25) (m_maxL 25) (m_retT 25)) := rfl
set_option maxRecDepth 100000 in
theorem m_cd_26 : lw_tbl[619]? = some (.code (m_name 26) (m_bytes 26) (m_maxL 26) (m_retT 26)) := rfl
set_option maxRecDepth 100000 in
theorem m_cd_27 : lw_tbl[623]? = some (.code (m_name 27) (m_bytes 27) (m_maxL 27) (m_retT 27)) := rfl
set_option maxRecDepth 100000 in
theorem m_cd_28 : lw_tbl[672]? = some (.code (m_name 28) (m_bytes 28) (m_maxL 28) (m_retT 28)) := rfl
set_option maxRecDepth 100000 in
theorem m_cd_29 : lw_tbl[635]? = some (.code (m_name 29) (m_bytes 29) (m_maxL 29) (m_retT 29)) := rfl
set_option maxRecDepth 100000 in
theorem m_cd_30 : lw_tbl[640]? = some (.code (m_name 30) (m_bytes 30) (m_maxL 30) (m_retT 30)) := rfl
set_option maxRecDepth 100000 in
theorem m_cd_31 : lw_tbl[648]? = some (.code (m_name 31) (m_bytes 31) (m_maxL 31) (m_retT 31)) := rfl
set_option maxRecDepth 100000 in
theorem m_cd_32 : lw_tbl[644]? = some (.code (m_name 32) (m_bytes 32) (m_maxL 32) (m_retT 32)) := rfl
set_option maxRecDepth 100000 in
theorem m_cd_33 : lw_tbl[653]? = some (.code (m_name 33) (m_bytes 33) (m_maxL 33) (m_retT 33)) := rfl
set_option maxRecDepth 100000 in
theorem m_cd_34 : lw_tbl[663]? = some (.code (m_name 34) (m_bytes 34) (m_maxL 34) (m_retT 34)) := rfl
set_option maxRecDepth 100000 in
theorem m_cd_35 : lw_tbl[659]? = some (.code (m_name 35) (m_bytes 35) (m_maxL 35) (m_retT 35)) := rfl
set_option maxRecDepth 100000 in
theorem m_cd_36 : lw_tbl[211]? = some (.code (m_name 36) (m_bytes 36) (m_maxL 36) (m_retT 36)) := rfl
set_option maxRecDepth 100000 in
theorem m_cd_37 : lw_tbl[226]? = some (.code (m_name 37) (m_bytes 37) (m_maxL 37) (m_retT 37)) := rfl
set_option maxRecDepth 100000 in
theorem m_cd_38 : lw_tbl[242]? = some (.code (m_name 38) (m_bytes 38) (m_maxL 38) (m_retT 38)) := rfl
set_option maxRecDepth 100000 in
theorem m_cd_39 : lw_tbl[246]? = some (.code (m_name 39) (m_bytes 39) (m_maxL 39) (m_retT 39)) := rfl
set_option maxRecDepth 100000 in
theorem m_cd_40 : lw_tbl[311]? = some (.code (m_name 40) (m_bytes 40) (m_maxL 40) (m_retT 40)) := rfl
set_option maxRecDepth 100000 in
theorem m_cd_41 : lw_tbl[331]? = some (.code (m_name 41) (m_bytes 41) (m_maxL 41) (m_retT 41)) := rfl
set_option maxRecDepth 100000 in
theorem m_cd_42 : lw_tbl[335]? = some (.code (m_name 42) (m_bytes 42) (m_maxL 42) (m_retT 42)) := rfl
set_option maxRecDepth 100000 in
theorem m_cd_43 : lw_tbl[347]? = some (.code (m_name 43) (m_bytes 43) (m_maxL 43) (m_retT 43)) := rfl
set_option maxRecDepth 100000 in
theorem m_cd_44 : lw_tbl[315]? = some (.code (m_name 44) (m_bytes 44) (m_maxL 44) (m_retT 44)) := rfl
set_option maxRecDepth 100000 in
theorem m_cd_45 : lw_tbl[327]? = some (.code (m_name 45) (m_bytes 45) (m_maxL 45) (m_retT 45)) := rfl
set_option maxRecDepth 100000 in
theorem m_cd_46 : lw_tbl[319]? = some (.code (m_name 46) (m_bytes 46) (m_maxL 46) (m_retT 46)) := rfl
set_option maxRecDepth 100000 in
theorem m_cd_47 : lw_tbl[323]? = some (.code (m_name 47) (m_bytes 47) (m_maxL 47) (m_retT 47)) := rfl
set_option maxRecDepth 100000 in
theorem m_cd_48 : lw_tbl[389]? = some (.code (m_name 48) (m_bytes 48) (m_maxL 48) (m_retT 48)) := rfl
set_option maxRecDepth 100000 in
theorem m_cd_49 : lw_tbl[493]? = some (.code (m_name 49) (m_bytes 49) (m_maxL 49) (m_retT 49)) := rfl
set_option maxRecDepth 100000 in
theorem m_cd_50 : lw_tbl[547]? = some (.code (m_name 50) (m_bytes 50) (m_maxL 50) (m_retT 50)) := rfl
set_option maxRecDepth 100000 in
theorem m_cd_51 : lw_tbl[602]? = some (.code (m_name 51) (m_bytes 51) (m_maxL 51) (m_retT 51)) := rfl
set_option maxRecDepth 100000 in
theorem m_cd_52 : lw_tbl[410]? = some (.code (m_name 52) (m_bytes 52) (m_maxL 52) (m_retT 52)) := rfl
set_option maxRecDepth 100000 in
theorem m_cd_53 : lw_tbl[703]? = some (.code (m_name 53) (m_bytes 53) (m_maxL 53) (m_retT 53)) := rfl
set_option maxRecDepth 100000 in
theorem m_cd_54 : lw_tbl[715]? = some (.code (m_name 54) (m_bytes 54) (m_maxL 54) (m_retT 54)) := rfl
set_option maxRecDepth 100000 in
theorem m_cd_55 : lw_tbl[65]? = some (.code (m_name 55) (m_bytes 55) (m_maxL 55) (m_retT 55)) := rfl
set_option maxRecDepth 100000 in
theorem m_cd_56 : lw_tbl[129]? = some (.code (m_name 56) (m_bytes 56) (m_maxL 56) (m_retT 56)) := rfl
set_option maxRecDepth 100000 in
theorem m_cd_57 : lw_tbl[238]? = some (.code (m_name 57) (m_bytes 57) (m_maxL 57) (m_retT 57)) := rfl
set_option maxRecDepth 100000 in
theorem m_cd_58 : lw_tbl[54]? = some (.code (m_name 58) (m_bytes 58) (m_maxL 58) (m_retT 58)) := rfl
set_option maxRecDepth 100000 in
theorem m_cd_59 : lw_tbl[477]? = some (.code (m_name 59) (m_bytes 59) (m_maxL 59) (m_retT 59)) := rfl
set_option maxRecDepth 100000 in
theorem m_cd_60 : lw_tbl[481]? = some (.code (m_name 60) (m_bytes 60) (m_maxL 60) (m_retT 60)) := rfl
set_option maxRecDepth 100000 in
theorem m_cd_61 : lw_tbl[485]? = some (.code (m_name 61) (m_bytes 61) (m_maxL 61) (m_retT 61)) := rfl
set_option maxRecDepth 100000 in
theorem m_cd_62 : lw_tbl[489]? = some (.code (m_name 62) (m_bytes 62) (m_maxL 62) (m_retT 62)) := rfl
set_option maxRecDepth 100000 in
theorem m_cd_63 : lw_tbl[497]? = some (.code (m_name 63) (m_bytes 63) (m_maxL 63) (m_retT 63)) := rfl
set_option maxRecDepth 100000 in
theorem m_cd_64 : lw_tbl[505]? = some (.code (m_name 64) (m_bytes 64) (m_maxL 64) (m_retT 64)) := rfl
set_option maxRecDepth 100000 in
theorem m_cd_65 : lw_tbl[531]? = some (.code (m_name 65) (m_bytes 65) (m_maxL 65) (m_retT 65)) := rfl
set_option maxRecDepth 100000 in
theorem m_cd_66 : lw_tbl[543]? = some (.code (m_name 66) (m_bytes 66) (m_maxL 66) (m_retT 66)) := rfl
set_option maxRecDepth 100000 in
theorem m_cd_67 : lw_tbl[561]? = some (.code (m_name 67) (m_bytes 67) (m_maxL 67) (m_retT 67)) := rfl
set_option maxRecDepth 100000 in
theorem m_cd_68 : lw_tbl[581]? = some (.code (m_name 68) (m_bytes 68) (m_maxL 68) (m_retT 68)) := rfl
set_option maxRecDepth 100000 in
theorem m_cd_69 : lw_tbl[585]? = some (.code (m_name 69) (m_bytes 69) (m_maxL 69) (m_retT 69)) := rfl
set_option maxRecDepth 100000 in
theorem m_cd_70 : lw_tbl[598]? = some (.code (m_name 70) (m_bytes 70) (m_maxL 70) (m_retT 70)) := rfl
set_option maxRecDepth 100000 in
theorem m_cd_71 : lw_tbl[606]? = some (.code (m_name 71) (m_bytes 71) (m_maxL 71) (m_retT 71)) := rfl
set_option maxRecDepth 100000 in
theorem m_cd_72 : lw_tbl[610]? = some (.code (m_name 72) (m_bytes 72) (m_maxL 72) (m_retT 72)) := rfl
set_option maxRecDepth 100000 in
theorem m_cd_73 : lw_tbl[627]? = some (.code (m_name 73) (m_bytes 73) (m_maxL 73) (m_retT 73)) := rfl
set_option maxRecDepth 100000 in
theorem m_cd_74 : lw_tbl[667]? = some (.code (m_name 74) (m_bytes 74) (m_maxL 74) (m_retT 74)) := rfl
set_option maxRecDepth 100000 in
theorem m_cd_75 : lw_tbl[676]? = some (.code (m_name 75) (m_bytes 75) (m_maxL 75) (m_retT 75)) := rfl
set_option maxRecDepth 100000 in
theorem m_cd_76 : lw_tbl[681]? = some (.code (m_name 76) (m_bytes 76) (m_maxL 76) (m_retT 76)) := rfl
set_option maxRecDepth 100000 in
theorem m_cd_77 : lw_tbl[690]? = some (.code (m_name 77) (m_bytes 77) (m_maxL 77) (m_retT 77)) := rfl
set_option maxRecDepth 100000 in
theorem m_cd_78 : lw_tbl[699]? = some (.code (m_name 78) (m_bytes 78) (m_maxL 78) (m_retT 78)) := rfl
set_option maxRecDepth 100000 in
theorem m_cd_79 : lw_tbl[707]? = some (.code (m_name 79) (m_bytes 79) (m_maxL 79) (m_retT 79)) := rfl
set_option maxRecDepth 100000 in
theorem m_cd_80 : lw_tbl[711]? = some (.code (m_name 80) (m_bytes 80) (m_maxL 80) (m_retT 80)) := rfl
set_option maxRecDepth 100000 in
theorem m_cd_81 : lw_tbl[721]? = some (.code (m_name 81) (m_bytes 81) (m_maxL 81) (m_retT 81)) := rfl
set_option maxRecDepth 100000 in
theorem m_cd_82 : lw_tbl[725]? = some (.code (m_name 82) (m_bytes 82) (m_maxL 82) (m_retT 82)) := rfl
set_option maxRecDepth 100000 in
theorem m_cd_83 : lw_tbl[738]? = some (.code (m_name 83) (m_bytes 83) (m_maxL 83) (m_retT 83)) := rfl
set_option maxRecDepth 100000 in
theorem m_cd_84 : lw_tbl[761]? = some (.code (m_name 84) (m_bytes 84) (m_maxL 84) (m_retT 84)) := rfl
set_option maxRecDepth 100000 in
theorem m_cd_85 : lw_tbl[765]? = some (.code (m_name 85) (m_bytes 85) (m_maxL 85) (m_retT 85)) := rfl
set_option maxRecDepth 100000 in
theorem m_cd_86 : lw_tbl[769]? = some (.code (m_name 86) (m_bytes 86) (m_maxL 86) (m_retT 86)) := rfl
set_option maxRecDepth 100000 in
theorem m_cd_87 : lw_tbl[60]? = some (.code (m_name 87) (m_bytes 87) (m_maxL 87) (m_retT 87)) := rfl
set_option maxRecDepth 100000 in
theorem m_cd_88 : lw_tbl[350]? = some (.code (m_name 88) (m_bytes 88) (m_maxL 88) (m_retT 88)) := rfl
set_option maxRecDepth 100000 in
theorem m_cd_89 : lw_tbl[631]? = some (.code (m_name 89) (m_bytes 89) (m_maxL 89) (m_retT 89)) := rfl
set_option maxRecDepth 100000 in
theorem m_cd_90 : lw_tbl[685]? = some (.code (m_name 90) (m_bytes 90) (m_maxL 90) (m_retT 90)) := rfl
set_option maxRecDepth 100000 in
theorem m_cd_91 : lw_tbl[695]? = some (.code (m_name 91) (m_bytes 91) (m_maxL 91) (m_retT 91)) := rfl
set_option maxRecDepth 100000 in
theorem m_cd_92 : lw_tbl[729]? = some (.code (m_name 92) (m_bytes 92) (m_maxL 92) (m_retT 92)) := rfl
set_option maxRecDepth 100000 in
theorem m_cd_93 : lw_tbl[734]? = some (.code (m_name 93) (m_bytes 93) (m_maxL 93) (m_retT 93)) := rfl
set_option maxRecDepth 100000 in
theorem m_cd_94 : lw_tbl[741]? = some (.code (m_name 94) (m_bytes 94) (m_maxL 94) (m_retT 94)) := rfl
set_option maxRecDepth 100000 in
theorem m_cd_95 : lw_tbl[748]? = some (.code (m_name 95) (m_bytes 95) (m_maxL 95) (m_retT 95)) := rfl
set_option maxRecDepth 100000 in
theorem m_cd_96 : lw_tbl[774]? = some (.code (m_name 96) (m_bytes 96) (m_maxL 96) (m_retT 96)) := rfl
set_option maxRecDepth 100000 in
theorem m_cd_97 : lw_tbl[783]? = some (.code (m_name 97) (m_bytes 97) (m_maxL 97) (m_retT 97)) := rfl
set_option maxRecDepth 100000 in
theorem m_cd_98 : lw_tbl[787]? = some (.code (m_name 98) (m_bytes 98) (m_maxL 98) (m_retT 98)) := rfl
set_option maxRecDepth 100000 in
theorem m_cd_99 : lw_tbl[791]? = some (.code (m_name 99) (m_bytes 99) (m_maxL 99) (m_retT 99)) := rfl
set_option maxRecDepth 100000 in
theorem m_cd_100 : lw_tbl[914]? = some (.code (m_name 100) (m_bytes 100) (m_maxL 100) (m_retT 100)) := rfl
set_option maxRecDepth 100000 in
theorem m_cd_101 : lw_tbl[1072]? = some (.code (m_name 101) (m_bytes 101) (m_maxL 101) (m_retT 101)) := rfl
set_option maxRecDepth 100000 in
theorem m_cd_102 : lw_tbl[981]? = some (.code (m_name 102) (m_bytes 102) (m_maxL 102) (m_retT 102)) := rfl
set_option maxRecDepth 100000 in
theorem m_cd_103 : lw_tbl[1005]? = some (.code (m_name 103) (m_bytes 103) (m_maxL 103) (m_retT 103)) := rfl
set_option maxRecDepth 100000 in
theorem m_cd_104 : lw_tbl[1083]? = some (.code (m_name 104) (m_bytes 104) (m_maxL 104) (m_retT 104)) := rfl
set_option maxRecDepth 100000 in
theorem m_cd_105 : lw_tbl[911]? = some (.code (m_name 105) (m_bytes 105) (m_maxL 105) (m_retT 105)) := rfl
set_option maxRecDepth 100000 in
theorem m_cd_106 : lw_tbl[918]? = some (.code (m_name 106) (m_bytes 106) (m_maxL 106) (m_retT 106)) := rfl
set_option maxRecDepth 100000 in
theorem m_cd_107 : lw_tbl[930]? = some (.code (m_name 107) (m_bytes 107) (m_maxL 107) (m_retT 107)) := rfl
set_option maxRecDepth 100000 in
theorem m_cd_108 : lw_tbl[948]? = some (.code (m_name 108) (m_bytes 108) (m_maxL 108) (m_retT 108)) := rfl
set_option maxRecDepth 100000 in
theorem m_cd_109 : lw_tbl[945]? = some (.code (m_name 109) (m_bytes 109) (m_maxL 109) (m_retT 109)) := rfl
set_option maxRecDepth 100000 in
theorem m_cd_110 : lw_tbl[952]? = some (.code (m_name 110) (m_bytes 110) (m_maxL 110) (m_retT 110)) := rfl
set_option maxRecDepth 100000 in
theorem m_cd_111 : lw_tbl[779]? = some (.code (m_name 111) (m_bytes 111) (m_maxL 111) (m_retT 111)) := rfl
set_option maxRecDepth 100000 in
theorem m_cd_112 : lw_tbl[937]? = some (.code (m_name 112) (m_bytes 112) (m_maxL 112) (m_retT 112)) := rfl
set_option maxRecDepth 100000 in
theorem m_cd_113 : lw_tbl[934]? = some (.code (m_name 113) (m_bytes 113) (m_maxL 113) (m_retT 113)) := rfl
set_option maxRecDepth 100000 in
theorem m_cd_114 : lw_tbl[941]? = some (.code (m_name 114) (m_bytes 114) (m_maxL 114) (m_retT 114)) := rfl
set_option maxRecDepth 100000 in
theorem m_cd_115 : lw_tbl[956]? = some (.code (m_name 115) (m_bytes 115) (m_maxL 115) (m_retT 115)) := rfl
set_option maxRecDepth 100000 in
theorem m_cd_116 : lw_tbl[960]? = some (.code (m_name 116) (m_bytes 116) (m_maxL 116) (m_retT 116)) := rfl
set_option maxRecDepth 100000 in
theorem m_cd_117 : lw_tbl[964]? = some (.code (m_name 117) (m_bytes 117) (m_maxL 117) (m_retT 117)) := rfl
set_option maxRecDepth 100000 in
theorem m_cd_118 : lw_tbl[926]? = some (.code (m_name 118) (m_bytes 118) (m_maxL 118) (m_retT 118)) := rfl
set_option maxRecDepth 100000 in
theorem m_cd_119 : lw_tbl[922]? = some (.code (m_name 119) (m_bytes 119) (m_maxL 119) (m_retT 119)) := rfl
set_option maxRecDepth 100000 in
theorem m_cd_120 : lw_tbl[968]? = some (.code (m_name 120) (m_bytes 120) (m_maxL 120) (m_retT 120)) := rfl
set_option maxRecDepth 100000 in
theorem m_cd_121 : lw_tbl[798]? = some (.code (m_name 121) (m_bytes 121) (m_maxL 121) (m_retT 121)) := rfl
set_option maxRecDepth 100000 in
theorem m_cd_122 : lw_tbl[795]? = some (.code (m_name 122) (m_bytes 122) (m_maxL 122) (m_retT 122)) := rfl
set_option maxRecDepth 100000 in
theorem m_cd_123 : lw_tbl[989]? = some (.code (m_name 123) (m_bytes 123) (m_maxL 123) (m_retT 123)) := rfl
set_option maxRecDepth 100000 in
theorem m_cd_124 : lw_tbl[985]? = some (.code (m_name 124) (m_bytes 124) (m_maxL 124) (m_retT 124)) := rfl
set_option maxRecDepth 100000 in
theorem m_cd_125 : lw_tbl[997]? = some (.code (m_name 125) (m_bytes 125) (m_maxL 125) (m_retT 125)) := rfl
set_option maxRecDepth 100000 in
theorem m_cd_126 : lw_tbl[993]? = some (.code (m_name 126) (m_bytes 126) (m_maxL 126) (m_retT 126)) := rfl
set_option maxRecDepth 100000 in
theorem m_cd_127 : lw_tbl[973]? = some (.code (m_name 127) (m_bytes 127) (m_maxL 127) (m_retT 127)) := rfl
set_option maxRecDepth 100000 in
theorem m_cd_128 : lw_tbl[977]? = some (.code (m_name 128) (m_bytes 128) (m_maxL 128) (m_retT 128)) := rfl
set_option maxRecDepth 100000 in
theorem m_cd_129 : lw_tbl[1009]? = some (.code (m_name 129) (m_bytes 129) (m_maxL 129) (m_retT 129)) := rfl
set_option maxRecDepth 100000 in
theorem m_cd_130 : lw_tbl[1001]? = some (.code (m_name 130) (m_bytes 130) (m_maxL 130) (m_retT 130)) := rfl
set_option maxRecDepth 100000 in
theorem m_cd_131 : lw_tbl[1017]? = some (.code (m_name 131) (m_bytes 131) (m_maxL 131) (m_retT 131)) := rfl
set_option maxRecDepth 100000 in
theorem m_cd_132 : lw_tbl[1021]? = some (.code (m_name 132) (m_bytes 132) (m_maxL 132) (m_retT 132)) := rfl
set_option maxRecDepth 100000 in
theorem m_cd_133 : lw_tbl[1013]? = some (.code (m_name 133) (m_bytes 133) (m_maxL 133) (m_retT 133)) := rfl
set_option maxRecDepth 100000 in
theorem m_cd_134 : lw_tbl[1029]? = some (.code (m_name 134) (m_bytes 134) (m_maxL 134) (m_retT 134)) := rfl
set_option maxRecDepth 100000 in
theorem m_cd_135 : lw_tbl[1037]? = some (.code (m_name 135) (m_bytes 135) (m_maxL 135) (m_retT 135)) := rfl
set_option maxRecDepth 100000 in
theorem m_cd_136 : lw_tbl[1033]? = some (.code (m_name 136) (m_bytes 136) (m_maxL 136) (m_retT 136)) := rfl
set_option maxRecDepth 100000 in
theorem m_cd_137 : lw_tbl[1025]? = some (.code (m_name 137) (m_bytes 137) (m_maxL 137) (m_retT 137)) := rfl
set_option maxRecDepth 100000 in
theorem m_cd_138 : lw_tbl[1041]? = some (.code (m_name 138) (m_bytes 138) (m_maxL 138) (m_retT 138)) := rfl
set_option maxRecDepth 100000 in
theorem m_cd_139 : lw_tbl[1045]? = some (.code (m_name 139) (m_bytes 139) (m_maxL 139) (m_retT 139)) := rfl
set_option maxRecDepth 100000 in
theorem m_cd_140 : lw_tbl[1049]? = some (.code (m_name 140) (m_bytes 140) (m_maxL 140) (m_retT 140)) := rfl
set_option maxRecDepth 100000 in
theorem m_cd_141 : lw_tbl[1053]? = some (.code (m_name 141) (m_bytes 141) (m_maxL 141) (m_retT 141)) := rfl
set_option maxRecDepth 100000 in
theorem m_cd_142 : lw_tbl[1057]? = some (.code (m_name 142) (m_bytes 142) (m_maxL 142) (m_retT 142)) := rfl
set_option maxRecDepth 100000 in
theorem m_cd_143 : lw_tbl[1069]? = some (.code (m_name 143) (m_bytes 143) (m_maxL 143) (m_retT 143)) := rfl
set_option maxRecDepth 100000 in
theorem m_cd_144 : lw_tbl[1076]? = some (.code (m_name 144) (m_bytes 144) (m_maxL 144) (m_retT 144)) := rfl
set_option maxRecDepth 100000 in
theorem m_cd_145 : lw_tbl[1065]? = some (.code (m_name 145) (m_bytes 145) (m_maxL 145) (m_retT 145)) := rfl
set_option maxRecDepth 100000 in
theorem m_cd_146 : lw_tbl[1061]? = some (.code (m_name 146) (m_bytes 146) (m_maxL 146) (m_retT 146)) := rfl
set_option maxRecDepth 100000 in
theorem m_cd_147 : lw_tbl[1080]? = some (.code (m_name 147) (m_bytes 147) (m_maxL 147) (m_retT 147)) := rfl
set_option maxRecDepth 100000 in
theorem m_cd_148 : lw_tbl[1087]? = some (.code (m_name 148) (m_bytes 148) (m_maxL 148) (m_retT 148)) := rfl
set_option maxRecDepth 100000 in
theorem m_cd_149 : lw_tbl[1091]? = some (.code (m_name 149) (m_bytes 149) (m_maxL 149) (m_retT 149)) := rfl
set_option maxRecDepth 100000 in
theorem m_cd_150 : lw_tbl[1095]? = some (.code (m_name 150) (m_bytes 150) (m_maxL 150) (m_retT 150)) := rfl
set_option maxRecDepth 100000 in
theorem m_cd_151 : lw_tbl[1099]? = some (.code (m_name 151) (m_bytes 151) (m_maxL 151) (m_retT 151)) := rfl
set_option maxRecDepth 100000 in
theorem m_cd_152 : lw_tbl[1103]? = some (.code (m_name 152) (m_bytes 152) (m_maxL 152) (m_retT 152)) := rfl
set_option maxRecDepth 100000 in
theorem m_cd_153 : lw_tbl[1107]? = some (.code (m_name 153) (m_bytes 153) (m_maxL 153) (m_retT 153)) := rfl
set_option maxRecDepth 100000 in
theorem m_cd_154 : lw_tbl[1111]? = some (.code (m_name 154) (m_bytes 154) (m_maxL 154) (m_retT 154)) := rfl
set_option maxRecDepth 100000 in
theorem m_cd_155 : lw_tbl[1115]? = some (.code (m_name 155) (m_bytes 155) (m_maxL 155) (m_retT 155)) := rfl
set_option maxRecDepth 100000 in
theorem m_cd_156 : lw_tbl[1119]? = some (.code (m_name 156) (m_bytes 156) (m_maxL 156) (m_retT 156)) := rfl
set_option maxRecDepth 100000 in
theorem m_cd_157 : lw_tbl[1126]? = some (.code (m_name 157) (m_bytes 157) (m_maxL 157) (m_retT 157)) := rfl
set_option maxRecDepth 100000 in
theorem m_cd_158 : lw_tbl[1130]? = some (.code (m_name 158) (m_bytes 158) (m_maxL 158) (m_retT 158)) := rfl
set_option maxRecDepth 100000 in
theorem m_cd_159 : lw_tbl[1134]? = some (.code (m_name 159) (m_bytes 159) (m_maxL 159) (m_retT 159)) := rfl
set_option maxRecDepth 100000 in
theorem m_cd_160 : lw_tbl[1138]? = some (.code (m_name 160) (m_bytes 160) (m_maxL 160) (m_retT 160)) := rfl
set_option maxRecDepth 100000 in
theorem m_cd_161 : lw_tbl[521]? = some (.code (m_name 161) (m_bytes 161) (m_maxL 161) (m_retT 161)) := rfl
set_option maxRecDepth 100000 in
theorem m_cd_162 : lw_tbl[265]? = some (.code (m_name 162) (m_bytes 162) (m_maxL 162) (m_retT 162)) := rfl
set_option maxRecDepth 100000 in
theorem m_cd_163 : lw_tbl[268]? = some (.code (m_name 163) (m_bytes 163) (m_maxL 163) (m_retT 163)) := rfl
theorem m_cd (y : Nat) (hy : y < 164) : Cond.code (m_name y) (m_bytes y) (m_maxL y) (m_retT y) ∈ lw_tbl := match y, hy with
  | 0, _ => List.mem_of_getElem? m_cd_0
  | 1, _ => List.mem_of_getElem? m_cd_1
  | 2, _ => List.mem_of_getElem? m_cd_2
  | 3, _ => List.mem_of_getElem? m_cd_3
  | 4, _ => List.mem_of_getElem? m_cd_4
  | 5, _ => List.mem_of_getElem? m_cd_5
  | 6, _ => List.mem_of_getElem? m_cd_6
  | 7, _ => List.mem_of_getElem? m_cd_7
  | 8, _ => List.mem_of_getElem? m_cd_8
  | 9, _ => List.mem_of_getElem? m_cd_9
  | 10, _ => List.mem_of_getElem? m_cd_10
  | 11, _ => List.mem_of_getElem? m_cd_11
  | 12, _ => List.mem_of_getElem? m_cd_12
  | 13, _ => List.mem_of_getElem? m_cd_13
  | 14, _ => List.mem_of_getElem? m_cd_14
  | 15, _ => List.mem_of_getElem? m_cd_15
  | 16, _ => List.mem_of_getElem? m_cd_16
  | 17, _ => List.mem_of_getElem? m_cd_17
  | 18, _ => List.mem_of_getElem? m_cd_18
  | 19, _ => List.mem_of_getElem? m_cd_19
  | 20, _ => List.mem_of_getElem? m_cd_20
  | 21, _ => List.mem_of_getElem? m_cd_21
  | 22, _ => List.mem_of_getElem? m_cd_22
  | 23, _ => List.mem_of_getElem? m_cd_23
  | 24, _ => List.mem_of_getElem? m_cd_24
  | 25, _ => List.mem_of_getElem? m_cd_25
  | 26, _ => List.mem_of_getElem? m_cd_26
  | 27, _ => List.mem_of_getElem? m_cd_27
  | 28, _ => List.mem_of_getElem? m_cd_28
  | 29, _ => List.mem_of_getElem? m_cd_29
  | 30, _ => List.mem_of_getElem? m_cd_30
  | 31, _ => List.mem_of_getElem? m_cd_31
  | 32, _ => List.mem_of_getElem? m_cd_32
  | 33, _ => List.mem_of_getElem? m_cd_33
  | 34, _ => List.mem_of_getElem? m_cd_34
  | 35, _ => List.mem_of_getElem? m_cd_35
  | 36, _ => List.mem_of_getElem? m_cd_36
  | 37, _ => List.mem_of_getElem? m_cd_37
  | 38, _ => List.mem_of_getElem? m_cd_38
  | 39, _ => List.mem_of_getElem? m_cd_39
  | 40, _ => List.mem_of_getElem? m_cd_40
  | 41, _ => List.mem_of_getElem? m_cd_41
  | 42, _ => List.mem_of_getElem? m_cd_42
  | 43, _ => List.mem_of_getElem? m_cd_43
  | 44, _ => List.mem_of_getElem? m_cd_44
  | 45, _ => List.mem_of_getElem? m_cd_45
  | 46, _ => List.mem_of_getElem? m_cd_46
  | 47, _ => List.mem_of_getElem? m_cd_47
  | 48, _ => List.mem_of_getElem? m_cd_48
  | 49, _ => List.mem_of_getElem? m_cd_49
  | 50, _ => List.mem_of_getElem? m_cd_50
  | 51, _ => List.mem_of_getElem? m_cd_51
  | 52, _ => List.mem_of_getElem? m_cd_52
  | 53, _ => List.mem_of_getElem? m_cd_53
  | 54, _ => List.mem_of_getElem? m_cd_54
  | 55, _ => List.mem_of_getElem? m_cd_55
  | 56, _ => List.mem_of_getElem? m_cd_56
  | 57, _ => List.mem_of_getElem? m_cd_57
  | 58, _ => List.mem_of_getElem? m_cd_58
  | 59, _ => List.mem_of_getElem? m_cd_59
  | 60, _ => List.mem_of_getElem? m_cd_60
  | 61, _ => List.mem_of_getElem? m_cd_61
  | 62, _ => List.mem_of_getElem? m_cd_62
  | 63, _ => List.mem_of_getElem? m_cd_63
  | 64, _ => List.mem_of_getElem? m_cd_64
  | 65, _ => List.mem_of_getElem? m_cd_65
  | 66, _ => List.mem_of_getElem? m_cd_66
  | 67, _ => List.mem_of_getElem? m_cd_67
  | 68, _ => List.mem_of_getElem? m_cd_68
  | 69, _ => List.mem_of_getElem? m_cd_69
  | 70, _ => List.mem_of_getElem? m_cd_70
  | 71, _ => List.mem_of_getElem? m_cd_71
  | 72, _ => List.mem_of_getElem? m_cd_72
  | 73, _ => List.mem_of_getElem? m_cd_73
  | 74, _ => List.mem_of_getElem? m_cd_74
  | 75, _ => List.mem_of_getElem? m_cd_75
  | 76, _ => List.mem_of_getElem? m_cd_76
  | 77, _ => List.mem_of_getElem? m_cd_77
  | 78, _ => List.mem_of_getElem? m_cd_78
  | 79, _ => List.mem_of_getElem? m_cd_79
  | 80, _ => List.mem_of_getElem? m_cd_80
  | 81, _ => List.mem_of_getElem? m_cd_81
  | 82, _ => List.mem_of_getElem? m_cd_82
  | 83, _ => List.mem_of_getElem? m_cd_83
  | 84, _ => List.mem_of_getElem? m_cd_84
  | 85, _ => List.mem_of_getElem? m_cd_85
  | 86, _ => List.mem_of_getElem? m_cd_86
  | 87, _ => List.mem_of_getElem? m_cd_87
  | 88, _ => List.mem_of_getElem? m_cd_88
  | 89, _ => List.mem_of_getElem? m_cd_89
  | 90, _ => List.mem_of_getElem? m_cd_90
  | 91, _ => List.mem_of_getElem? m_cd_91
  | 92, _ => List.mem_of_getElem? m_cd_92
  | 93, _ => List.mem_of_getElem? m_cd_93
  | 94, _ => List.mem_of_getElem? m_cd_94
  | 95, _ => List.mem_of_getElem? m_cd_95
  | 96, _ => List.mem_of_getElem? m_cd_96
  | 97, _ => List.mem_of_getElem? m_cd_97
  | 98, _ => List.mem_of_getElem? m_cd_98
  | 99, _ => List.mem_of_getElem? m_cd_99
  | 100, _ => List.mem_of_getElem? m_cd_100
  | 101, _ => List.mem_of_getElem? m_cd_101
  | 102, _ => List.mem_of_getElem? m_cd_102
  | 103, _ => List.mem_of_getElem? m_cd_103
  | 104, _ => List.mem_of_getElem? m_cd_104
  | 105, _ => List.mem_of_getElem? m_cd_105
  | 106, _ => List.mem_of_getElem? m_cd_106
  | 107, _ => List.mem_of_getElem? m_cd_107
  | 108, _ => List.mem_of_getElem? m_cd_108
  | 109, _ => List.mem_of_getElem? m_cd_109
  | 110, _ => List.mem_of_getElem? m_cd_110
  | 111, _ => List.mem_of_getElem? m_cd_111
  | 112, _ => List.mem_of_getElem? m_cd_112
  | 113, _ => List.mem_of_getElem? m_cd_113
  | 114, _ => List.mem_of_getElem? m_cd_114
  | 115, _ => List.mem_of_getElem? m_cd_115
  | 116, _ => List.mem_of_getElem? m_cd_116
  | 117, _ => List.mem_of_getElem? m_cd_117
  | 118, _ => List.mem_of_getElem? m_cd_118
  | 119, _ => List.mem_of_getElem? m_cd_119
  | 120, _ => List.mem_of_getElem? m_cd_120
  | 121, _ => List.mem_of_getElem? m_cd_121
  | 122, _ => List.mem_of_getElem? m_cd_122
  | 123, _ => List.mem_of_getElem? m_cd_123
  | 124, _ => List.mem_of_getElem? m_cd_124
  | 125, _ => List.mem_of_getElem? m_cd_125
  | 126, _ => List.mem_of_getElem? m_cd_126
  | 127, _ => List.mem_of_getElem? m_cd_127
  | 128, _ => List.mem_of_getElem? m_cd_128
  | 129, _ => List.mem_of_getElem? m_cd_129
  | 130, _ => List.mem_of_getElem? m_cd_130
  | 131, _ => List.mem_of_getElem? m_cd_131
  | 132, _ => List.mem_of_getElem? m_cd_132
  | 133, _ => List.mem_of_getElem? m_cd_133
  | 134, _ => List.mem_of_getElem? m_cd_134
  | 135, _ => List.mem_of_getElem? m_cd_135
  | 136, _ => List.mem_of_getElem? m_cd_136
  | 137, _ => List.mem_of_getElem? m_cd_137
  | 138, _ => List.mem_of_getElem? m_cd_138
  | 139, _ => List.mem_of_getElem? m_cd_139
  | 140, _ => List.mem_of_getElem? m_cd_140
  | 141, _ => List.mem_of_getElem? m_cd_141
  | 142, _ => List.mem_of_getElem? m_cd_142
  | 143, _ => List.mem_of_getElem? m_cd_143
  | 144, _ => List.mem_of_getElem? m_cd_144
  | 145, _ => List.mem_of_getElem? m_cd_145
  | 146, _ => List.mem_of_getElem? m_cd_146
  | 147, _ => List.mem_of_getElem? m_cd_147
  | 148, _ => List.mem_of_getElem? m_cd_148
  | 149, _ => List.mem_of_getElem? m_cd_149
  | 150, _ => List.mem_of_getElem? m_cd_150
  | 151, _ => List.mem_of_getElem? m_cd_151
  | 152, _ => List.mem_of_getElem? m_cd_152
  | 153, _ => List.mem_of_getElem? m_cd_153
  | 154, _ => List.mem_of_getElem? m_cd_154
  | 155, _ => List.mem_of_getElem? m_cd_155
  | 156, _ => List.mem_of_getElem? m_cd_156
  | 157, _ => List.mem_of_getElem? m_cd_157
  | 158, _ => List.mem_of_getElem? m_cd_158
  | 159, _ => List.mem_of_getElem? m_cd_159
  | 160, _ => List.mem_of_getElem? m_cd_160
  | 161, _ => List.mem_of_getElem? m_cd_161
  | 162, _ => List.mem_of_getElem? m_cd_162
  | 163, _ => List.mem_of_getElem? m_cd_163
  | n + 164, h => absurd h (by omega)
end
section
def m_w (i : Nat) (w : Cond) : Bool := decide (lw_tbl[i]? = some w)
theorem m_w_mem {i : Nat} {w : Cond} (h : m_w i w = true) : w ∈ lw_tbl := List.mem_of_getElem? (of_decide_eq_true h)
def m_pcAt (y k : Nat) (pc : Nat) : Bool := match m_code y k with
  | some e => Nat.beq e.1 pc
  | none => false
def m_pcZ (y k : Nat) (z : Int) : Bool := match m_code y k with
  | some e => decide ((e.1 : Int) = z)
  | none => false
def m_lenOf (i : Instr) : Nat := match i with
  | .bipush _ => 2
  | .iload _ => 2
  | .aload _ => 2
  | .lload _ => 2
  | .istore _ => 2
  | .astore _ => 2
  | .lstore _ => 2
  | .newarray _ => 2
  | .ldc _ => 2
  | .sipush _ => 3
  | .ldc_w _ => 3
  | .ldc2_w _ => 3
  | .getfield _ => 3
  | .putfield _ => 3
  | .invokevirtual _ => 3
  | .invokestatic _ => 3
  | .invokespecial _ => 3
  | .new _ => 3
  | .anewarray _ => 3
  | .iinc _ _ => 3
  | .ifCond _ _ => 3
  | .if_icmp _ _ => 3
  | .goto _ => 3
  | _ => 1
/-- is there an instruction behind it -/
def m_on (i : Instr) : Bool := match i with
  | .goto _ => false
  | .ireturn => false
  | .areturn => false
  | .return_ => false
  | .tableswitch _ _ _ _ => false
  | .lookupswitch _ _ => false
  | _ => true
def m_sws (i : Instr) : Bool := match i with
  | .tableswitch _ _ _ _ => true
  | .lookupswitch _ _ => true
  | _ => false
/-- a table switch's numbers from lo on, and where they go -/
def m_swT (y pc : Nat) (lo : Int) : Nat → List Int → List Nat → Bool
  | _, [], [] => true
  | j, o :: os, v :: t :: r => decide ((v : Int) = lo + (j : Int)) && m_pcZ y t ((pc : Int) + o) && m_swT y pc lo (j + 1) os r
  | _, _, _ => false
def m_swL (y pc : Nat) : List (Int × Int) → List Nat → Bool
  | [], [] => true
  | o :: os, v :: t :: r => decide ((v : Int) = o.1) && decide (v < 2147483648) && m_pcZ y t ((pc : Int) + o.2) && m_swL y pc os r
  | _, _ => false
def m_fty (t : Nat) (f : FieldType) : Bool := match t, f with
  | 0, .int => true
  | 1, .boolean => true
  | 2, .object _ => true
  | 2, .array _ => true
  | _, _ => false
def m_okI (y pc : Nat) (i : Instr) (a : List Nat) (c : Int32) : Bool := match i, a with
  | .iconst n, _ => decide (Int32.ofInt n = c)
  | .bipush n, _ => decide ((Int8.ofInt n).toInt32 = c)
  | .sipush n, _ => decide ((Int16.ofInt n).toInt32 = c)
  | .lconst n, [v] => decide ((n : Nat) = v)
  | .iload_n n, [v] => decide ((n : Nat) = v)
  | .aload_n n, [v] => decide ((n : Nat) = v)
  | .lload_n n, [v] => decide ((n : Nat) = v)
  | .istore_n n, [v] => decide ((n : Nat) = v)
  | .astore_n n, [v] => decide ((n : Nat) = v)
  | .lstore_n n, [v] => decide ((n : Nat) = v)
  | .iload n, [v] => decide (n = v)
  | .aload n, [v] => decide (n = v)
  | .lload n, [v] => decide (n = v)
  | .istore n, [v] => decide (n = v)
  | .astore n, [v] => decide (n = v)
  | .lstore n, [v] => decide (n = v)
  | .iinc n d, [v] => decide (n = v) && decide (Int32.ofInt d = c)
  | .ldc2_w k, [v] => m_w (m_pLn (m_rc y) k) (.constantLong (m_own y) k (Int64.ofNat v))
  | .ldc k, [v] => Nat.beq y 39 && Nat.beq k 64 && Nat.beq v 1
  | .ldc_w k, [v] => Nat.beq y 87 && Nat.beq k 279 && Nat.beq v 0
  | .ifCond _ o, [t] => m_pcZ y t ((pc : Int) + o)
  | .if_icmp _ o, [t] => m_pcZ y t ((pc : Int) + o)
  | .goto o, [t] => m_pcZ y t ((pc : Int) + o)
  | .tableswitch d lo hi os, t :: r => m_pcZ y t ((pc : Int) + d) && decide (0 ≤ lo) && decide (hi < 1000) && decide (hi + 1 = lo + (os.size : Int)) && m_swT y pc lo 0 os.toList r
  | .lookupswitch d ps, t :: r => m_pcZ y t ((pc : Int) + d) && ((ps.toList.zip (ps.toList.drop 1)).all (fun (a, next) => a.1 < next.1)) && m_swL y pc ps.toList r
  | .getfield k, [ci, f, t] => Nat.blt ci 9 && Nat.blt f (m_C ci).2.2 && m_w (m_pLn (m_rc y) k) (.fieldLink (m_own y) k ((m_C ci).2.1 f).1 ((m_C ci).2.1 f).2.1 ((m_C ci).2.1 f).2.2.1)
  | .putfield k, [ci, f, t] => Nat.blt ci 9 && Nat.blt f (m_C ci).2.2 && m_w (m_pLn (m_rc y) k) (.fieldLink (m_own y) k ((m_C ci).2.1 f).1 ((m_C ci).2.1 f).2.1 ((m_C ci).2.1 f).2.2.1) && m_fty t (m_ty ci f) && (!((m_C ci).2.1 f).2.2.2 || (decide ((m_name y).name = "<init>") && decide (((m_C ci).2.1 f).1 = m_own y)))
  | .invokevirtual k, [z, n] => bif Nat.blt z 900 then (Nat.blt z 164 && Nat.beq n (m_np z + 1) && Nat.ble n (m_maxL z) && !m_stat z && m_w (m_pLn (m_rc y) k) (.methodLink (m_own y) k (m_name z)) && m_w (m_pSel z) (.selects (m_own z) (m_name z) (m_name z)) && Nat.blt (m_rc z) 9 && Nat.ble (m_frm z + 1) (m_frm y) && Nat.ble (m_loc z + m_maxL z + 19) (m_loc y)) else (m_w (m_pLn (m_rc y) k) (.methodLink (m_own y) k (bif Nat.beq z 1000 then yJ0_length_8abf5 else bif Nat.beq z 1001 then yJ0_charAt_5068e else yJ0_indexOf_0f7a4)) && Nat.blt z 1003 && Nat.beq n (bif Nat.beq z 1000 then 1 else 2) && Nat.ble 5 (m_frm y) && Nat.ble 140 (m_loc y))
  | .invokestatic k, [z, n] => Nat.blt z 164 && Nat.beq n (m_np z) && Nat.ble n (m_maxL z) && m_stat z && (m_w (m_pLn (m_rc y) k) (.methodLink (m_own y) k (m_name z)) || (Nat.beq z 88 && Nat.beq k 104 && decide (m_own y = RX3))) && Nat.ble (m_frm z + 1) (m_frm y) && Nat.ble (m_loc z + m_maxL z + 19) (m_loc y)
  | .invokespecial k, [_] => m_w (m_pLn (m_rc y) k) (.methodLink (m_own y) k objectInit) && Nat.ble 1 (m_frm y) && Nat.ble 20 (m_loc y)
  | .invokespecial k, [z, n] => Nat.blt z 164 && Nat.beq n (m_np z + 1) && Nat.ble n (m_maxL z) && !m_stat z && m_w (m_pLn (m_rc y) k) (.methodLink (m_own y) k (m_name z)) && decide ((m_name z).name = "<init>") && decide (m_retT z = none) && Nat.ble (m_frm z + 1) (m_frm y) && Nat.ble (m_loc z + m_maxL z + 19) (m_loc y)
  | .new k, [ci] => Nat.blt ci 9 && m_w (m_pLn (m_rc y) k) (.classLink (m_own y) k (m_C ci).1)
  | .newarray .int, [t] => Nat.beq t 0
  | .newarray .char, [t] => Nat.beq t 1
  | .newarray _, _ => false
  | .anewarray k, _ => m_w (m_pLn (m_rc y) k) (.classLink (m_own y) k RX1)
  | .ireturn, _ => decide (m_retT y = some (bif Nat.beq (m_rt y) 0 then .int else bif Nat.beq (m_rt y) 1 then .boolean else .char)) 
  | .return_, _ => decide (m_retT y = none)
  | .areturn, _ => decide (m_retT y = some (.object RX0))
  | .lconst _, _ => false
  | .iload_n _, _ => false
  | .aload_n _, _ => false
  | .lload_n _, _ => false
  | .istore_n _, _ => false
  | .astore_n _, _ => false
  | .lstore_n _, _ => false
  | .iload _, _ => false
  | .aload _, _ => false
  | .lload _, _ => false
  | .istore _, _ => false
  | .astore _, _ => false
  | .lstore _, _ => false
  | .iinc _ _, _ => false
  | .ldc2_w _, _ => false
  | .ldc _, _ => false
  | .ldc_w _, _ => false
  | .ifCond _ _, _ => false
  | .if_icmp _ _, _ => false
  | .goto _, _ => false
  | .tableswitch _ _ _ _, _ => false
  | .lookupswitch _ _, _ => false
  | .getfield _, _ => false
  | .putfield _, _ => false
  | .invokevirtual _, _ => false
  | .invokestatic _, _ => false
  | .invokespecial _, _ => false
  | .new _, _ => false
  | _, _ => true
def m_okE (y k : Nat) (e : ME) : Bool := decide (decode (m_bytes y) e.1 = .ok (e.2.1, e.2.2.1)) && (m_sws e.2.1 || Nat.beq e.2.2.1 (m_lenOf e.2.1)) && (!m_on e.2.1 || m_pcAt y (k + 1) (e.1 + e.2.2.1)) && m_okI y e.1 e.2.1 e.2.2.2.1 e.2.2.2.2
def m_okP (y k : Nat) : Bool := match m_code y k with
  | some e => m_okE y k e
  | none => true
/-- a method's own words -/
def m_okM (y : Nat) : Bool := m_w (m_pInst y) (bif m_stat y then .static (m_name y) else .instanceMethod (m_name y)) && m_w (m_pIni y) (.initialized (m_own y)) && decide ((m_name y).cls = m_own y) && (Nat.beq (m_rc y) 9 || decide (m_own y = (m_C (m_rc y)).1)) && m_pcAt y 0 0 && decide ((parseMethodDescriptor (m_name y).desc).map (fun d => d.parameters.length) = some (m_np y)) && plainFor (m_name y) && decide (m_own y ≠ "java/lang/invoke/MethodHandle") && decide (m_own y ≠ "java/lang/invoke/VarHandle")

set_option maxRecDepth 100000 in
theorem m_okQ_0 : (List.range 12).all (fun y => (List.range (m_len (y + 0))).all (fun k => m_okP (y + 0) k)) = true := by decide +kernel
set_option maxRecDepth 100000 in
theorem m_okQ_1 : (List.range 12).all (fun y => (List.range (m_len (y + 12))).all (fun k => m_okP (y + 12) k)) = true := by decide +kernel
set_option maxRecDepth 100000 in
theorem m_okQ_2 : (List.range 12).all (fun y => (List.range (m_len (y + 24))).all (fun k => m_okP (y + 24) k)) = true := by decide +kernel
set_option maxRecDepth 100000 in
theorem m_okQ_3 : (List.range 12).all (fun y => (List.range (m_len (y + 36))).all (fun k => m_okP (y + 36) k)) = true := by decide +kernel
set_option maxRecDepth 100000 in
theorem m_okQ_4 : (List.range 12).all (fun y => (List.range (m_len (y + 48))).all (fun k => m_okP (y + 48) k)) = true := by decide +kernel
set_option maxRecDepth 100000 in
theorem m_okQ_5 : (List.range 12).all (fun y => (List.range (m_len (y + 60))).all (fun k => m_okP (y + 60) k)) = true := by decide +kernel
set_option maxRecDepth 100000 in
theorem m_okQ_6 : (List.range 12).all (fun y => (List.range (m_len (y + 72))).all (fun k => m_okP (y + 72) k)) = true := by decide +kernel
set_option maxRecDepth 100000 in
theorem m_okQ_7 : (List.range 12).all (fun y => (List.range (m_len (y + 84))).all (fun k => m_okP (y + 84) k)) = true := by decide +kernel
set_option maxRecDepth 100000 in
theorem m_okQ_8 : (List.range 12).all (fun y => (List.range (m_len (y + 96))).all (fun k => m_okP (y + 96) k)) = true := by decide +kernel
set_option maxRecDepth 100000 in
theorem m_okQ_9 : (List.range 12).all (fun y => (List.range (m_len (y + 108))).all (fun k => m_okP (y + 108) k)) = true := by decide +kernel
set_option maxRecDepth 100000 in
theorem m_okQ_10 : (List.range 12).all (fun y => (List.range (m_len (y + 120))).all (fun k => m_okP (y + 120) k)) = true := by decide +kernel
set_option maxRecDepth 100000 in
theorem m_okQ_11 : (List.range 12).all (fun y => (List.range (m_len (y + 132))).all (fun k => m_okP (y + 132) k)) = true := by decide +kernel
set_option maxRecDepth 100000 in
theorem m_okQ_12 : (List.range 12).all (fun y => (List.range (m_len (y + 144))).all (fun k => m_okP (y + 144) k)) = true := by decide +kernel
set_option maxRecDepth 100000 in
theorem m_okQ_13 : (List.range 8).all (fun y => (List.range (m_len (y + 156))).all (fun k => m_okP (y + 156) k)) = true := by decide +kernel
theorem m_okP_all (y k : Nat) : m_okP y k = true := by
  by_cases hk : k < m_len y
  · have hy : y < 164 := by
      apply Classical.byContradiction
      intro q
      have h1 : Nat.blt y 164 = false := Bool.eq_false_iff.mpr (fun z => q (by rwa [Nat.blt_eq] at z))
      unfold m_len at hk
      rw [h1] at hk
      simp at hk
    by_cases q0 : y < 12
    · exact List.all_eq_true.mp (List.all_eq_true.mp m_okQ_0 y (List.mem_range.mpr q0)) k (List.mem_range.mpr hk)
    by_cases q12 : y < 24
    · have h1 := List.all_eq_true.mp m_okQ_1 (y - 12) (List.mem_range.mpr (by omega))
      rw [show y - 12 + 12 = y by omega] at h1
      exact List.all_eq_true.mp h1 k (List.mem_range.mpr hk)
    by_cases q24 : y < 36
    · have h1 := List.all_eq_true.mp m_okQ_2 (y - 24) (List.mem_range.mpr (by omega))
      rw [show y - 24 + 24 = y by omega] at h1
      exact List.all_eq_true.mp h1 k (List.mem_range.mpr hk)
    by_cases q36 : y < 48
    · have h1 := List.all_eq_true.mp m_okQ_3 (y - 36) (List.mem_range.mpr (by omega))
      rw [show y - 36 + 36 = y by omega] at h1
      exact List.all_eq_true.mp h1 k (List.mem_range.mpr hk)
    by_cases q48 : y < 60
    · have h1 := List.all_eq_true.mp m_okQ_4 (y - 48) (List.mem_range.mpr (by omega))
      rw [show y - 48 + 48 = y by omega] at h1
      exact List.all_eq_true.mp h1 k (List.mem_range.mpr hk)
    by_cases q60 : y < 72
    · have h1 := List.all_eq_true.mp m_okQ_5 (y - 60) (List.mem_range.mpr (by omega))
      rw [show y - 60 + 60 = y by omega] at h1
      exact List.all_eq_true.mp h1 k (List.mem_range.mpr hk)
    by_cases q72 : y < 84
    · have h1 := List.all_eq_true.mp m_okQ_6 (y - 72) (List.mem_range.mpr (by omega))
      rw [show y - 72 + 72 = y by omega] at h1
      exact List.all_eq_true.mp h1 k (List.mem_range.mpr hk)
    by_cases q84 : y < 96
    · have h1 := List.all_eq_true.mp m_okQ_7 (y - 84) (List.mem_range.mpr (by omega))
      rw [show y - 84 + 84 = y by omega] at h1
      exact List.all_eq_true.mp h1 k (List.mem_range.mpr hk)
    by_cases q96 : y < 108
    · have h1 := List.all_eq_true.mp m_okQ_8 (y - 96) (List.mem_range.mpr (by omega))
      rw [show y - 96 + 96 = y by omega] at h1
      exact List.all_eq_true.mp h1 k (List.mem_range.mpr hk)
    by_cases q108 : y < 120
    · have h1 := List.all_eq_true.mp m_okQ_9 (y - 108) (List.mem_range.mpr (by omega))
      rw [show y - 108 + 108 = y by omega] at h1
      exact List.all_eq_true.mp h1 k (List.mem_range.mpr hk)
    by_cases q120 : y < 132
    · have h1 := List.all_eq_true.mp m_okQ_10 (y - 120) (List.mem_range.mpr (by omega))
      rw [show y - 120 + 120 = y by omega] at h1
      exact List.all_eq_true.mp h1 k (List.mem_range.mpr hk)
    by_cases q132 : y < 144
    · have h1 := List.all_eq_true.mp m_okQ_11 (y - 132) (List.mem_range.mpr (by omega))
      rw [show y - 132 + 132 = y by omega] at h1
      exact List.all_eq_true.mp h1 k (List.mem_range.mpr hk)
    by_cases q144 : y < 156
    · have h1 := List.all_eq_true.mp m_okQ_12 (y - 144) (List.mem_range.mpr (by omega))
      rw [show y - 144 + 144 = y by omega] at h1
      exact List.all_eq_true.mp h1 k (List.mem_range.mpr hk)
    by_cases q156 : y < 164
    · have h1 := List.all_eq_true.mp m_okQ_13 (y - 156) (List.mem_range.mpr (by omega))
      rw [show y - 156 + 156 = y by omega] at h1
      exact List.all_eq_true.mp h1 k (List.mem_range.mpr hk)
    exact absurd hy (by omega)
  · have h1 : Nat.blt k (m_len y) = false := Bool.eq_false_iff.mpr (fun z => hk (by rwa [Nat.blt_eq] at z))
    unfold m_okP m_code
    rw [h1]
    rfl
theorem m_okE_of {y k : Nat} {e : ME} (h : m_code y k = some e) : m_okE y k e = true := by
  have h1 := m_okP_all y k
  unfold m_okP at h1
  rw [h] at h1
  exact h1
end
section
set_option maxRecDepth 100000 in
theorem m_okP_0 : ∀ y, y < 164 → m_okM y = true := by decide +kernel
theorem m_okM_of {y k : Nat} {e : ME} (h : m_code y k = some e) : y < 164 ∧ m_okM y = true := by
  have hy : y < 164 := by
    apply Classical.byContradiction
    intro q
    have h1 : Nat.blt y 164 = false := Bool.eq_false_iff.mpr (fun z => q (by rwa [Nat.blt_eq] at z))
    unfold m_code m_len at h
    rw [h1] at h
    have h2 : Nat.blt k 0 = false := rfl
    simp only [cond_false] at h
    rw [h2] at h
    cases h
  exact ⟨hy, m_okP_0 y hy⟩
def m_tbl : List Cond := lw_tbl.filter goodWord
theorem m_in {w : Cond} (h : w ∈ lw_tbl) (g : goodWord w = true) : w ∈ m_tbl := List.mem_filter.mpr ⟨h, g⟩
theorem m_tblIn : GoodIn m_tbl m_tbl := fun w hw => ⟨hw, good_of_word (List.mem_filter.mp hw).2⟩
theorem m_tbl_lw {w : Cond} (h : w ∈ m_tbl) : w ∈ lw_tbl := (List.mem_filter.mp h).1
set_option maxRecDepth 100000 in
theorem m_fldIn0 : ∀ c, c < 9 → ∀ w ∈ u_ws (m_C c).1 (m_C c).2.1 (m_C c).2.2, w ∈ lw_tbl ∧ goodWord w = true := by decide +kernel
theorem m_fldIn (c : Nat) (hc : c < 9) : ∀ w ∈ u_ws (m_C c).1 (m_C c).2.1 (m_C c).2.2, w ∈ m_tbl := fun w h => m_in (m_fldIn0 c hc w h).1 (m_fldIn0 c hc w h).2
theorem m_clAt : ∀ c, c < 9 → vwCl[c]? = some (m_C c) := fun c hc => match c, hc with
  | 0, _ => rfl
  | 1, _ => rfl
  | 2, _ => rfl
  | 3, _ => rfl
  | 4, _ => rfl
  | 5, _ => rfl
  | 6, _ => rfl
  | 7, _ => rfl
  | 8, _ => rfl
  | n + 9, h => absurd h (by omega)
theorem m_tyAt : ∀ c, c < 9 → ∀ k, k < (m_C c).2.2 → parseFieldDescriptor ((m_C c).2.1 k).2.2.1 = some (m_ty c k) := fun c hc => match c, hc with
  | 0, _ => tyX0_ok
  | 1, _ => tyX1_ok
  | 2, _ => tyX2_ok
  | 3, _ => tyX3_ok
  | 4, _ => tyX4_ok
  | 5, _ => tyX5_ok
  | 6, _ => tyX6_ok
  | 7, _ => tyX7_ok
  | 8, _ => tyX8_ok
  | n + 9, h => absurd h (by omega)
theorem m_nmAt : ∀ c, c < 9 → ∀ a, a < (m_C c).2.2 → ∀ b, b < (m_C c).2.2 → a ≠ b → ((m_C c).2.1 a).2.1 ≠ ((m_C c).2.1 b).2.1 := fun c hc => match c, hc with
  | 0, _ => nmX0
  | 1, _ => nmX1
  | 2, _ => nmX2
  | 3, _ => nmX3
  | 4, _ => nmX4
  | 5, _ => nmX5
  | 6, _ => nmX6
  | 7, _ => nmX7
  | 8, _ => nmX8
  | n + 9, h => absurd h (by omega)
def m_pNew (c : Nat) : Nat := (bif Nat.blt c 4 then (bif Nat.blt c 2 then (bif Nat.blt c 1 then 131 else 356) else (bif Nat.blt c 3 then 424 else 208)) else (bif Nat.blt c 6 then (bif Nat.blt c 5 then 386 else 407) else (bif Nat.blt c 7 then 62 else (bif Nat.blt c 8 then 51 else 771))))
def m_pIn2 (c : Nat) : Nat := (bif Nat.blt c 4 then (bif Nat.blt c 2 then (bif Nat.blt c 1 then 41 else 45) else (bif Nat.blt c 3 then 48 else 42)) else (bif Nat.blt c 6 then (bif Nat.blt c 5 then 46 else 47) else (bif Nat.blt c 7 then 36 else (bif Nat.blt c 8 then 35 else 49))))
set_option maxRecDepth 100000 in
theorem m_newAt : ∀ c, c < 9 → (m_w (m_pNew c) (.instantiable (m_C c).1 (m_C c).2.2) && m_w (m_pIn2 c) (.initialized (m_C c).1)) = true := by decide +kernel
theorem m_mem_int : Cond.arrayClass .int ∈ lw_tbl := List.mem_of_getElem? (i := 206) (by decide +kernel)
theorem m_mem_char : Cond.arrayClass .char ∈ lw_tbl := List.mem_of_getElem? (i := 76) (by decide +kernel)
theorem m_mem_mom : Cond.arrayOver (.object "OracleWheel$Moment") ∈ lw_tbl := List.mem_of_getElem? (i := 393) (by decide +kernel)
theorem m_mem_oc : Cond.code objectInit ⟨#[0xb1]⟩ 1 none ∈ lw_tbl := List.mem_of_getElem? (i := 57) (by decide +kernel)
theorem m_mem_oi : Cond.instanceMethod objectInit ∈ lw_tbl := List.mem_of_getElem? (i := 56) (by decide +kernel)
end
section
/-! the small machine's cells in the real heap; a row for each instruction that touches cells -/
/-- where the cells lie: the first address, the string constants' addresses, the classes, the arrays' classes, the heap as it was -/
abbrev m_GT : Type := Nat × (Nat → Nat) × va_G × (Nat → ClassId) × Heap
def m_tv (G : m_GT) (v : Value) : Value := match v with
  | .ref i => .ref (G.1 + i)
  | .retAddr j => .ref (G.2.1 j)
  | v => v
def m_tA (G : m_GT) (a : vp_A) : vp_A := match a.2 with
  | .inr (.inr (.inr (.inr f))) => (a.1, .inr (.inr (.inr (.inr fun j => (f j).map (fun i => G.1 + i)))))
  | _ => a
def m_tE (G : m_GT) (e : va_E) : va_E := match e with
  | .inl (t, a) => .inl (G.2.2.2.1 t, m_tA G a)
  | .inr (c, fs) => .inr (c, fs.map (m_tv G))
def m_ws (G : m_GT) (h : MH) : va_W := h.mapIdx fun i e => (G.1 + i, m_tE G e)
def m_A (G : m_GT) : Nat → Prop := fun q => G.1 ≤ q
def m_tys (G : m_GT) : List (ClassId × FieldType) := [(G.2.2.2.1 0, .int), (G.2.2.2.1 1, .char), (G.2.2.2.1 2, .object "OracleWheel$Moment")]
def m_Rel (G : m_GT) (h : MH) (H : Heap) : Prop := H.size = G.1 + h.length ∧ va_P G.2.2.1 vwCl (m_ws G h) H ∧ ∀ q, q < G.1 → H[q]? = G.2.2.2.2[q]?
def m_lenS : List Nat := [96, 4]
def m_bytS : List (List Int32) := [(m_chs 0).map nI, (m_chs 1).map nI]
/-- what is known of the classes and of the string constants -/
def m_KS (G : m_GT) (U : State) : Prop := va_K G.2.2.1 vwCl (m_tys G) U ∧ va_AO "OracleWheel$Moment" U ∧ (∃ adV : Nat → Nat, vk_S 2 m_lenS m_bytS G.2.1 adV (m_A G) U G.2.2.2.2) ∧ vk_R RX7 279 (m_txt 0) (G.2.1 0) U ∧ vk_R RX3 64 (m_txt 1) (G.2.1 1) U ∧ va_Nw (.methodLinkNest RX3 104 yX7_isWord RX7) U ∧ va_Z "java/lang/String" "COMPACT_STRINGS" "Z" (.int 1) (m_A G) U G.2.2.2.2 ∧ va_Zq "jdk/internal/util/Preconditions" "SIOOBE_FORMATTER" "Ljava/util/function/BiFunction;" (m_A G) U G.2.2.2.2 ∧ G.2.2.2.2.size = G.1
theorem m_KS.warm {G : m_GT} {s U : State} (hW : s.WarmedH U.vm) (h : m_KS G s) : m_KS G U := by
  obtain ⟨h1, h2, ⟨adV, h3⟩, h4, h5, h6, h7, h8, h9⟩ := h
  exact ⟨va_K.moved hW.alike h1, va_AO.moved hW.alike h2, ⟨adV, vk_S.moved hW.alike h3⟩, vk_R.warm hW h4, vk_R.warm hW h5, va_Nw.warmM hW h6, va_Z.moved hW.alike h7, va_Zq.moved hW.alike h8, h9⟩
theorem m_KS.same {G : m_GT} {s U : State} (hv : U.vm = s.vm) (h : m_KS G s) : m_KS G U := by
  obtain ⟨h1, h2, ⟨adV, h3⟩, h4, h5, h6, h7, h8, h9⟩ := h
  have ha : s.vm.Alike U.vm := by rw [hv]; exact Vm.Alike.refl _
  exact ⟨va_K.moved ha h1, va_AO.moved ha h2, ⟨adV, vk_S.moved ha h3⟩, vk_R.same hv h4, vk_R.same hv h5, va_Nw.same rfl hv.symm h6, va_Z.moved ha h7, va_Zq.moved ha h8, h9⟩
theorem m_ws_at {G : m_GT} {h : MH} {o : Nat} {e : va_E} (he : h[o]? = some e) : (m_ws G h)[o]? = some (G.1 + o, m_tE G e) := by
  simp [m_ws, List.getElem?_mapIdx, he]
theorem m_ws_of {G : m_GT} {h : MH} {o : Nat} {q : Nat × va_E} (he : (m_ws G h)[o]? = some q) : ∃ e, h[o]? = some e ∧ q = (G.1 + o, m_tE G e) := by
  simp only [m_ws, List.getElem?_mapIdx, Option.map_eq_some_iff] at he
  obtain ⟨e, h1, h2⟩ := he
  exact ⟨e, h1, h2.symm⟩
theorem m_ws_set {G : m_GT} {h : MH} {o : Nat} {e : va_E} : m_ws G (h.set o e) = (m_ws G h).set o (G.1 + o, m_tE G e) := by
  simp [m_ws, List.mapIdx_set]
theorem m_ws_push {G : m_GT} {h : MH} {e : va_E} : m_ws G (h ++ [e]) = m_ws G h ++ [(G.1 + h.length, m_tE G e)] := by
  simp [m_ws, List.mapIdx_append]
theorem m_ws_D {G : m_GT} {h : MH} : va_D (m_A G) (m_ws G h) := by
  refine ⟨fun i j p q hp hq e => ?_, fun k q hq => ?_⟩
  · obtain ⟨_, _, rfl⟩ := m_ws_of hp
    obtain ⟨_, _, rfl⟩ := m_ws_of hq
    dsimp only at e
    omega
  · obtain ⟨_, _, rfl⟩ := m_ws_of hq
    exact Nat.le_add_right _ _
theorem m_tA_1 (G : m_GT) (a : vp_A) : (m_tA G a).1 = a.1 := by
  unfold m_tA
  split <;> rfl
section MROW
variable {p : Program} {l : Launch} {e : Env} {R : Room} {s : State} {m : MethodId} {args : Array Value} {below : List Frame} {meth : Method} {c : Code} {H : Heap} {locs : List Loc} {cells slots : Nat} {Q : State → Prop}
variable {cc : ByteArray} {pc : Nat} {ls : Array Slot} {rest : List Value} {G : m_GT} {h h' : MH}
theorem m_Wsize (hc : s.heap.size + cells = H.size) {H1 : Heap} {locs1 : List Loc} {g : JFrame} (hle : H.size ≤ H1.size) (k : H1.size = H.size → W p l e R s m args below meth c H1 locs1 cells slots Q g) : W p l e R s m args below meth c H1 locs1 cells slots Q g := by
  intro T hT X
  have h1 : T.heap.size ≤ s.heap.size + cells := X.heapSize
  rw [hT, hc] at h1
  exact k (Nat.le_antisymm h1 hle) T hT X
theorem m_Wget (hx : p.tables.exec = Jvm.exec) (hb : c.code = cc) (hts : ∀ w ∈ m_tbl, w.before args s = true) {own : String} (hownC : s.vm.findClass own = some m.cls) (hK : m_KS G s) (hR : m_Rel G h H) {o ci f idx : Nat} {fs : List Value} (he : h[o]? = some (.inr (ci, fs))) {v : Value} (hv : fs[f]? = some v) (hci : ci < 9) (hf : f < (m_C ci).2.2) (hlink : Cond.fieldLink own idx ((m_C ci).2.1 f).1 ((m_C ci).2.1 f).2.1 ((m_C ci).2.1 f).2.2.1 ∈ m_tbl) (hdg : decode cc pc = .ok (.getfield idx, 3))
    (kk : W p l e R s m args below meth c H locs cells slots Q (F0 m (pc + 3) ls (m_tv G v :: rest))) : W p l e R s m args below meth c H locs cells slots Q (F0 m pc ls (.ref (G.1 + o) :: rest)) :=
  va_get (D := G.2.2.1) (cl := vwCl) (tys := m_tys G) (ws := m_ws G h) (C := (m_C ci).1) (T := (m_C ci).2.1) (N := (m_C ci).2.2) (ci := ci) (own := own) (ref := ((m_C ci).2.1 f).1) (index := idx) hx hb hts (m_fldIn ci hci) hownC hK.1 hR.2.1 o (m_ws_at he) (m_clAt ci hci) f hf (hts _ hlink) (fun _ h9 => h9) (v := m_tv G v) (by simp [hv]) hdg kk
/-- behind a write of one cell -/
theorem m_Rel_set {o : Nat} {e0 e1 : va_E} (hR : m_Rel G h H) (he : h[o]? = some e0) {H1 : Heap} {locs1 : List Loc} (hz : H1.size = H.size) (hP : va_P G.2.2.1 vwCl ((m_ws G h).set o (G.1 + o, m_tE G e1)) H1) (hS : va_S (m_A G) H H1 locs1) : m_Rel G (h.set o e1) H1 := by
  refine ⟨by rw [hz, hR.1]; simp, by rw [m_ws_set]; exact hP, fun q hq => ?_⟩
  rw [hS.2.1 q (by rw [hR.1]; omega) (by unfold m_A; omega)]
  exact hR.2.2 q hq
/-- two steps of a frame -/
theorem m_S_trans {A : Nat → Prop} {H0 H H1 : Heap} {locs locs1 : List Loc} (h1 : va_S A H0 H locs) (h2 : va_S A H H1 locs1) : va_S A H0 H1 locs1 := ⟨Nat.le_trans h1.1 h2.1, fun q hq hA => (h2.2.1 q (Nat.lt_of_lt_of_le hq h1.1) hA).trans (h1.2.1 q hq hA), h2.2.2⟩
theorem m_S_here {A : Nat → Prop} {H0 H : Heap} {locs : List Loc} (h1 : va_S A H0 H locs) : va_S A H H locs := ⟨Nat.le_refl _, fun _ _ _ => rfl, h1.2.2⟩
theorem m_Wput (hx : p.tables.exec = Jvm.exec) (hb : c.code = cc) (hts : ∀ w ∈ m_tbl, w.before args s = true) {own : String} (hownC : s.vm.findClass own = some m.cls) (hK : m_KS G s) (hR : m_Rel G h H) (hS : va_S (m_A G) s.heap H locs) (hc : s.heap.size + cells = H.size) {o ci f idx : Nat} {v : Value} (hp : m_pf h o ci f v = some h') (hci : ci < 9) (hf : f < (m_C ci).2.2) (hlink : Cond.fieldLink own idx ((m_C ci).2.1 f).1 ((m_C ci).2.1 f).2.1 ((m_C ci).2.1 f).2.2.1 ∈ m_tbl)
    (hfin : ((m_C ci).2.1 f).2.2.2 = false ∨ (((m_C ci).2.1 f).2.2.2 = true ∧ meth.name = "<init>" ∧ ((m_C ci).2.1 f).1 = own)) (hn : narrow (m_ty ci f) (m_tv G v) = m_tv G v) (hfit : fits (m_ty ci f) (m_tv G v) = true) (hdg : decode cc pc = .ok (.putfield idx, 3))
    (kk : ∀ (H1 : Heap) (locs1 : List Loc), m_Rel G h' H1 → va_S (m_A G) s.heap H1 locs1 → s.heap.size + cells = H1.size → W p l e R s m args below meth c H1 locs1 cells slots Q (F0 m (pc + 3) ls rest)) : W p l e R s m args below meth c H locs cells slots Q (F0 m pc ls (m_tv G v :: .ref (G.1 + o) :: rest)) := by
  obtain ⟨fs, he, hk, rfl⟩ := m_pf_inv hp
  have goal : ∀ (H1 : Heap) (locs1 : List Loc), va_P G.2.2.1 vwCl ((m_ws G h).set o (G.1 + o, .inr (ci, (fs.map (m_tv G)).set f (m_tv G v)))) H1 → va_D (m_A G) ((m_ws G h).set o (G.1 + o, .inr (ci, (fs.map (m_tv G)).set f (m_tv G v)))) → va_S (m_A G) H H1 locs1 → W p l e R s m args below meth c H1 locs1 cells slots Q (F0 m (pc + 3) ls rest) := by
    intro H1 locs1 hP1 hD1 hS1
    refine m_Wsize hc hS1.1 fun hz => ?_
    refine kk H1 locs1 (m_Rel_set (e1 := .inr (ci, fs.set f v)) hR he hz (by show va_P _ _ ((m_ws G h).set o (G.1 + o, .inr (ci, (fs.set f v).map (m_tv G)))) H1; rw [List.map_set]; exact hP1) hS1) (m_S_trans hS hS1) (by rw [hz]; exact hc)
  rcases hfin with hfin | ⟨hfin, hin, hdecl⟩
  · exact va_put (D := G.2.2.1) (cl := vwCl) (tys := m_tys G) (ws := m_ws G h) (C := (m_C ci).1) (T := (m_C ci).2.1) (N := (m_C ci).2.2) (ci := ci) (own := own) (ref := ((m_C ci).2.1 f).1) (index := idx) (ty := m_ty ci f) hx hb hts (m_fldIn ci hci) (m_ty ci) (m_tyAt ci hci) (m_nmAt ci hci) hownC hK.1 hR.2.1 m_ws_D (m_S_here hS) o (m_ws_at he) (m_clAt ci hci) f hf (hts _ hlink) (fun _ h9 => h9) hfin (m_tyAt ci hci f hf) hn hfit (by simpa using hk) hdg goal
  · exact va_putF (D := G.2.2.1) (cl := vwCl) (tys := m_tys G) (ws := m_ws G h) (C := (m_C ci).1) (T := (m_C ci).2.1) (N := (m_C ci).2.2) (ci := ci) (own := own) (ref := ((m_C ci).2.1 f).1) (index := idx) (ty := m_ty ci f) hx hb hts (m_fldIn ci hci) (m_ty ci) (m_tyAt ci hci) (m_nmAt ci hci) hownC hK.1 hR.2.1 m_ws_D (m_S_here hS) o (m_ws_at he) (m_clAt ci hci) f hf (hts _ hlink) (fun _ h9 => h9) hfin hin hdecl (m_tyAt ci hci f hf) hn hfit (by simpa using hk) hdg goal
theorem m_Wiald (hx : p.tables.exec = Jvm.exec) (hb : c.code = cc) (hK : m_KS G s) (hR : m_Rel G h H) {o : Nat} {i x : Int32} (hq : m_ai h o 0 i = some x) (hdg : decode cc pc = .ok (.iaload, 1))
    (kk : W p l e R s m args below meth c H locs cells slots Q (F0 m (pc + 1) ls (.int x :: rest))) : W p l e R s m args below meth c H locs cells slots Q (F0 m pc ls (.int i :: .ref (G.1 + o) :: rest)) := by
  obtain ⟨n, f, he, hin, rfl⟩ := m_ai_inv hq
  exact va_iald hx hb hK.1 hR.2.1 o 0 (m_ws_at he) rfl hin hdg kk
theorem m_Wcald (hx : p.tables.exec = Jvm.exec) (hb : c.code = cc) (hK : m_KS G s) (hR : m_Rel G h H) {o : Nat} {i x : Int32} (hq : m_ai h o 1 i = some x) (hdg : decode cc pc = .ok (.caload, 1))
    (kk : W p l e R s m args below meth c H locs cells slots Q (F0 m (pc + 1) ls (.int x :: rest))) : W p l e R s m args below meth c H locs cells slots Q (F0 m pc ls (.int i :: .ref (G.1 + o) :: rest)) := by
  obtain ⟨n, f, he, hin, rfl⟩ := m_ai_inv hq
  exact va_cald hx hb hK.1 hR.2.1 o 1 (m_ws_at he) rfl hin hdg kk
theorem m_Waald (hx : p.tables.exec = Jvm.exec) (hb : c.code = cc) (hK : m_KS G s) (hR : m_Rel G h H) {o : Nat} {i : Int32} {x : Nat} (hq : m_ar h o i = some x) (hdg : decode cc pc = .ok (.aaload, 1))
    (kk : W p l e R s m args below meth c H locs cells slots Q (F0 m (pc + 1) ls (.ref (G.1 + x) :: rest))) : W p l e R s m args below meth c H locs cells slots Q (F0 m pc ls (.int i :: .ref (G.1 + o) :: rest)) := by
  obtain ⟨n, f, he, hin, hf⟩ := m_ar_inv hq
  refine va_aldq hx hb hK.1 hR.2.1 o 2 (m_ws_at he) rfl hin hdg ?_
  rw [hf]
  exact kk
theorem m_Wiast (hx : p.tables.exec = Jvm.exec) (hb : c.code = cc) (hK : m_KS G s) (hR : m_Rel G h H) (hS : va_S (m_A G) s.heap H locs) (hc : s.heap.size + cells = H.size) {o : Nat} {i x : Int32} (hq : m_pi h o 0 i x = some h') (hdg : decode cc pc = .ok (.iastore, 1))
    (kk : ∀ (H1 : Heap) (locs1 : List Loc), m_Rel G h' H1 → va_S (m_A G) s.heap H1 locs1 → s.heap.size + cells = H1.size → W p l e R s m args below meth c H1 locs1 cells slots Q (F0 m (pc + 1) ls rest)) : W p l e R s m args below meth c H locs cells slots Q (F0 m pc ls (.int x :: .int i :: .ref (G.1 + o) :: rest)) := by
  obtain ⟨n, f, he, hin, rfl⟩ := m_pi_inv hq
  refine va_iast hx hb hK.1 hR.2.1 m_ws_D (m_S_here hS) o 0 (m_ws_at he) rfl hin hdg fun H1 locs1 hP1 hD1 hS1 => ?_
  refine m_Wsize hc hS1.1 fun hz => ?_
  exact kk H1 locs1 (m_Rel_set hR he hz hP1 hS1) (m_S_trans hS hS1) (by rw [hz]; exact hc)
theorem m_Wcast (hx : p.tables.exec = Jvm.exec) (hb : c.code = cc) (hK : m_KS G s) (hR : m_Rel G h H) (hS : va_S (m_A G) s.heap H locs) (hc : s.heap.size + cells = H.size) {o : Nat} {i x : Int32} (hq : m_pi h o 1 i (vp_nar .char x) = some h') (hdg : decode cc pc = .ok (.castore, 1))
    (kk : ∀ (H1 : Heap) (locs1 : List Loc), m_Rel G h' H1 → va_S (m_A G) s.heap H1 locs1 → s.heap.size + cells = H1.size → W p l e R s m args below meth c H1 locs1 cells slots Q (F0 m (pc + 1) ls rest)) : W p l e R s m args below meth c H locs cells slots Q (F0 m pc ls (.int x :: .int i :: .ref (G.1 + o) :: rest)) := by
  obtain ⟨n, f, he, hin, rfl⟩ := m_pi_inv hq
  refine va_cast hx hb hK.1 hR.2.1 m_ws_D (m_S_here hS) o 1 (m_ws_at he) rfl hin hdg fun H1 locs1 hP1 hD1 hS1 => ?_
  refine m_Wsize hc hS1.1 fun hz => ?_
  exact kk H1 locs1 (m_Rel_set hR he hz hP1 hS1) (m_S_trans hS hS1) (by rw [hz]; exact hc)
theorem m_Waast (hx : p.tables.exec = Jvm.exec) (hb : c.code = cc) (hK : m_KS G s) (hR : m_Rel G h H) (hS : va_S (m_A G) s.heap H locs) (hc : s.heap.size + cells = H.size) {o x : Nat} {i : Int32} (hq : m_pr h o i x = some h') (hdg : decode cc pc = .ok (.aastore, 1))
    (kk : ∀ (H1 : Heap) (locs1 : List Loc), m_Rel G h' H1 → va_S (m_A G) s.heap H1 locs1 → s.heap.size + cells = H1.size → W p l e R s m args below meth c H1 locs1 cells slots Q (F0 m (pc + 1) ls rest)) : W p l e R s m args below meth c H locs cells slots Q (F0 m pc ls (.ref (G.1 + x) :: .int i :: .ref (G.1 + o) :: rest)) := by
  obtain ⟨n, f, he, hin, hx1, rfl⟩ := m_pr_inv hq
  obtain ⟨fs, hxc⟩ := m_cls_inv hx1
  refine va_astq (r := m_C 1) hx hb hK.1 hR.2.1 m_ws_D (m_S_here hS) o 2 x 1 (m_ws_at he) rfl (m_ws_at hxc) rfl hin hdg fun H1 locs1 hP1 hD1 hS1 => ?_
  refine m_Wsize hc hS1.1 fun hz => ?_
  refine kk H1 locs1 (m_Rel_set hR he hz ?_ hS1) (m_S_trans hS hS1) (by rw [hz]; exact hc)
  have e1 : (fun j => (va_up f i.toNatClampNeg (some x) j).map (fun i => G.1 + i)) = va_up (fun j => (f j).map (fun i => G.1 + i)) i.toNatClampNeg (some (G.1 + x)) := by
    funext j
    unfold va_up
    by_cases hj : j = i.toNatClampNeg
    · simp [hj]
    · simp [hj]
  show va_P _ _ ((m_ws G h).set o (G.1 + o, .inl (G.2.2.2.1 2, n, .inr (.inr (.inr (.inr (fun j => (va_up f i.toNatClampNeg (some x) j).map (fun i => G.1 + i)))))))) H1
  rw [e1]
  exact hP1
theorem m_Walen (hx : p.tables.exec = Jvm.exec) (hb : c.code = cc) (hK : m_KS G s) (hR : m_Rel G h H) {o : Nat} {x : Int32} (hq : m_al h o = some x) (hdg : decode cc pc = .ok (.arraylength, 1))
    (kk : W p l e R s m args below meth c H locs cells slots Q (F0 m (pc + 1) ls (.int x :: rest))) : W p l e R s m args below meth c H locs cells slots Q (F0 m pc ls (.ref (G.1 + o) :: rest)) := by
  obtain ⟨t, z, he, h3, rfl⟩ := m_al_inv hq
  have e1 : Int32.ofNat (m_tA G z).1 = Int32.ofNat z.1 := by rw [m_tA_1]
  match t, h3, he with
  | 0, _, he => exact va_alen hx hb hK.1 hR.2.1 o 0 (m_ws_at he) rfl e1 hdg kk
  | 1, _, he => exact va_alen hx hb hK.1 hR.2.1 o 1 (m_ws_at he) rfl e1 hdg kk
  | 2, _, he => exact va_alen hx hb hK.1 hR.2.1 o 2 (m_ws_at he) rfl e1 hdg kk
  | n + 3, h3, _ => exact absurd h3 (Nat.not_lt.mpr (Nat.le_add_left 3 n))
/-- behind a new cell -/
theorem m_Rel_new {A : Nat → Prop} (hR : m_Rel G h H) {e1 : va_E} {q : Nat} {H1 : Heap} {locs1 : List Loc} (hz : H1.size ≤ H.size + 1) (hP : va_P G.2.2.1 vwCl (m_ws G h ++ [(q, m_tE G e1)]) H1) (hD : va_D (m_A G) (m_ws G h ++ [(q, m_tE G e1)])) (hS : va_S (m_A G) H H1 locs1) : q = G.1 + h.length ∧ m_Rel G (h ++ [e1]) H1 ∧ H1.size = H.size + 1 := by
  have hlen : (m_ws G h).length = h.length := by simp [m_ws]
  have hl : (m_ws G h ++ [(q, m_tE G e1)])[h.length]? = some (q, m_tE G e1) := by
    rw [List.getElem?_append_right (by omega)]
    simp [hlen]
  have hq1 : q < H1.size := (hP h.length _ hl).lt
  have hq2 : G.1 ≤ q := hD.2 h.length _ hl
  have hq3 : ¬ q < G.1 + h.length := by
    intro hlt
    have hlt' : q - G.1 < h.length := by omega
    have he := List.getElem?_eq_getElem hlt'
    have h1 := m_ws_at (G := G) he
    have h2 : (m_ws G h ++ [(q, m_tE G e1)])[q - G.1]? = some (G.1 + (q - G.1), m_tE G h[q - G.1]) := by
      rw [List.getElem?_append_left (by omega)]
      exact h1
    have h3 := hD.1 (q - G.1) h.length _ _ h2 hl (by dsimp only; omega)
    omega
  have hR1 := hR.1
  have hqe : q = G.1 + h.length := by omega
  refine ⟨hqe, ⟨by simp; omega, by rw [m_ws_push, ← hqe]; exact hP, fun z hz => ?_⟩, by omega⟩
  rw [hS.2.1 z (by omega) (by unfold m_A; omega)]
  exact hR.2.2 z hz
theorem m_Wsize1 (hc : s.heap.size + cells = H.size) {H1 : Heap} {locs1 : List Loc} {g : JFrame} (k : H1.size ≤ H.size + 1 → W p l e R s m args below meth c H1 locs1 (cells + 1) slots Q g) : W p l e R s m args below meth c H1 locs1 (cells + 1) slots Q g := by
  intro T hT X
  have h1 : T.heap.size ≤ s.heap.size + (cells + 1) := X.heapSize
  rw [hT] at h1
  exact k (by omega) T hT X
theorem m_def_ok : ∀ c, c < 9 → ∀ j, j < (m_C c).2.2 → defaultValue (m_ty c j) = vp_V (m_def c) j := by decide +kernel
theorem m_def_tv (G : m_GT) : ∀ c, (m_def c).map (m_tv G) = m_def c := by
  intro c
  unfold m_def
  split <;> rfl
theorem m_Wnew (hx : p.tables.exec = Jvm.exec) (hb : c.code = cc) (hts : ∀ w ∈ m_tbl, w.before args s = true) {own : String} (hownC : s.vm.findClass own = some m.cls) (hK : m_KS G s) (hR : m_Rel G h H) (hS : va_S (m_A G) s.heap H locs) (hbase : G.1 ≤ s.heap.size) (hc : s.heap.size + cells = H.size) {ci idx : Nat} (hci : ci < 9) (hlink : Cond.classLink own idx (m_C ci).1 ∈ m_tbl) (hcells : cells + 1 ≤ R.cells) (hslots : slots + (m_C ci).2.2 ≤ R.slots) (hdg : decode cc pc = .ok (.new idx, 3))
    (kk : ∀ (H1 : Heap) (locs1 : List Loc), m_Rel G (h ++ [.inr (ci, m_def ci)]) H1 → va_S (m_A G) s.heap H1 locs1 → s.heap.size + (cells + 1) = H1.size → W p l e R s m args below meth c H1 locs1 (cells + 1) (slots + (m_C ci).2.2) Q (F0 m (pc + 3) ls (.ref (G.1 + h.length) :: rest))) : W p l e R s m args below meth c H locs cells slots Q (F0 m pc ls rest) := by
  have hw := m_newAt ci hci
  simp only [Bool.and_eq_true] at hw
  have hm1 := m_in (m_w_mem hw.1) rfl
  have hm2 := m_in (m_w_mem hw.2) rfl
  refine va_new (D := G.2.2.1) (cl := vwCl) (tys := m_tys G) (ws := m_ws G h) (C := (m_C ci).1) (T := (m_C ci).2.1) (N := (m_C ci).2.2) (ci := ci) (own := own) (index := idx) (fs := m_def ci) hx hb hts (m_fldIn ci hci) (m_ty ci) (m_tyAt ci hci) hownC (hts _ hlink) (hts _ hm1) (hts _ hm2) hK.1 hR.2.1 m_ws_D (m_S_here hS) (fun q hq => Nat.le_trans hbase (Nat.le_trans hS.1 hq)) (m_clAt ci hci) (m_def_ok ci hci) hcells hslots hdg fun q H1 hP1 hD1 hS1 => ?_
  refine m_Wsize1 hc fun hz => ?_
  have e1 : m_tE G (.inr (ci, m_def ci)) = .inr (ci, m_def ci) := by
    show (Sum.inr (ci, (m_def ci).map (m_tv G)) : va_E) = _
    rw [m_def_tv]
  obtain ⟨rfl, hR1, hz1⟩ := m_Rel_new (A := m_A G) (e1 := .inr (ci, m_def ci)) hR hz (by rw [e1]; exact hP1) (by rw [e1]; exact hD1) hS1
  exact kk H1 locs hR1 (m_S_trans hS hS1) (by omega)
theorem m_Wnewi (hx : p.tables.exec = Jvm.exec) (hb : c.code = cc) (hts : ∀ w ∈ m_tbl, w.before args s = true) (hK : m_KS G s) (hR : m_Rel G h H) (hS : va_S (m_A G) s.heap H locs) (hbase : G.1 ≤ s.heap.size) (hc : s.heap.size + cells = H.size) {n : Int32} (hn : ¬ (n < 0 ∨ 100000 < n.toNatClampNeg)) (hcells : cells + 1 ≤ R.cells) (hslots : slots + n.toNatClampNeg ≤ R.slots) (hdg : decode cc pc = .ok (.newarray .int, 2))
    (kk : ∀ (H1 : Heap) (locs1 : List Loc), m_Rel G (h ++ [.inl (0, n.toNatClampNeg, .inl fun _ => 0)]) H1 → va_S (m_A G) s.heap H1 locs1 → s.heap.size + (cells + 1) = H1.size → W p l e R s m args below meth c H1 locs1 (cells + 1) (slots + n.toNatClampNeg) Q (F0 m (pc + 2) ls (.ref (G.1 + h.length) :: rest))) : W p l e R s m args below meth c H locs cells slots Q (F0 m pc ls (.int n :: rest)) := by
  refine va_newa (atype := .int) (ty := .int) (D := G.2.2.1) (cl := vwCl) (tys := m_tys G) (ws := m_ws G h) (a0 := (n.toNatClampNeg, .inl fun _ => 0)) hx hb (hts _ (m_in m_mem_int rfl)) rfl hK.1 hR.2.1 m_ws_D (m_S_here hS) (fun q hq => Nat.le_trans hbase (Nat.le_trans hS.1 hq)) (fun _ => rfl) (fun q => hn (Or.inl q)) rfl (by have := fun q => hn (Or.inr q); show n.toNatClampNeg * 4 ≤ 536870912; omega) hcells hslots hdg fun q cA H1 hK1 hP1 hD1 hS1 => ?_
  refine m_Wsize1 hc fun hz => ?_
  have e0 : cA = G.2.2.2.1 0 := Option.some.inj ((hK1.2 3 (cA, .int) rfl).2.symm.trans (hK.1.2 0 (G.2.2.2.1 0, .int) rfl).2)
  subst e0
  obtain ⟨rfl, hR1, hz1⟩ := m_Rel_new (A := m_A G) (e1 := .inl (0, n.toNatClampNeg, .inl fun _ => 0)) hR hz hP1 hD1 hS1
  exact kk H1 locs hR1 (m_S_trans hS hS1) (by omega)
theorem m_Wnewc (hx : p.tables.exec = Jvm.exec) (hb : c.code = cc) (hts : ∀ w ∈ m_tbl, w.before args s = true) (hK : m_KS G s) (hR : m_Rel G h H) (hS : va_S (m_A G) s.heap H locs) (hbase : G.1 ≤ s.heap.size) (hc : s.heap.size + cells = H.size) {n : Int32} (hn : ¬ (n < 0 ∨ 100000 < n.toNatClampNeg)) (hcells : cells + 1 ≤ R.cells) (hslots : slots + n.toNatClampNeg ≤ R.slots) (hdg : decode cc pc = .ok (.newarray .char, 2))
    (kk : ∀ (H1 : Heap) (locs1 : List Loc), m_Rel G (h ++ [.inl (1, n.toNatClampNeg, .inl fun _ => 0)]) H1 → va_S (m_A G) s.heap H1 locs1 → s.heap.size + (cells + 1) = H1.size → W p l e R s m args below meth c H1 locs1 (cells + 1) (slots + n.toNatClampNeg) Q (F0 m (pc + 2) ls (.ref (G.1 + h.length) :: rest))) : W p l e R s m args below meth c H locs cells slots Q (F0 m pc ls (.int n :: rest)) := by
  refine va_newa (atype := .char) (ty := .char) (D := G.2.2.1) (cl := vwCl) (tys := m_tys G) (ws := m_ws G h) (a0 := (n.toNatClampNeg, .inl fun _ => 0)) hx hb (hts _ (m_in m_mem_char rfl)) rfl hK.1 hR.2.1 m_ws_D (m_S_here hS) (fun q hq => Nat.le_trans hbase (Nat.le_trans hS.1 hq)) (fun _ => rfl) (fun q => hn (Or.inl q)) rfl (by have := fun q => hn (Or.inr q); show n.toNatClampNeg * 2 ≤ 536870912; omega) hcells hslots hdg fun q cA H1 hK1 hP1 hD1 hS1 => ?_
  refine m_Wsize1 hc fun hz => ?_
  have e0 : cA = G.2.2.2.1 1 := Option.some.inj ((hK1.2 3 (cA, .char) rfl).2.symm.trans (hK.1.2 1 (G.2.2.2.1 1, .char) rfl).2)
  subst e0
  obtain ⟨rfl, hR1, hz1⟩ := m_Rel_new (A := m_A G) (e1 := .inl (1, n.toNatClampNeg, .inl fun _ => 0)) hR hz hP1 hD1 hS1
  exact kk H1 locs hR1 (m_S_trans hS hS1) (by omega)
theorem m_Wnewq (hx : p.tables.exec = Jvm.exec) (hb : c.code = cc) (hts : ∀ w ∈ m_tbl, w.before args s = true) {own : String} (hownC : s.vm.findClass own = some m.cls) (hK : m_KS G s) (hR : m_Rel G h H) (hS : va_S (m_A G) s.heap H locs) (hbase : G.1 ≤ s.heap.size) (hc : s.heap.size + cells = H.size) {idx : Nat} (hlink : Cond.classLink own idx RX1 ∈ m_tbl) {n : Int32} (hn : ¬ (n < 0 ∨ 100000 < n.toNatClampNeg)) (hcells : cells + 1 ≤ R.cells) (hslots : slots + n.toNatClampNeg ≤ R.slots) (hdg : decode cc pc = .ok (.anewarray idx, 3))
    (kk : ∀ (H1 : Heap) (locs1 : List Loc), m_Rel G (h ++ [.inl (2, n.toNatClampNeg, .inr (.inr (.inr (.inr fun _ => none))))]) H1 → va_S (m_A G) s.heap H1 locs1 → s.heap.size + (cells + 1) = H1.size → W p l e R s m args below meth c H1 locs1 (cells + 1) (slots + n.toNatClampNeg) Q (F0 m (pc + 3) ls (.ref (G.1 + h.length) :: rest))) : W p l e R s m args below meth c H locs cells slots Q (F0 m pc ls (.int n :: rest)) := by
  refine va_newq (C := RX1) (own := own) (D := G.2.2.1) (cl := vwCl) (tys := m_tys G) (ws := m_ws G h) hx hb hownC (hts _ hlink) hK.2.1 hK.1 hR.2.1 m_ws_D (m_S_here hS) (fun q hq => Nat.le_trans hbase (Nat.le_trans hS.1 hq)) (fun q => hn (Or.inl q)) rfl (by have := fun q => hn (Or.inr q); omega) hcells hslots hdg fun q cA H1 hK1 hP1 hD1 hS1 => ?_
  refine m_Wsize1 hc fun hz => ?_
  have e0 : cA = G.2.2.2.1 2 := by
    obtain ⟨_, _, _, _, _, h1⟩ := (hK1.2 3 (cA, .object RX1) rfl).2
    obtain ⟨_, _, _, _, _, h2⟩ := (hK.1.2 2 (G.2.2.2.1 2, .object "OracleWheel$Moment") rfl).2
    exact Option.some.inj (h1.symm.trans h2)
  subst e0
  obtain ⟨rfl, hR1, hz1⟩ := m_Rel_new (A := m_A G) (e1 := .inl (2, n.toNatClampNeg, .inr (.inr (.inr (.inr fun _ => none))))) hR hz hP1 hD1 hS1
  exact kk H1 locs hR1 (m_S_trans hS hS1) (by omega)
end MROW
end
section
/-! locals, and the instructions that touch no cell: the small machine's step is the real one's -/
/-- what a frame of method y knows -/
def m_Fr (p : Program) (G : m_GT) (y : Nat) (R : Room) (s : State) (m : MethodId) (args : Array Value) (meth : Method) (c : Code) : Prop :=
  p.tables.exec = Jvm.exec ∧ c.code = m_bytes y ∧ c.maxLocals = m_maxL y ∧ meth.sig.returnType = m_retT y ∧ meth.locks = false ∧ meth.name = (m_name y).name ∧ s.vm.findClass (m_own y) = some m.cls ∧ (∀ w ∈ m_tbl, w.before args s = true) ∧ m_KS G s ∧ G.1 ≤ s.heap.size ∧ m_frm y ≤ R.frames ∧ m_loc y ≤ R.locals
def m_L (G : m_GT) (lsA : Array Slot) (nL : Nat) (ls : ML) : Prop := lsA.size = nL ∧ lv_wf lsA ∧ ls.length = nL ∧ ∀ (i : Nat) (v : Value), ls[i]? = some (some v) → lsA[i]? = some (.val (m_tv G v))
def m_as (G : m_GT) : Nat → ML → List (Nat × Value)
  | _, [] => []
  | i, none :: r => m_as G (i + 1) r
  | i, some v :: r => (i, m_tv G v) :: m_as G (i + 1) r
theorem m_as_mem {G : m_GT} : ∀ (ls : ML) (i : Nat) (q : Nat × Value), q ∈ m_as G i ls ↔ ∃ j v, ls[j]? = some (some v) ∧ q = (i + j, m_tv G v) := by
  intro ls
  induction ls with
  | nil => intro i q; simp [m_as]
  | cons a r ih =>
    intro i q
    cases a with
    | none =>
      rw [m_as, ih]
      constructor
      · rintro ⟨j, v, h1, rfl⟩
        exact ⟨j + 1, v, by simpa using h1, by rw [show i + 1 + j = i + (j + 1) by omega]⟩
      · rintro ⟨j, v, h1, rfl⟩
        cases j with
        | zero => simp at h1
        | succ j => exact ⟨j, v, by simpa using h1, by rw [show i + 1 + j = i + (j + 1) by omega]⟩
    | some w =>
      rw [m_as, List.mem_cons, ih]
      constructor
      · rintro (rfl | ⟨j, v, h1, rfl⟩)
        · exact ⟨0, w, by simp, rfl⟩
        · exact ⟨j + 1, v, by simpa using h1, by rw [show i + 1 + j = i + (j + 1) by omega]⟩
      · rintro ⟨j, v, h1, rfl⟩
        cases j with
        | zero => simp at h1; subst h1; exact Or.inl rfl
        | succ j => exact Or.inr ⟨j, v, by simpa using h1, by rw [show i + 1 + j = i + (j + 1) by omega]⟩
theorem m_L_has {G : m_GT} {lsA : Array Slot} {nL : Nat} {ls : ML} (h : m_L G lsA nL ls) : lv_has lsA nL (m_as G 0 ls) := by
  refine ⟨h.1, h.2.1, fun q hq => ?_⟩
  obtain ⟨j, v, h1, rfl⟩ := (m_as_mem ls 0 q).mp hq
  rw [Nat.zero_add]
  exact h.2.2.2 j v h1
theorem m_tv_cat (G : m_GT) (v : Value) (h : m_cat v = true ∨ v.category = 2 ∨ ∃ x, v = .int x) : (m_tv G v).category = v.category ∨ ∃ j, v = .retAddr j := by
  cases v <;> first | exact Or.inl rfl | exact Or.inr ⟨_, rfl⟩
theorem m_tv_cat1 (G : m_GT) {v : Value} (h : m_cat v = true) : (m_tv G v).category = 1 := by
  cases v <;> first | rfl | cases h
theorem m_tv_ne2 (G : m_GT) {v : Value} (h : v.category ≠ 2) : (m_tv G v).category ≠ 2 := by
  cases v <;> first | exact h | exact (by decide) | (intro q; cases q)
theorem m_kill_len : ∀ (ls : ML) (i : Nat), (m_kill ls i).length = ls.length := by
  intro ls i
  cases i with
  | zero => rfl
  | succ j =>
    simp only [m_kill]
    split
    · rename_i v hv
      cases Nat.beq v.category 2 <;> simp
    · rfl
theorem m_kill_at {ls : ML} {i j : Nat} {w : Value} (h : (m_kill ls i)[j]? = some (some w)) : ls[j]? = some (some w) ∧ (j + 1 = i → w.category ≠ 2) := by
  cases i with
  | zero => exact ⟨h, fun q => absurd q (by omega)⟩
  | succ i =>
    simp only [m_kill] at h
    split at h
    · rename_i v hv
      cases hb : Nat.beq v.category 2 with
      | true =>
        rw [hb] at h
        simp only [cond_true] at h
        by_cases hj : j = i
        · subst hj
          rw [List.getElem?_set_self (List.getElem?_eq_some_iff.mp hv).1] at h
          simp at h
        · rw [List.getElem?_set_ne (Ne.symm hj)] at h
          exact ⟨h, fun q => absurd q (by omega)⟩
      | false =>
        rw [hb] at h
        simp only [cond_false] at h
        refine ⟨h, fun q => ?_⟩
        have e : j = i := by omega
        subst e
        rw [hv] at h
        cases h
        intro hc
        rw [hc] at hb
        cases hb
    · rename_i hv
      refine ⟨h, fun q => ?_⟩
      have e : j = i := by omega
      subst e
      exact absurd h (hv w)
theorem m_sto_inv {ls ls' : ML} {i : Nat} {v : Value} (h : m_sto ls i v = some ls') : i < ls.length ∧ ls' = (m_kill ls i).set i (some v) := by
  unfold m_sto at h
  split at h
  · rename_i hi; cases h; exact ⟨hi, rfl⟩
  · cases h
theorem m_sto2_inv {ls ls' : ML} {i : Nat} {v : Value} (h : m_sto2 ls i v = some ls') : i + 1 < ls.length ∧ ls' = ((m_kill ls i).set i (some v)).set (i + 1) none := by
  unfold m_sto2 at h
  split at h
  · rename_i hi; cases h; exact ⟨hi, rfl⟩
  · cases h
theorem m_L_sto {G : m_GT} {lsA' : Array Slot} {nL i : Nat} {ls ls' : ML} {v : Value} (hn : ls.length = nL) (h : m_sto ls i v = some ls') (hh : lv_has lsA' nL ((i, m_tv G v) :: (m_as G 0 ls).filter (fun q => !(q.1 == i) && !(q.1 + 1 == i && q.2.category == 2)))) : m_L G lsA' nL ls' := by
  obtain ⟨hi, rfl⟩ := m_sto_inv h
  refine ⟨hh.1, hh.2.1, by simp [m_kill_len, hn], fun j w hj => ?_⟩
  by_cases hji : j = i
  · subst hji
    rw [List.getElem?_set_self (by rw [m_kill_len]; exact hi)] at hj
    cases hj
    exact hh.2.2 (j, m_tv G v) List.mem_cons_self
  · rw [List.getElem?_set_ne (Ne.symm hji)] at hj
    obtain ⟨h1, h2⟩ := m_kill_at hj
    refine hh.2.2 (j, m_tv G w) (List.mem_cons_of_mem _ (List.mem_filter.mpr ⟨(m_as_mem ls 0 _).mpr ⟨j, w, h1, by rw [Nat.zero_add]⟩, ?_⟩))
    by_cases hq : j + 1 = i
    · have h3 := m_tv_ne2 G (h2 hq)
      simp [hji, hq, h3]
    · simp [hji, hq]
theorem m_L_sto2 {G : m_GT} {lsA' : Array Slot} {nL i : Nat} {ls ls' : ML} {v : Value} (hn : ls.length = nL) (h : m_sto2 ls i v = some ls') (hh : lv_has lsA' nL ((i, m_tv G v) :: (m_as G 0 ls).filter (fun q => !(q.1 == i) && (!(q.1 == i + 1) && !(q.1 + 1 == i && q.2.category == 2))))) : m_L G lsA' nL ls' := by
  obtain ⟨hi, rfl⟩ := m_sto2_inv h
  refine ⟨hh.1, hh.2.1, by simp [m_kill_len, hn], fun j w hj => ?_⟩
  by_cases hj1 : j = i + 1
  · subst hj1
    rw [List.getElem?_set_self (by simp [m_kill_len]; exact hi)] at hj
    simp at hj
  · rw [List.getElem?_set_ne (Ne.symm hj1)] at hj
    by_cases hji : j = i
    · subst hji
      rw [List.getElem?_set_self (by rw [m_kill_len]; omega)] at hj
      cases hj
      exact hh.2.2 (j, m_tv G v) List.mem_cons_self
    · rw [List.getElem?_set_ne (Ne.symm hji)] at hj
      obtain ⟨h1, h2⟩ := m_kill_at hj
      refine hh.2.2 (j, m_tv G w) (List.mem_cons_of_mem _ (List.mem_filter.mpr ⟨(m_as_mem ls 0 _).mpr ⟨j, w, h1, by rw [Nat.zero_add]⟩, ?_⟩))
      by_cases hq : j + 1 = i
      · have h3 := m_tv_ne2 G (h2 hq)
        simp [hji, hj1, hq, h3]
      · simp [hji, hj1, hq]
theorem m_ld_inv {ls : ML} {i : Nat} {v : Value} (h : m_ld ls i = some v) : ls[i]? = some (some v) := by
  unfold m_ld at h
  split at h
  · rename_i w hw; cases h; exact hw
  · cases h
theorem m_ldi_inv {ls : ML} {i : Nat} {st : List Value} {q : ML × List Value} (h : m_ldi ls i st = some q) : ∃ x, ls[i]? = some (some (.int x)) ∧ q = (ls, .int x :: st) := by
  unfold m_ldi at h
  split at h
  · rename_i x hx; cases h; exact ⟨x, m_ld_inv hx, rfl⟩
  · cases h
theorem m_lda_inv {ls : ML} {i : Nat} {st : List Value} {q : ML × List Value} (h : m_lda ls i st = some q) : ∃ x, ls[i]? = some (some (.ref x)) ∧ q = (ls, .ref x :: st) := by
  unfold m_lda at h
  split at h
  · rename_i x hx; cases h; exact ⟨x, m_ld_inv hx, rfl⟩
  · cases h
theorem m_ldl_inv {ls : ML} {i : Nat} {st : List Value} {q : ML × List Value} (h : m_ldl ls i st = some q) : ∃ x, ls[i]? = some (some (.long x)) ∧ q = (ls, .long x :: st) := by
  unfold m_ldl at h
  split at h
  · rename_i x hx; cases h; exact ⟨x, m_ld_inv hx, rfl⟩
  · cases h
theorem m_sti_inv {ls : ML} {i : Nat} {st : List Value} {q : ML × List Value} (h : m_sti ls i st = some q) : ∃ x r l', st = .int x :: r ∧ m_sto ls i (.int x) = some l' ∧ q = (l', r) := by
  unfold m_sti at h
  split at h
  · rename_i x r
    split at h
    · rename_i l' hl; cases h; exact ⟨x, r, l', rfl, hl, rfl⟩
    · cases h
  · cases h
theorem m_sta_inv {ls : ML} {i : Nat} {st : List Value} {q : ML × List Value} (h : m_sta ls i st = some q) : ∃ x r l', st = .ref x :: r ∧ m_sto ls i (.ref x) = some l' ∧ q = (l', r) := by
  unfold m_sta at h
  split at h
  · rename_i x r
    split at h
    · rename_i l' hl; cases h; exact ⟨x, r, l', rfl, hl, rfl⟩
    · cases h
  · cases h
theorem m_stl_inv {ls : ML} {i : Nat} {st : List Value} {q : ML × List Value} (h : m_stl ls i st = some q) : ∃ x r l', st = .long x :: r ∧ m_sto2 ls i (.long x) = some l' ∧ q = (l', r) := by
  unfold m_stl at h
  split at h
  · rename_i x r
    split at h
    · rename_i l' hl; cases h; exact ⟨x, r, l', rfl, hl, rfl⟩
    · cases h
  · cases h
theorem m_inc_inv {ls : ML} {i : Nat} {c : Int32} {st : List Value} {q : ML × List Value} (h : m_inc ls i c st = some q) : ∃ x l', ls[i]? = some (some (.int x)) ∧ m_sto ls i (.int (x + c)) = some l' ∧ q = (l', st) := by
  unfold m_inc at h
  split at h
  · rename_i x hx
    split at h
    · rename_i l' hl; cases h; exact ⟨x, l', m_ld_inv hx, hl, rfl⟩
    · cases h
  · cases h
theorem m_bin_inv {f : Int32 → Int32 → Int32} {ls : ML} {st : List Value} {q : ML × List Value} (h : m_bin f ls st = some q) : ∃ x y r, st = .int y :: .int x :: r ∧ q = (ls, .int (f x y) :: r) := by
  unfold m_bin at h
  split at h
  · rename_i y x r; cases h; exact ⟨x, y, r, rfl, rfl⟩
  · cases h
theorem m_binL_inv {f : Int64 → Int64 → Int64} {ls : ML} {st : List Value} {q : ML × List Value} (h : m_binL f ls st = some q) : ∃ x y r, st = .long y :: .long x :: r ∧ q = (ls, .long (f x y) :: r) := by
  unfold m_binL at h
  split at h
  · rename_i y x r; cases h; exact ⟨x, y, r, rfl, rfl⟩
  · cases h
theorem m_dup_inv {ls : ML} {st : List Value} {q : ML × List Value} (h : m_dup ls st = some q) : ∃ v r, st = v :: r ∧ m_cat v = true ∧ q = (ls, v :: v :: r) := by
  unfold m_dup at h
  split at h
  · rename_i v r
    split at h
    · rename_i hv; cases h; exact ⟨v, r, rfl, hv, rfl⟩
    · cases h
  · cases h
theorem m_dup2_inv {ls : ML} {st : List Value} {q : ML × List Value} (h : m_dup2 ls st = some q) : ∃ v w r, st = v :: w :: r ∧ m_cat v = true ∧ m_cat w = true ∧ q = (ls, v :: w :: v :: w :: r) := by
  unfold m_dup2 at h
  split at h
  · rename_i v w r
    split at h
    · rename_i hv
      split at h
      · rename_i hw; cases h; exact ⟨v, w, r, rfl, hv, hw, rfl⟩
      · cases h
    · cases h
  · cases h
theorem m_pop_inv {ls : ML} {st : List Value} {q : ML × List Value} (h : m_pop ls st = some q) : ∃ v r, st = v :: r ∧ m_cat v = true ∧ q = (ls, r) := by
  unfold m_pop at h
  split at h
  · rename_i v r
    split at h
    · rename_i hv; cases h; exact ⟨v, r, rfl, hv, rfl⟩
    · cases h
  · cases h
theorem m_i2l_inv {ls : ML} {st : List Value} {q : ML × List Value} (h : m_i2l ls st = some q) : ∃ x r, st = .int x :: r ∧ q = (ls, .long x.toInt64 :: r) := by
  unfold m_i2l at h
  split at h
  · rename_i x r; cases h; exact ⟨x, r, rfl, rfl⟩
  · cases h
theorem m_l2i_inv {ls : ML} {st : List Value} {q : ML × List Value} (h : m_l2i ls st = some q) : ∃ x r, st = .long x :: r ∧ q = (ls, .int x.toInt32 :: r) := by
  unfold m_l2i at h
  split at h
  · rename_i x r; cases h; exact ⟨x, r, rfl, rfl⟩
  · cases h
theorem m_i2c_inv {ls : ML} {st : List Value} {q : ML × List Value} (h : m_i2c ls st = some q) : ∃ x r, st = .int x :: r ∧ q = (ls, .int (x.toUInt32 % 65536).toInt32 :: r) := by
  unfold m_i2c at h
  split at h
  · rename_i x r; cases h; exact ⟨x, r, rfl, rfl⟩
  · cases h
theorem m_one {P : List Nat → Bool} {Q : Nat → Prop} {a : List Nat} (h : P a = true) (h0 : P [] = false) (h2 : ∀ x y r, P (x :: y :: r) = false) (h1 : ∀ v, P [v] = true → Q v) : Q (m_a0 a) := by
  match a, h with
  | [], h => rw [h0] at h; cases h
  | [v], h => exact h1 v h
  | x :: y :: r, h => rw [h2] at h; cases h
section MPURE
variable {p : Program} {l : Launch} {e : Env} {R : Room} {s : State} {m : MethodId} {args : Array Value} {below : List Frame} {meth : Method} {c : Code} {H : Heap} {locs : List Loc} {cells slots : Nat} {Q : State → Prop}
theorem m_Wldcw {cc : ByteArray} {pc : Nat} {ls : Array Slot} {rest : List Value} (hexec : p.tables.exec = Jvm.exec) (hb : c.code = cc) {own tx : String} {index q : Nat} (hown : s.vm.findClass own = some m.cls) (hZ : vk_R own index tx q s) (hdg : decode cc pc = .ok (.ldc_w index, 3))
    (k : W p l e R s m args below meth c H locs cells slots Q (F0 m (pc + 3) ls (.ref q :: rest))) : W p l e R s m args below meth c H locs cells slots Q (F0 m pc ls rest) := by
  intro T hT X
  obtain ⟨t, a1, b1⟩ := k T hT X
  obtain ⟨kc, cf, i, a', hk, hcf, hcp, -, hr, hev'⟩ := Cond.stringRef_spec (args := #[]) (s := s) hown hZ.1
  have hev := hZ.2
  rw [hev'] at hev
  cases hev
  obtain ⟨k', hk', he⟩ := X.warmed.alike.2.2 _ _ hk
  have hr' : k'.resolved[index]? = some (some (.string q)) := by
    rcases X.warmed.entry hk hk' index with h | ⟨h, -⟩
    · rw [h]; exact hr
    · rw [hr] at h; cases h
  refine ⟨t, ?_, b1⟩
  have hdg' : decode c.code (F0 m pc ls rest).pc = .ok (.ldc_w index, 3) := by rw [hb]; exact hdg
  jvm_step X.here [hexec, hdg', ldc_w.wp_string (e := e) (s := T) (f := F0 m pc ls rest) X.here.top hk' (by rw [he]; exact hcf) hcp hr']
  exact a1
variable {G : m_GT} {y : Nat}
set_option maxHeartbeats 4000000 in
theorem m_snd_pure (F : m_Fr p G y R s m args meth c) {i : Instr} {a : List Nat} {c0 : Int32} {ls ls' : ML} {st st' : List Value} {pc len : Nat} {lsA : Array Slot} (hp : m_pure i a c0 ls st = some (ls', st')) (hd : decode (m_bytes y) pc = .ok (i, len)) (hl : len = m_lenOf i) (hI : m_okI y pc i a c0 = true) (hL : m_L G lsA (m_maxL y) ls)
    (kk : ∀ lsA' : Array Slot, m_L G lsA' (m_maxL y) ls' → W p l e R s m args below meth c H locs cells slots Q (F0 m (pc + len) lsA' (st'.map (m_tv G)))) : W p l e R s m args below meth c H locs cells slots Q (F0 m pc lsA (st.map (m_tv G))) := by
  obtain ⟨hx, hb, hml, hr, hlocks, hnm, hown, hts, hK, hbase, hfr, hlo⟩ := F
  subst hl
  unfold m_pure at hp
  split at hp
  · cases hp
    exact lv_iconst hx hb hd (of_decide_eq_true hI) (kk lsA hL)
  · cases hp
    exact lv_bipush hx hb hd (of_decide_eq_true hI) (kk lsA hL)
  · cases hp
    exact lv_sipush hx hb hd (of_decide_eq_true hI) (kk lsA hL)
  · rename_i n
    cases hp
    have h1 : (n : Nat) = m_a0 a := m_one (P := fun a => m_okI y pc _ a c0) hI rfl (fun _ _ _ => rfl) (fun v hv => of_decide_eq_true hv)
    exact lv_lconst hx hb hd (by rw [h1]) (kk lsA hL)
  · rename_i k
    cases hp
    have h1 : m_w (m_pLn (m_rc y) k) (.constantLong (m_own y) k (Int64.ofNat (m_a0 a))) = true := m_one (P := fun a => m_okI y pc _ a c0) hI rfl (fun _ _ _ => rfl) (fun v hv => hv)
    exact lv_ldc2 hx hb hown (hts _ (m_in (m_w_mem h1) rfl)) hd (kk lsA hL)
  · rename_i k
    cases hp
    have h1 : (y = 39 ∧ k = 64) ∧ m_a0 a = 1 := m_one (P := fun a => m_okI y pc _ a c0) hI rfl (fun _ _ _ => rfl) (fun v hv => by have hv : (Nat.beq y 39 && Nat.beq k 64 && Nat.beq v 1) = true := hv; simpa [Bool.and_eq_true] using hv)
    obtain ⟨⟨rfl, rfl⟩, h3⟩ := h1
    have h4 : m_tv G (.retAddr (m_a0 a)) = .ref (G.2.1 1) := by rw [h3]; rfl
    refine va_ldcS (own := RX3) (tx := m_txt 1) hx hb hown hK.2.2.2.2.1 hd ?_
    rw [← h4]
    exact kk lsA hL
  · rename_i k
    cases hp
    have h1 : (y = 87 ∧ k = 279) ∧ m_a0 a = 0 := m_one (P := fun a => m_okI y pc _ a c0) hI rfl (fun _ _ _ => rfl) (fun v hv => by have hv : (Nat.beq y 87 && Nat.beq k 279 && Nat.beq v 0) = true := hv; simpa [Bool.and_eq_true] using hv)
    obtain ⟨⟨rfl, rfl⟩, h3⟩ := h1
    have h4 : m_tv G (.retAddr (m_a0 a)) = .ref (G.2.1 0) := by rw [h3]; rfl
    refine m_Wldcw (own := RX7) (tx := m_txt 0) hx hb hown hK.2.2.2.1 hd ?_
    rw [← h4]
    exact kk lsA hL
  · rename_i n
    obtain ⟨x, h2, h3⟩ := m_ldi_inv hp
    cases h3
    have h1 : (n : Nat) = m_a0 a := m_one (P := fun a => m_okI y pc _ a c0) hI rfl (fun _ _ _ => rfl) (fun v hv => of_decide_eq_true hv)
    exact lv_iload_n hx hb hd h1 (hL.2.2.2 _ _ h2) (kk lsA hL)
  · rename_i n
    obtain ⟨x, h2, h3⟩ := m_ldi_inv hp
    cases h3
    have h1 : n = m_a0 a := m_one (P := fun a => m_okI y pc _ a c0) hI rfl (fun _ _ _ => rfl) (fun v hv => of_decide_eq_true hv)
    exact lv_iload hx hb hd (by rw [h1]; exact hL.2.2.2 _ _ h2) (kk lsA hL)
  · rename_i n
    obtain ⟨x, h2, h3⟩ := m_lda_inv hp
    cases h3
    have h1 : (n : Nat) = m_a0 a := m_one (P := fun a => m_okI y pc _ a c0) hI rfl (fun _ _ _ => rfl) (fun v hv => of_decide_eq_true hv)
    exact lv_aload_n hx hb hd h1 (hL.2.2.2 _ _ h2) (kk lsA hL)
  · rename_i n
    obtain ⟨x, h2, h3⟩ := m_lda_inv hp
    cases h3
    have h1 : n = m_a0 a := m_one (P := fun a => m_okI y pc _ a c0) hI rfl (fun _ _ _ => rfl) (fun v hv => of_decide_eq_true hv)
    exact lv_aload hx hb hd (by rw [h1]; exact hL.2.2.2 _ _ h2) (kk lsA hL)
  · rename_i n
    obtain ⟨x, h2, h3⟩ := m_ldl_inv hp
    cases h3
    have h1 : (n : Nat) = m_a0 a := m_one (P := fun a => m_okI y pc _ a c0) hI rfl (fun _ _ _ => rfl) (fun v hv => of_decide_eq_true hv)
    exact lv_lload_n hx hb hd h1 (hL.2.2.2 _ _ h2) (kk lsA hL)
  · rename_i n
    obtain ⟨x, h2, h3⟩ := m_ldl_inv hp
    cases h3
    have h1 : n = m_a0 a := m_one (P := fun a => m_okI y pc _ a c0) hI rfl (fun _ _ _ => rfl) (fun v hv => of_decide_eq_true hv)
    exact lv_lload hx hb hd (by rw [h1]; exact hL.2.2.2 _ _ h2) (kk lsA hL)
  · rename_i n
    obtain ⟨x, r, l', rfl, h3, h4⟩ := m_sti_inv hp
    cases h4
    have h1 : (n : Nat) = m_a0 a := m_one (P := fun a => m_okI y pc _ a c0) hI rfl (fun _ _ _ => rfl) (fun v hv => of_decide_eq_true hv)
    exact lv_istore_n (nL := m_maxL y) hx hb hd h1 (m_L_has hL) (by have := (m_sto_inv h3).1; have := hL.2.2.1; omega) rfl (fun lsA' hh => kk lsA' (m_L_sto hL.2.2.1 h3 hh))
  · rename_i n
    obtain ⟨x, r, l', rfl, h3, h4⟩ := m_sti_inv hp
    cases h4
    have h1 : n = m_a0 a := m_one (P := fun a => m_okI y pc _ a c0) hI rfl (fun _ _ _ => rfl) (fun v hv => of_decide_eq_true hv)
    subst h1
    exact lv_istore (nL := m_maxL y) hx hb hd (m_L_has hL) (by have := (m_sto_inv h3).1; have := hL.2.2.1; omega) rfl (fun lsA' hh => kk lsA' (m_L_sto hL.2.2.1 h3 hh))
  · rename_i n
    obtain ⟨x, r, l', rfl, h3, h4⟩ := m_sta_inv hp
    cases h4
    have h1 : (n : Nat) = m_a0 a := m_one (P := fun a => m_okI y pc _ a c0) hI rfl (fun _ _ _ => rfl) (fun v hv => of_decide_eq_true hv)
    exact lv_astore_n (nL := m_maxL y) hx hb hd h1 (m_L_has hL) (by have := (m_sto_inv h3).1; have := hL.2.2.1; omega) rfl (fun lsA' hh => kk lsA' (m_L_sto hL.2.2.1 h3 hh))
  · rename_i n
    obtain ⟨x, r, l', rfl, h3, h4⟩ := m_sta_inv hp
    cases h4
    have h1 : n = m_a0 a := m_one (P := fun a => m_okI y pc _ a c0) hI rfl (fun _ _ _ => rfl) (fun v hv => of_decide_eq_true hv)
    subst h1
    exact lv_astore (nL := m_maxL y) hx hb hd (m_L_has hL) (by have := (m_sto_inv h3).1; have := hL.2.2.1; omega) rfl (fun lsA' hh => kk lsA' (m_L_sto hL.2.2.1 h3 hh))
  · rename_i n
    obtain ⟨x, r, l', rfl, h3, h4⟩ := m_stl_inv hp
    cases h4
    have h1 : (n : Nat) = m_a0 a := m_one (P := fun a => m_okI y pc _ a c0) hI rfl (fun _ _ _ => rfl) (fun v hv => of_decide_eq_true hv)
    exact lv_lstore_n (nL := m_maxL y) hx hb hd h1 (m_L_has hL) (by have := (m_sto2_inv h3).1; have := hL.2.2.1; omega) rfl (fun lsA' hh => kk lsA' (m_L_sto2 hL.2.2.1 h3 hh))
  · rename_i n
    obtain ⟨x, r, l', rfl, h3, h4⟩ := m_stl_inv hp
    cases h4
    have h1 : n = m_a0 a := m_one (P := fun a => m_okI y pc _ a c0) hI rfl (fun _ _ _ => rfl) (fun v hv => of_decide_eq_true hv)
    subst h1
    exact lv_lstore (nL := m_maxL y) hx hb hd (m_L_has hL) (by have := (m_sto2_inv h3).1; have := hL.2.2.1; omega) rfl (fun lsA' hh => kk lsA' (m_L_sto2 hL.2.2.1 h3 hh))
  · rename_i n d
    obtain ⟨x, l', h2, h3, h4⟩ := m_inc_inv hp
    cases h4
    have h1 : n = m_a0 a ∧ Int32.ofInt d = c0 := m_one (P := fun a => m_okI y pc _ a c0) hI rfl (fun _ _ _ => rfl) (fun v hv => by have hv : (decide (n = v) && decide (Int32.ofInt d = c0)) = true := hv; simpa [Bool.and_eq_true] using hv)
    obtain ⟨rfl, h5⟩ := h1
    have hmem : (m_a0 a, m_tv G (.int x)) ∈ m_as G 0 ls := (m_as_mem ls 0 _).mpr ⟨m_a0 a, .int x, h2, by rw [Nat.zero_add]⟩
    obtain ⟨kq, hkq⟩ := List.getElem?_of_mem hmem
    exact lv_iinc (nL := m_maxL y) (k := kq) (v := x + c0) hx hb hd (m_L_has hL) hkq (by rw [h5]) (by have := (m_sto_inv h3).1; have := hL.2.2.1; omega) rfl (fun lsA' hh => kk lsA' (m_L_sto hL.2.2.1 h3 hh))
  · obtain ⟨x, z, r, rfl, h2⟩ := m_bin_inv hp
    cases h2
    exact lv_iadd hx hb hd (kk lsA hL)
  · obtain ⟨x, z, r, rfl, h2⟩ := m_bin_inv hp
    cases h2
    exact lv_isub hx hb hd (kk lsA hL)
  · obtain ⟨x, z, r, rfl, h2⟩ := m_bin_inv hp
    cases h2
    exact lv_imul hx hb hd (kk lsA hL)
  · obtain ⟨x, z, r, rfl, h2⟩ := m_bin_inv hp
    cases h2
    exact lv_iand hx hb hd (kk lsA hL)
  · obtain ⟨x, z, r, rfl, h2⟩ := m_bin_inv hp
    cases h2
    exact lv_ior hx hb hd (kk lsA hL)
  · obtain ⟨x, z, r, rfl, h2⟩ := m_bin_inv hp
    cases h2
    exact lv_ixor hx hb hd (kk lsA hL)
  · obtain ⟨x, z, r, rfl, h2⟩ := m_bin_inv hp
    cases h2
    exact lv_ishl hx hb hd (kk lsA hL)
  · obtain ⟨x, z, r, rfl, h2⟩ := m_bin_inv hp
    cases h2
    exact lv_ishr hx hb hd (kk lsA hL)
  · obtain ⟨x, z, r, rfl, h2⟩ := m_binL_inv hp
    cases h2
    exact lv_ladd hx hb hd (kk lsA hL)
  · obtain ⟨x, z, r, rfl, h2⟩ := m_binL_inv hp
    cases h2
    exact lv_lmul hx hb hd (kk lsA hL)
  · obtain ⟨v, r, rfl, hv, h2⟩ := m_dup_inv hp
    cases h2
    exact lv_dup hx hb hd (m_tv_cat1 G hv) (kk lsA hL)
  · obtain ⟨v, w, r, rfl, hv, hw, h2⟩ := m_dup2_inv hp
    cases h2
    exact lv_dup2_11 hx hb hd (m_tv_cat1 G hv) (m_tv_cat1 G hw) (kk lsA hL)
  · obtain ⟨v, r, rfl, hv, h2⟩ := m_pop_inv hp
    cases h2
    exact lv_pop hx hb hd (m_tv_cat1 G hv) (kk lsA hL)
  · obtain ⟨x, r, rfl, h2⟩ := m_i2l_inv hp
    cases h2
    exact lv_i2l hx hb hd rfl (kk lsA hL)
  · obtain ⟨x, r, rfl, h2⟩ := m_l2i_inv hp
    cases h2
    exact lv_l2i hx hb hd rfl (kk lsA hL)
  · obtain ⟨x, r, rfl, h2⟩ := m_i2c_inv hp
    cases h2
    exact lv_i2c hx hb hd rfl (kk lsA hL)
  · cases hp
end MPURE
end
section
/-! String.length, charAt, indexOf on the two constants, as the JDK's code: by contracts -/
theorem eJ0_length_8abf5_0 : decode cJ0_length_8abf5 0 = .ok (.aload_n 0, 1) := by decide +kernel
theorem eJ0_length_8abf5_1 : decode cJ0_length_8abf5 1 = .ok (.getfield 9, 3) := by decide +kernel
theorem eJ0_length_8abf5_4 : decode cJ0_length_8abf5 4 = .ok (.arraylength, 1) := by decide +kernel
theorem eJ0_length_8abf5_5 : decode cJ0_length_8abf5 5 = .ok (.aload_n 0, 1) := by decide +kernel
theorem eJ0_length_8abf5_6 : decode cJ0_length_8abf5 6 = .ok (.invokevirtual 335, 3) := by decide +kernel
theorem eJ0_length_8abf5_9 : decode cJ0_length_8abf5 9 = .ok (.ishr, 1) := by decide +kernel
theorem eJ0_length_8abf5_10 : decode cJ0_length_8abf5 10 = .ok (.ireturn, 1) := by decide +kernel
theorem eJ0_coder_7d493_0 : decode cJ0_coder_7d493 0 = .ok (.getstatic 38, 3) := by decide +kernel
theorem eJ0_coder_7d493_3 : decode cJ0_coder_7d493 3 = .ok (.ifCond .eq 10, 3) := by decide +kernel
theorem eJ0_coder_7d493_6 : decode cJ0_coder_7d493 6 = .ok (.aload_n 0, 1) := by decide +kernel
theorem eJ0_coder_7d493_7 : decode cJ0_coder_7d493 7 = .ok (.getfield 15, 3) := by decide +kernel
theorem eJ0_coder_7d493_10 : decode cJ0_coder_7d493 10 = .ok (.goto 4, 3) := by decide +kernel
theorem eJ0_coder_7d493_13 : decode cJ0_coder_7d493 13 = .ok (.iconst 1, 1) := by decide +kernel
theorem eJ0_coder_7d493_14 : decode cJ0_coder_7d493 14 = .ok (.ireturn, 1) := by decide +kernel
theorem eJ0_charAt_5068e_0 : decode cJ0_charAt_5068e 0 = .ok (.aload_n 0, 1) := by decide +kernel
theorem eJ0_charAt_5068e_1 : decode cJ0_charAt_5068e 1 = .ok (.invokevirtual 492, 3) := by decide +kernel
theorem eJ0_charAt_5068e_4 : decode cJ0_charAt_5068e 4 = .ok (.ifCond .eq 12, 3) := by decide +kernel
theorem eJ0_charAt_5068e_7 : decode cJ0_charAt_5068e 7 = .ok (.aload_n 0, 1) := by decide +kernel
theorem eJ0_charAt_5068e_8 : decode cJ0_charAt_5068e 8 = .ok (.getfield 9, 3) := by decide +kernel
theorem eJ0_charAt_5068e_11 : decode cJ0_charAt_5068e 11 = .ok (.iload_n 1, 1) := by decide +kernel
theorem eJ0_charAt_5068e_12 : decode cJ0_charAt_5068e 12 = .ok (.invokestatic 495, 3) := by decide +kernel
theorem eJ0_charAt_5068e_15 : decode cJ0_charAt_5068e 15 = .ok (.ireturn, 1) := by decide +kernel
theorem eJ0_charAt_5068e_16 : decode cJ0_charAt_5068e 16 = .ok (.aload_n 0, 1) := by decide +kernel
theorem eJ0_charAt_5068e_17 : decode cJ0_charAt_5068e 17 = .ok (.getfield 9, 3) := by decide +kernel
theorem eJ0_charAt_5068e_20 : decode cJ0_charAt_5068e 20 = .ok (.iload_n 1, 1) := by decide +kernel
theorem eJ0_charAt_5068e_21 : decode cJ0_charAt_5068e 21 = .ok (.invokestatic 498, 3) := by decide +kernel
theorem eJ0_charAt_5068e_24 : decode cJ0_charAt_5068e 24 = .ok (.ireturn, 1) := by decide +kernel
theorem eJ0_isLatin1_aae02_0 : decode cJ0_isLatin1_aae02 0 = .ok (.getstatic 38, 3) := by decide +kernel
theorem eJ0_isLatin1_aae02_3 : decode cJ0_isLatin1_aae02 3 = .ok (.ifCond .eq 14, 3) := by decide +kernel
theorem eJ0_isLatin1_aae02_6 : decode cJ0_isLatin1_aae02 6 = .ok (.aload_n 0, 1) := by decide +kernel
theorem eJ0_isLatin1_aae02_7 : decode cJ0_isLatin1_aae02 7 = .ok (.getfield 15, 3) := by decide +kernel
theorem eJ0_isLatin1_aae02_10 : decode cJ0_isLatin1_aae02 10 = .ok (.ifCond .ne 7, 3) := by decide +kernel
theorem eJ0_isLatin1_aae02_13 : decode cJ0_isLatin1_aae02 13 = .ok (.iconst 1, 1) := by decide +kernel
theorem eJ0_isLatin1_aae02_14 : decode cJ0_isLatin1_aae02 14 = .ok (.goto 4, 3) := by decide +kernel
theorem eJ0_isLatin1_aae02_17 : decode cJ0_isLatin1_aae02 17 = .ok (.iconst 0, 1) := by decide +kernel
theorem eJ0_isLatin1_aae02_18 : decode cJ0_isLatin1_aae02 18 = .ok (.ireturn, 1) := by decide +kernel
theorem eJ1_charAt_3b067_0 : decode cJ1_charAt_3b067 0 = .ok (.iload_n 1, 1) := by decide +kernel
theorem eJ1_charAt_3b067_1 : decode cJ1_charAt_3b067 1 = .ok (.aload_n 0, 1) := by decide +kernel
theorem eJ1_charAt_3b067_2 : decode cJ1_charAt_3b067 2 = .ok (.arraylength, 1) := by decide +kernel
theorem eJ1_charAt_3b067_3 : decode cJ1_charAt_3b067 3 = .ok (.invokestatic 9, 3) := by decide +kernel
theorem eJ1_charAt_3b067_6 : decode cJ1_charAt_3b067 6 = .ok (.aload_n 0, 1) := by decide +kernel
theorem eJ1_charAt_3b067_7 : decode cJ1_charAt_3b067 7 = .ok (.iload_n 1, 1) := by decide +kernel
theorem eJ1_charAt_3b067_8 : decode cJ1_charAt_3b067 8 = .ok (.baload, 1) := by decide +kernel
theorem eJ1_charAt_3b067_9 : decode cJ1_charAt_3b067 9 = .ok (.sipush 255, 3) := by decide +kernel
theorem eJ1_charAt_3b067_12 : decode cJ1_charAt_3b067 12 = .ok (.iand, 1) := by decide +kernel
theorem eJ1_charAt_3b067_13 : decode cJ1_charAt_3b067 13 = .ok (.i2c, 1) := by decide +kernel
theorem eJ1_charAt_3b067_14 : decode cJ1_charAt_3b067 14 = .ok (.ireturn, 1) := by decide +kernel
theorem eJ0_checkIndex_df160_0 : decode cJ0_checkIndex_df160 0 = .ok (.iload_n 0, 1) := by decide +kernel
theorem eJ0_checkIndex_df160_1 : decode cJ0_checkIndex_df160 1 = .ok (.iload_n 1, 1) := by decide +kernel
theorem eJ0_checkIndex_df160_2 : decode cJ0_checkIndex_df160 2 = .ok (.getstatic 1053, 3) := by decide +kernel
theorem eJ0_checkIndex_df160_5 : decode cJ0_checkIndex_df160 5 = .ok (.invokestatic 1059, 3) := by decide +kernel
theorem eJ0_checkIndex_df160_8 : decode cJ0_checkIndex_df160 8 = .ok (.pop, 1) := by decide +kernel
theorem eJ0_checkIndex_df160_9 : decode cJ0_checkIndex_df160 9 = .ok (.return_, 1) := by decide +kernel
theorem eJ3_checkIndex_8e157_0 : decode cJ3_checkIndex_8e157 0 = .ok (.iload_n 0, 1) := by decide +kernel
theorem eJ3_checkIndex_8e157_1 : decode cJ3_checkIndex_8e157 1 = .ok (.ifCond .lt 8, 3) := by decide +kernel
theorem eJ3_checkIndex_8e157_4 : decode cJ3_checkIndex_8e157 4 = .ok (.iload_n 0, 1) := by decide +kernel
theorem eJ3_checkIndex_8e157_5 : decode cJ3_checkIndex_8e157 5 = .ok (.iload_n 1, 1) := by decide +kernel
theorem eJ3_checkIndex_8e157_6 : decode cJ3_checkIndex_8e157 6 = .ok (.if_icmp .lt 10, 3) := by decide +kernel
theorem eJ3_checkIndex_8e157_9 : decode cJ3_checkIndex_8e157 9 = .ok (.aload_n 2, 1) := by decide +kernel
theorem eJ3_checkIndex_8e157_10 : decode cJ3_checkIndex_8e157 10 = .ok (.iload_n 0, 1) := by decide +kernel
theorem eJ3_checkIndex_8e157_11 : decode cJ3_checkIndex_8e157 11 = .ok (.iload_n 1, 1) := by decide +kernel
theorem eJ3_checkIndex_8e157_12 : decode cJ3_checkIndex_8e157 12 = .ok (.invokestatic 95, 3) := by decide +kernel
theorem eJ3_checkIndex_8e157_15 : decode cJ3_checkIndex_8e157 15 = .ok (.athrow, 1) := by decide +kernel
theorem eJ3_checkIndex_8e157_16 : decode cJ3_checkIndex_8e157 16 = .ok (.iload_n 0, 1) := by decide +kernel
theorem eJ3_checkIndex_8e157_17 : decode cJ3_checkIndex_8e157 17 = .ok (.ireturn, 1) := by decide +kernel
theorem eJ0_indexOf_0f7a4_0 : decode cJ0_indexOf_0f7a4 0 = .ok (.aload_n 0, 1) := by decide +kernel
theorem eJ0_indexOf_0f7a4_1 : decode cJ0_indexOf_0f7a4 1 = .ok (.iload_n 1, 1) := by decide +kernel
theorem eJ0_indexOf_0f7a4_2 : decode cJ0_indexOf_0f7a4 2 = .ok (.iconst 0, 1) := by decide +kernel
theorem eJ0_indexOf_0f7a4_3 : decode cJ0_indexOf_0f7a4 3 = .ok (.invokevirtual 633, 3) := by decide +kernel
theorem eJ0_indexOf_0f7a4_6 : decode cJ0_indexOf_0f7a4 6 = .ok (.ireturn, 1) := by decide +kernel
theorem eJ0_indexOf_7cf53_0 : decode cJ0_indexOf_7cf53 0 = .ok (.aload_n 0, 1) := by decide +kernel
theorem eJ0_indexOf_7cf53_1 : decode cJ0_indexOf_7cf53 1 = .ok (.invokevirtual 492, 3) := by decide +kernel
theorem eJ0_indexOf_7cf53_4 : decode cJ0_indexOf_7cf53 4 = .ok (.ifCond .eq 19, 3) := by decide +kernel
theorem eJ0_indexOf_7cf53_7 : decode cJ0_indexOf_7cf53 7 = .ok (.aload_n 0, 1) := by decide +kernel
theorem eJ0_indexOf_7cf53_8 : decode cJ0_indexOf_7cf53 8 = .ok (.getfield 9, 3) := by decide +kernel
theorem eJ0_indexOf_7cf53_11 : decode cJ0_indexOf_7cf53 11 = .ok (.iload_n 1, 1) := by decide +kernel
theorem eJ0_indexOf_7cf53_12 : decode cJ0_indexOf_7cf53 12 = .ok (.iload_n 2, 1) := by decide +kernel
theorem eJ0_indexOf_7cf53_13 : decode cJ0_indexOf_7cf53 13 = .ok (.aload_n 0, 1) := by decide +kernel
theorem eJ0_indexOf_7cf53_14 : decode cJ0_indexOf_7cf53 14 = .ok (.invokevirtual 505, 3) := by decide +kernel
theorem eJ0_indexOf_7cf53_17 : decode cJ0_indexOf_7cf53 17 = .ok (.invokestatic 637, 3) := by decide +kernel
theorem eJ0_indexOf_7cf53_20 : decode cJ0_indexOf_7cf53 20 = .ok (.goto 16, 3) := by decide +kernel
theorem eJ0_indexOf_7cf53_23 : decode cJ0_indexOf_7cf53 23 = .ok (.aload_n 0, 1) := by decide +kernel
theorem eJ0_indexOf_7cf53_24 : decode cJ0_indexOf_7cf53 24 = .ok (.getfield 9, 3) := by decide +kernel
theorem eJ0_indexOf_7cf53_27 : decode cJ0_indexOf_7cf53 27 = .ok (.iload_n 1, 1) := by decide +kernel
theorem eJ0_indexOf_7cf53_28 : decode cJ0_indexOf_7cf53 28 = .ok (.iload_n 2, 1) := by decide +kernel
theorem eJ0_indexOf_7cf53_29 : decode cJ0_indexOf_7cf53 29 = .ok (.aload_n 0, 1) := by decide +kernel
theorem eJ0_indexOf_7cf53_30 : decode cJ0_indexOf_7cf53 30 = .ok (.invokevirtual 505, 3) := by decide +kernel
theorem eJ0_indexOf_7cf53_33 : decode cJ0_indexOf_7cf53 33 = .ok (.invokestatic 640, 3) := by decide +kernel
theorem eJ0_indexOf_7cf53_36 : decode cJ0_indexOf_7cf53 36 = .ok (.ireturn, 1) := by decide +kernel
theorem eJ1_indexOf_4cfef_0 : decode cJ1_indexOf_4cfef 0 = .ok (.iload_n 1, 1) := by decide +kernel
theorem eJ1_indexOf_4cfef_1 : decode cJ1_indexOf_4cfef 1 = .ok (.invokestatic 88, 3) := by decide +kernel
theorem eJ1_indexOf_4cfef_4 : decode cJ1_indexOf_4cfef 4 = .ok (.ifCond .ne 5, 3) := by decide +kernel
theorem eJ1_indexOf_4cfef_7 : decode cJ1_indexOf_4cfef 7 = .ok (.iconst (-1), 1) := by decide +kernel
theorem eJ1_indexOf_4cfef_8 : decode cJ1_indexOf_4cfef 8 = .ok (.ireturn, 1) := by decide +kernel
theorem eJ1_indexOf_4cfef_9 : decode cJ1_indexOf_4cfef 9 = .ok (.iload_n 2, 1) := by decide +kernel
theorem eJ1_indexOf_4cfef_10 : decode cJ1_indexOf_4cfef 10 = .ok (.iconst 0, 1) := by decide +kernel
theorem eJ1_indexOf_4cfef_11 : decode cJ1_indexOf_4cfef 11 = .ok (.invokestatic 92, 3) := by decide +kernel
theorem eJ1_indexOf_4cfef_14 : decode cJ1_indexOf_4cfef 14 = .ok (.istore_n 2, 1) := by decide +kernel
theorem eJ1_indexOf_4cfef_15 : decode cJ1_indexOf_4cfef 15 = .ok (.iload_n 3, 1) := by decide +kernel
theorem eJ1_indexOf_4cfef_16 : decode cJ1_indexOf_4cfef 16 = .ok (.aload_n 0, 1) := by decide +kernel
theorem eJ1_indexOf_4cfef_17 : decode cJ1_indexOf_4cfef 17 = .ok (.arraylength, 1) := by decide +kernel
theorem eJ1_indexOf_4cfef_18 : decode cJ1_indexOf_4cfef 18 = .ok (.invokestatic 38, 3) := by decide +kernel
theorem eJ1_indexOf_4cfef_21 : decode cJ1_indexOf_4cfef 21 = .ok (.istore_n 3, 1) := by decide +kernel
theorem eJ1_indexOf_4cfef_22 : decode cJ1_indexOf_4cfef 22 = .ok (.iload_n 2, 1) := by decide +kernel
theorem eJ1_indexOf_4cfef_23 : decode cJ1_indexOf_4cfef 23 = .ok (.iload_n 3, 1) := by decide +kernel
theorem eJ1_indexOf_4cfef_24 : decode cJ1_indexOf_4cfef 24 = .ok (.if_icmp .lt 5, 3) := by decide +kernel
theorem eJ1_indexOf_4cfef_27 : decode cJ1_indexOf_4cfef 27 = .ok (.iconst (-1), 1) := by decide +kernel
theorem eJ1_indexOf_4cfef_28 : decode cJ1_indexOf_4cfef 28 = .ok (.ireturn, 1) := by decide +kernel
theorem eJ1_indexOf_4cfef_29 : decode cJ1_indexOf_4cfef 29 = .ok (.aload_n 0, 1) := by decide +kernel
theorem eJ1_indexOf_4cfef_30 : decode cJ1_indexOf_4cfef 30 = .ok (.iload_n 1, 1) := by decide +kernel
theorem eJ1_indexOf_4cfef_31 : decode cJ1_indexOf_4cfef 31 = .ok (.iload_n 2, 1) := by decide +kernel
theorem eJ1_indexOf_4cfef_32 : decode cJ1_indexOf_4cfef 32 = .ok (.iload_n 3, 1) := by decide +kernel
theorem eJ1_indexOf_4cfef_33 : decode cJ1_indexOf_4cfef 33 = .ok (.invokestatic 95, 3) := by decide +kernel
theorem eJ1_indexOf_4cfef_36 : decode cJ1_indexOf_4cfef 36 = .ok (.ireturn, 1) := by decide +kernel
theorem eJ1_canEncode_9a6ad_0 : decode cJ1_canEncode_9a6ad 0 = .ok (.iload_n 0, 1) := by decide +kernel
theorem eJ1_canEncode_9a6ad_1 : decode cJ1_canEncode_9a6ad 1 = .ok (.ifCond .lt 14, 3) := by decide +kernel
theorem eJ1_canEncode_9a6ad_4 : decode cJ1_canEncode_9a6ad 4 = .ok (.iload_n 0, 1) := by decide +kernel
theorem eJ1_canEncode_9a6ad_5 : decode cJ1_canEncode_9a6ad 5 = .ok (.sipush 255, 3) := by decide +kernel
theorem eJ1_canEncode_9a6ad_8 : decode cJ1_canEncode_9a6ad 8 = .ok (.if_icmp .gt 7, 3) := by decide +kernel
theorem eJ1_canEncode_9a6ad_11 : decode cJ1_canEncode_9a6ad 11 = .ok (.iconst 1, 1) := by decide +kernel
theorem eJ1_canEncode_9a6ad_12 : decode cJ1_canEncode_9a6ad 12 = .ok (.goto 4, 3) := by decide +kernel
theorem eJ1_canEncode_9a6ad_15 : decode cJ1_canEncode_9a6ad 15 = .ok (.iconst 0, 1) := by decide +kernel
theorem eJ1_canEncode_9a6ad_16 : decode cJ1_canEncode_9a6ad 16 = .ok (.ireturn, 1) := by decide +kernel
theorem eJ1_indexOfChar_4cfef_0 : decode cJ1_indexOfChar_4cfef 0 = .ok (.iload_n 1, 1) := by decide +kernel
theorem eJ1_indexOfChar_4cfef_1 : decode cJ1_indexOfChar_4cfef 1 = .ok (.i2b, 1) := by decide +kernel
theorem eJ1_indexOfChar_4cfef_2 : decode cJ1_indexOfChar_4cfef 2 = .ok (.istore 4, 2) := by decide +kernel
theorem eJ1_indexOfChar_4cfef_4 : decode cJ1_indexOfChar_4cfef 4 = .ok (.iload_n 2, 1) := by decide +kernel
theorem eJ1_indexOfChar_4cfef_5 : decode cJ1_indexOfChar_4cfef 5 = .ok (.istore 5, 2) := by decide +kernel
theorem eJ1_indexOfChar_4cfef_7 : decode cJ1_indexOfChar_4cfef 7 = .ok (.iload 5, 2) := by decide +kernel
theorem eJ1_indexOfChar_4cfef_9 : decode cJ1_indexOfChar_4cfef 9 = .ok (.iload_n 3, 1) := by decide +kernel
theorem eJ1_indexOfChar_4cfef_10 : decode cJ1_indexOfChar_4cfef 10 = .ok (.if_icmp .ge 21, 3) := by decide +kernel
theorem eJ1_indexOfChar_4cfef_13 : decode cJ1_indexOfChar_4cfef 13 = .ok (.aload_n 0, 1) := by decide +kernel
theorem eJ1_indexOfChar_4cfef_14 : decode cJ1_indexOfChar_4cfef 14 = .ok (.iload 5, 2) := by decide +kernel
theorem eJ1_indexOfChar_4cfef_16 : decode cJ1_indexOfChar_4cfef 16 = .ok (.baload, 1) := by decide +kernel
theorem eJ1_indexOfChar_4cfef_17 : decode cJ1_indexOfChar_4cfef 17 = .ok (.iload 4, 2) := by decide +kernel
theorem eJ1_indexOfChar_4cfef_19 : decode cJ1_indexOfChar_4cfef 19 = .ok (.if_icmp .ne 6, 3) := by decide +kernel
theorem eJ1_indexOfChar_4cfef_22 : decode cJ1_indexOfChar_4cfef 22 = .ok (.iload 5, 2) := by decide +kernel
theorem eJ1_indexOfChar_4cfef_24 : decode cJ1_indexOfChar_4cfef 24 = .ok (.ireturn, 1) := by decide +kernel
theorem eJ1_indexOfChar_4cfef_25 : decode cJ1_indexOfChar_4cfef 25 = .ok (.iinc 5 1, 3) := by decide +kernel
theorem eJ1_indexOfChar_4cfef_28 : decode cJ1_indexOfChar_4cfef 28 = .ok (.goto (-21), 3) := by decide +kernel
theorem eJ1_indexOfChar_4cfef_31 : decode cJ1_indexOfChar_4cfef 31 = .ok (.iconst (-1), 1) := by decide +kernel
theorem eJ1_indexOfChar_4cfef_32 : decode cJ1_indexOfChar_4cfef 32 = .ok (.ireturn, 1) := by decide +kernel
set_option maxRecDepth 100000 in
theorem jc_J0_length_8abf5 : lw_tbl[81]? = some (.code yJ0_length_8abf5 cJ0_length_8abf5 1 (some .int)) := rfl
set_option maxRecDepth 100000 in
theorem jc_J0_coder_7d493 : lw_tbl[85]? = some (.code yJ0_coder_7d493 cJ0_coder_7d493 1 (some .byte)) := rfl
set_option maxRecDepth 100000 in
theorem jc_J0_charAt_5068e : lw_tbl[91]? = some (.code yJ0_charAt_5068e cJ0_charAt_5068e 2 (some .char)) := rfl
set_option maxRecDepth 100000 in
theorem jc_J0_isLatin1_aae02 : lw_tbl[95]? = some (.code yJ0_isLatin1_aae02 cJ0_isLatin1_aae02 1 (some .boolean)) := rfl
set_option maxRecDepth 100000 in
theorem jc_J1_charAt_3b067 : lw_tbl[98]? = some (.code yJ1_charAt_3b067 cJ1_charAt_3b067 2 (some .char)) := rfl
set_option maxRecDepth 100000 in
theorem jc_J0_checkIndex_df160 : lw_tbl[101]? = some (.code yJ0_checkIndex_df160 cJ0_checkIndex_df160 2 none) := rfl
set_option maxRecDepth 100000 in
theorem jc_J3_checkIndex_8e157 : lw_tbl[106]? = some (.code yJ3_checkIndex_8e157 cJ3_checkIndex_8e157 3 (some .int)) := rfl
set_option maxRecDepth 100000 in
theorem jc_J0_indexOf_0f7a4 : lw_tbl[251]? = some (.code yJ0_indexOf_0f7a4 cJ0_indexOf_0f7a4 2 (some .int)) := rfl
set_option maxRecDepth 100000 in
theorem jc_J0_indexOf_7cf53 : lw_tbl[255]? = some (.code yJ0_indexOf_7cf53 cJ0_indexOf_7cf53 3 (some .int)) := rfl
set_option maxRecDepth 100000 in
theorem jc_J1_indexOf_4cfef : lw_tbl[259]? = some (.code yJ1_indexOf_4cfef cJ1_indexOf_4cfef 4 (some .int)) := rfl
set_option maxRecDepth 100000 in
theorem jc_J1_canEncode_9a6ad : lw_tbl[262]? = some (.code yJ1_canEncode_9a6ad cJ1_canEncode_9a6ad 1 (some .boolean)) := rfl
set_option maxRecDepth 100000 in
theorem jc_J1_indexOfChar_4cfef : lw_tbl[271]? = some (.code yJ1_indexOfChar_4cfef cJ1_indexOfChar_4cfef 6 (some .int)) := rfl
def m_wj (y : MethodName) (b : ByteArray) (n : Nat) (r : Option FieldType) : List Cond := .code y b n r :: m_tbl
theorem m_good_wj {y : MethodName} {b : ByteArray} {n : Nat} {r : Option FieldType} {i : Nat} (h : lw_tbl[i]? = some (.code y b n r)) : GoodIn m_tbl (m_wj y b n r) := fun w hw => (List.mem_cons.mp hw).elim (fun e => e ▸ ⟨m_in (List.mem_of_getElem? h) rfl, Or.inl rfl⟩) (fun h => m_tblIn w h)
def m_rj (f n : Nat) : Room := { frames := f, cells := 0, slots := 0, locals := n }
theorem jw1 : Cond.fieldLink RJ0 9 "java/lang/String" "value" "[B" ∈ m_tbl := m_in (List.mem_of_getElem? (i := 1139) (by decide +kernel)) rfl
theorem jw2 : Cond.fieldLink RJ0 15 "java/lang/String" "coder" "B" ∈ m_tbl := m_in (List.mem_of_getElem? (i := 1140) (by decide +kernel)) rfl
theorem jw3 : Cond.fieldLink RJ0 38 "java/lang/String" "COMPACT_STRINGS" "Z" ∈ m_tbl := m_in (List.mem_of_getElem? (i := 86) (by decide +kernel)) rfl
theorem jw4 : Cond.fieldLink RJ0 1053 "jdk/internal/util/Preconditions" "SIOOBE_FORMATTER" "Ljava/util/function/BiFunction;" ∈ m_tbl := m_in (List.mem_of_getElem? (i := 102) (by decide +kernel)) rfl
theorem jw5 : Cond.methodLink RJ0 335 yJ0_coder_7d493 ∈ m_tbl := m_in (List.mem_of_getElem? (i := 82) (by decide +kernel)) rfl
theorem jw6 : Cond.instanceMethod yJ0_coder_7d493 ∈ m_tbl := m_in (List.mem_of_getElem? (i := 83) (by decide +kernel)) rfl
theorem jw7 : Cond.selects RJ0 yJ0_coder_7d493 yJ0_coder_7d493 ∈ m_tbl := m_in (List.mem_of_getElem? (i := 84) (by decide +kernel)) rfl
theorem jw8 : Cond.initialized RJ0 ∈ m_tbl := m_in (List.mem_of_getElem? (i := 37) (by decide +kernel)) rfl
theorem jg_J0_coder_7d493 : GoodIn m_tbl (wsV RJ0 335 RJ0 yJ0_coder_7d493 (m_wj yJ0_coder_7d493 cJ0_coder_7d493 1 (some .byte))) := fun w hw => by
  unfold wsV at hw
  rcases List.mem_append.mp hw with hw | hw
  · simp only [List.mem_cons, List.not_mem_nil, or_false] at hw
    rcases hw with rfl | rfl | rfl | rfl
    · exact ⟨jw5, Or.inl rfl⟩
    · exact ⟨jw6, Or.inl rfl⟩
    · exact ⟨jw7, Or.inl rfl⟩
    · exact ⟨jw8, Or.inl rfl⟩
  · exact m_good_wj jc_J0_coder_7d493 w hw
theorem jw9 : Cond.methodLink RJ0 492 yJ0_isLatin1_aae02 ∈ m_tbl := m_in (List.mem_of_getElem? (i := 92) (by decide +kernel)) rfl
theorem jw10 : Cond.instanceMethod yJ0_isLatin1_aae02 ∈ m_tbl := m_in (List.mem_of_getElem? (i := 93) (by decide +kernel)) rfl
theorem jw11 : Cond.selects RJ0 yJ0_isLatin1_aae02 yJ0_isLatin1_aae02 ∈ m_tbl := m_in (List.mem_of_getElem? (i := 94) (by decide +kernel)) rfl
theorem jg_J0_isLatin1_aae02 : GoodIn m_tbl (wsV RJ0 492 RJ0 yJ0_isLatin1_aae02 (m_wj yJ0_isLatin1_aae02 cJ0_isLatin1_aae02 1 (some .boolean))) := fun w hw => by
  unfold wsV at hw
  rcases List.mem_append.mp hw with hw | hw
  · simp only [List.mem_cons, List.not_mem_nil, or_false] at hw
    rcases hw with rfl | rfl | rfl | rfl
    · exact ⟨jw9, Or.inl rfl⟩
    · exact ⟨jw10, Or.inl rfl⟩
    · exact ⟨jw11, Or.inl rfl⟩
    · exact ⟨jw8, Or.inl rfl⟩
  · exact m_good_wj jc_J0_isLatin1_aae02 w hw
theorem jw12 : Cond.methodLink RJ0 495 yJ1_charAt_3b067 ∈ m_tbl := m_in (List.mem_of_getElem? (i := 96) (by decide +kernel)) rfl
theorem jw13 : Cond.initialized RJ1 ∈ m_tbl := m_in (List.mem_of_getElem? (i := 38) (by decide +kernel)) rfl
theorem jw14 : Cond.static yJ1_charAt_3b067 ∈ m_tbl := m_in (List.mem_of_getElem? (i := 97) (by decide +kernel)) rfl
theorem jg_J1_charAt_3b067 : GoodIn m_tbl (va_wsS RJ0 495 yJ1_charAt_3b067 (m_wj yJ1_charAt_3b067 cJ1_charAt_3b067 2 (some .char))) := fun w hw => by
  unfold va_wsS at hw
  rcases List.mem_append.mp hw with hw | hw
  · simp only [List.mem_cons, List.not_mem_nil, or_false] at hw
    rcases hw with rfl | rfl | rfl
    · exact ⟨jw12, Or.inl rfl⟩
    · exact ⟨jw14, Or.inl rfl⟩
    · exact ⟨jw13, Or.inl rfl⟩
  · exact m_good_wj jc_J1_charAt_3b067 w hw
theorem jw15 : Cond.methodLink RJ1 9 yJ0_checkIndex_df160 ∈ m_tbl := m_in (List.mem_of_getElem? (i := 99) (by decide +kernel)) rfl
theorem jw16 : Cond.static yJ0_checkIndex_df160 ∈ m_tbl := m_in (List.mem_of_getElem? (i := 100) (by decide +kernel)) rfl
theorem jg_J0_checkIndex_df160 : GoodIn m_tbl (va_wsS RJ1 9 yJ0_checkIndex_df160 (m_wj yJ0_checkIndex_df160 cJ0_checkIndex_df160 2 none)) := fun w hw => by
  unfold va_wsS at hw
  rcases List.mem_append.mp hw with hw | hw
  · simp only [List.mem_cons, List.not_mem_nil, or_false] at hw
    rcases hw with rfl | rfl | rfl
    · exact ⟨jw15, Or.inl rfl⟩
    · exact ⟨jw16, Or.inl rfl⟩
    · exact ⟨jw8, Or.inl rfl⟩
  · exact m_good_wj jc_J0_checkIndex_df160 w hw
theorem jw17 : Cond.methodLink RJ0 1059 yJ3_checkIndex_8e157 ∈ m_tbl := m_in (List.mem_of_getElem? (i := 104) (by decide +kernel)) rfl
theorem jw18 : Cond.initialized RJ3 ∈ m_tbl := m_in (List.mem_of_getElem? (i := 39) (by decide +kernel)) rfl
theorem jw19 : Cond.static yJ3_checkIndex_8e157 ∈ m_tbl := m_in (List.mem_of_getElem? (i := 105) (by decide +kernel)) rfl
theorem jg_J3_checkIndex_8e157 : GoodIn m_tbl (va_wsS RJ0 1059 yJ3_checkIndex_8e157 (m_wj yJ3_checkIndex_8e157 cJ3_checkIndex_8e157 3 (some .int))) := fun w hw => by
  unfold va_wsS at hw
  rcases List.mem_append.mp hw with hw | hw
  · simp only [List.mem_cons, List.not_mem_nil, or_false] at hw
    rcases hw with rfl | rfl | rfl
    · exact ⟨jw17, Or.inl rfl⟩
    · exact ⟨jw19, Or.inl rfl⟩
    · exact ⟨jw18, Or.inl rfl⟩
  · exact m_good_wj jc_J3_checkIndex_8e157 w hw
theorem jw20 : Cond.methodLink RJ0 633 yJ0_indexOf_7cf53 ∈ m_tbl := m_in (List.mem_of_getElem? (i := 252) (by decide +kernel)) rfl
theorem jw21 : Cond.instanceMethod yJ0_indexOf_7cf53 ∈ m_tbl := m_in (List.mem_of_getElem? (i := 253) (by decide +kernel)) rfl
theorem jw22 : Cond.selects RJ0 yJ0_indexOf_7cf53 yJ0_indexOf_7cf53 ∈ m_tbl := m_in (List.mem_of_getElem? (i := 254) (by decide +kernel)) rfl
theorem jg_J0_indexOf_7cf53 : GoodIn m_tbl (wsV RJ0 633 RJ0 yJ0_indexOf_7cf53 (m_wj yJ0_indexOf_7cf53 cJ0_indexOf_7cf53 3 (some .int))) := fun w hw => by
  unfold wsV at hw
  rcases List.mem_append.mp hw with hw | hw
  · simp only [List.mem_cons, List.not_mem_nil, or_false] at hw
    rcases hw with rfl | rfl | rfl | rfl
    · exact ⟨jw20, Or.inl rfl⟩
    · exact ⟨jw21, Or.inl rfl⟩
    · exact ⟨jw22, Or.inl rfl⟩
    · exact ⟨jw8, Or.inl rfl⟩
  · exact m_good_wj jc_J0_indexOf_7cf53 w hw
theorem jw23 : Cond.methodLink RJ0 505 yJ0_length_8abf5 ∈ m_tbl := m_in (List.mem_of_getElem? (i := 256) (by decide +kernel)) rfl
theorem jw24 : Cond.instanceMethod yJ0_length_8abf5 ∈ m_tbl := m_in (List.mem_of_getElem? (i := 79) (by decide +kernel)) rfl
theorem jw25 : Cond.selects RJ0 yJ0_length_8abf5 yJ0_length_8abf5 ∈ m_tbl := m_in (List.mem_of_getElem? (i := 80) (by decide +kernel)) rfl
theorem jg_J0_length_8abf5 : GoodIn m_tbl (wsV RJ0 505 RJ0 yJ0_length_8abf5 (m_wj yJ0_length_8abf5 cJ0_length_8abf5 1 (some .int))) := fun w hw => by
  unfold wsV at hw
  rcases List.mem_append.mp hw with hw | hw
  · simp only [List.mem_cons, List.not_mem_nil, or_false] at hw
    rcases hw with rfl | rfl | rfl | rfl
    · exact ⟨jw23, Or.inl rfl⟩
    · exact ⟨jw24, Or.inl rfl⟩
    · exact ⟨jw25, Or.inl rfl⟩
    · exact ⟨jw8, Or.inl rfl⟩
  · exact m_good_wj jc_J0_length_8abf5 w hw
theorem jw26 : Cond.methodLink RJ0 637 yJ1_indexOf_4cfef ∈ m_tbl := m_in (List.mem_of_getElem? (i := 257) (by decide +kernel)) rfl
theorem jw27 : Cond.static yJ1_indexOf_4cfef ∈ m_tbl := m_in (List.mem_of_getElem? (i := 258) (by decide +kernel)) rfl
theorem jg_J1_indexOf_4cfef : GoodIn m_tbl (va_wsS RJ0 637 yJ1_indexOf_4cfef (m_wj yJ1_indexOf_4cfef cJ1_indexOf_4cfef 4 (some .int))) := fun w hw => by
  unfold va_wsS at hw
  rcases List.mem_append.mp hw with hw | hw
  · simp only [List.mem_cons, List.not_mem_nil, or_false] at hw
    rcases hw with rfl | rfl | rfl
    · exact ⟨jw26, Or.inl rfl⟩
    · exact ⟨jw27, Or.inl rfl⟩
    · exact ⟨jw13, Or.inl rfl⟩
  · exact m_good_wj jc_J1_indexOf_4cfef w hw
theorem jw28 : Cond.methodLink RJ1 88 yJ1_canEncode_9a6ad ∈ m_tbl := m_in (List.mem_of_getElem? (i := 260) (by decide +kernel)) rfl
theorem jw29 : Cond.static yJ1_canEncode_9a6ad ∈ m_tbl := m_in (List.mem_of_getElem? (i := 261) (by decide +kernel)) rfl
theorem jg_J1_canEncode_9a6ad : GoodIn m_tbl (va_wsS RJ1 88 yJ1_canEncode_9a6ad (m_wj yJ1_canEncode_9a6ad cJ1_canEncode_9a6ad 1 (some .boolean))) := fun w hw => by
  unfold va_wsS at hw
  rcases List.mem_append.mp hw with hw | hw
  · simp only [List.mem_cons, List.not_mem_nil, or_false] at hw
    rcases hw with rfl | rfl | rfl
    · exact ⟨jw28, Or.inl rfl⟩
    · exact ⟨jw29, Or.inl rfl⟩
    · exact ⟨jw13, Or.inl rfl⟩
  · exact m_good_wj jc_J1_canEncode_9a6ad w hw
theorem jw30 : Cond.methodLink RJ1 95 yJ1_indexOfChar_4cfef ∈ m_tbl := m_in (List.mem_of_getElem? (i := 269) (by decide +kernel)) rfl
theorem jw31 : Cond.static yJ1_indexOfChar_4cfef ∈ m_tbl := m_in (List.mem_of_getElem? (i := 270) (by decide +kernel)) rfl
theorem jg_J1_indexOfChar_4cfef : GoodIn m_tbl (va_wsS RJ1 95 yJ1_indexOfChar_4cfef (m_wj yJ1_indexOfChar_4cfef cJ1_indexOfChar_4cfef 6 (some .int))) := fun w hw => by
  unfold va_wsS at hw
  rcases List.mem_append.mp hw with hw | hw
  · simp only [List.mem_cons, List.not_mem_nil, or_false] at hw
    rcases hw with rfl | rfl | rfl
    · exact ⟨jw30, Or.inl rfl⟩
    · exact ⟨jw31, Or.inl rfl⟩
    · exact ⟨jw13, Or.inl rfl⟩
  · exact m_good_wj jc_J1_indexOfChar_4cfef w hw
theorem jw32 : Cond.methodLink RJ1 92 Lib.Math.max.name ∈ m_tbl := m_in (List.mem_of_getElem? (i := 263) (by decide +kernel)) rfl
theorem jw33 : Cond.static Lib.Math.max.name ∈ m_tbl := m_in (List.mem_of_getElem? (i := 264) (by decide +kernel)) rfl
theorem jw34 : Cond.initialized "java/lang/Math" ∈ m_tbl := m_in (List.mem_of_getElem? (i := 43) (by decide +kernel)) rfl
theorem jw35 : Cond.methodLink RJ1 38 Lib.Math.min.name ∈ m_tbl := m_in (List.mem_of_getElem? (i := 266) (by decide +kernel)) rfl
theorem jw36 : Cond.static Lib.Math.min.name ∈ m_tbl := m_in (List.mem_of_getElem? (i := 267) (by decide +kernel)) rfl
set_option maxRecDepth 100000 in
theorem jmx : Cond.code Lib.Math.max.name Lib.Math.max.code 2 (some .int) ∈ m_tbl := m_in (List.mem_of_getElem? (i := 265) rfl) rfl
set_option maxRecDepth 100000 in
theorem jmn : Cond.code Lib.Math.min.name Lib.Math.min.code 2 (some .int) ∈ m_tbl := m_in (List.mem_of_getElem? (i := 268) rfl) rfl
/-- the string constants, told of a state whose heap is the old one below -/
def m_Od (G : m_GT) (U : State) : Prop := m_KS G U ∧ G.2.2.2.2.size = G.1 ∧ G.1 ≤ U.heap.size ∧ ∀ q, q < G.1 → U.heap[q]? = G.2.2.2.2[q]?
theorem m_Od.kept {G : m_GT} {U : State} (h : m_Od G U) : ∀ a : Nat, a < G.2.2.2.2.size → ¬ m_A G a → U.heap[a]? = G.2.2.2.2[a]? := fun a h1 _ => h.2.2.2 a (by rw [← h.2.1]; exact h1)
theorem m_Od.str {G : m_GT} {U : State} (h : m_Od G U) : ∃ adV : Nat → Nat, vk_S 2 m_lenS m_bytS G.2.1 adV (m_A G) U U.heap := by
  obtain ⟨adV, h3⟩ := h.1.2.2.1
  exact ⟨adV, vk_S.kept h3 h.kept⟩
theorem m_Od.cs {G : m_GT} {U : State} (h : m_Od G U) : va_Z "java/lang/String" "COMPACT_STRINGS" "Z" (.int 1) (m_A G) U U.heap := va_Z.kept h.1.2.2.2.2.2.2.1 h.kept
theorem m_Od.fm {G : m_GT} {U : State} (h : m_Od G U) : va_Zq "jdk/internal/util/Preconditions" "SIOOBE_FORMATTER" "Ljava/util/function/BiFunction;" (m_A G) U U.heap := va_Zq.kept h.1.2.2.2.2.2.2.2.1 h.kept
theorem m_Od.blind {G : m_GT} {U : State} {g : JFrame} {mk : MethodId} {a : Array Value} (h : m_Od G U) : m_Od G (U.calling g mk a) := ⟨m_KS.same rfl h.1, h.2⟩
theorem m_Od.at {G : m_GT} {s U : State} (h : m_Od G s) (hU : U.heap = s.heap) (hW : s.WarmedH U.vm) : m_Od G U := ⟨m_KS.warm hW h.1, h.2.1, by rw [hU]; exact h.2.2.1, by rw [hU]; exact h.2.2.2⟩
/-- the bytes of a string -/
def m_Tx (G : m_GT) (j t : Nat) (U : State) : Prop := va_T .byte t (m_lenS.getD j 0) (fun i => .int ((m_bytS.getD j []).getD i 0)) (m_A G) U U.heap
theorem m_Tx.at {G : m_GT} {j t : Nat} {s U : State} (h : m_Tx G j t s) (hU : U.heap = s.heap) (hW : s.WarmedH U.vm) : m_Tx G j t U := by
  unfold m_Tx
  rw [hU]
  exact va_T.moved hW.alike h
theorem m_lenS_ok : ∀ j, j < 2 → m_lenS.getD j 0 = (m_chs j).length := by decide +kernel
theorem m_bytS_ok : ∀ j, j < 2 → ∀ i, i < (m_chs j).length → (m_bytS.getD j []).getD i 0 = nI ((m_chs j).getD i 0) := by decide +kernel
theorem m_chs_lt : ∀ j, j < 2 → ∀ i, i < (m_chs j).length → (m_chs j).getD i 0 < 128 := by decide +kernel
theorem m_len_lt : ∀ j, j < 2 → (m_chs j).length < 100 := by decide +kernel
set_option maxHeartbeats 4000000 in
set_option maxRecDepth 100000 in
theorem jm_prer (i n : Int32) (h0 : ¬ i < 0) (h1 : i < n) (w0 : Nat) (l : Launch) : Met l yJ3_checkIndex_8e157 (m_wj yJ3_checkIndex_8e157 cJ3_checkIndex_8e157 3 (some .int)) (m_rj 0 0) (fun v U => v = [.int i, .int n, .ref w0].toArray ∧ True) (k2_QcV (.int i)) 0 0 (fun _ => False) := by
  refine va_MetF (cc := cJ3_checkIndex_8e157) (maxL := 3) (ret := (some .int)) (by decide +kernel) rfl ?_
  intro p e s m args below meth c s₁ B hml hv
  obtain ⟨rfl, -⟩ := hv
  have hx := B.exec
  have hb := B.bytes
  have hr := B.returns
  have hlocks := B.notSynchronized
  have hts0 := atoms_spec (ws := m_wj yJ3_checkIndex_8e157 cJ3_checkIndex_8e157 3 (some .int)) B.pre
  have hts : ∀ w ∈ m_tbl, w.before [.int i, .int n, .ref w0].toArray s = true := fun w hw => hts0 w (List.mem_cons_of_mem _ hw)
  have hown : s.vm.findClass RJ3 = some m.cls := findClass_of_methodNamed B.named
  have hS : va_S (fun _ => False) s.heap s.heap [] := va_S.rf
  have hl := lv_entry ([.int i, .int n, .ref w0]) (n := 3) (Nat.le_of_ble_eq_true rfl)
  rw [show ([.int i, .int n, .ref w0] : List Value).toArray = ([.int i, .int n, .ref w0] : List Value).toArray from rfl, lg_entry_eq]
  generalize (lg_sl ([.int i, .int n, .ref w0]) ++ List.replicate (3 - (lg_sl ([.int i, .int n, .ref w0])).length) Slot.unset).toArray = ls at hl ⊢
  have hl : lv_has ls 3 [(0, .int i), (1, .int n), (2, .ref w0)] := hl
  refine lv_iload_n hx hb eJ3_checkIndex_8e157_0 rfl (lv_at hl 0 rfl) ?_
  refine lv_if_lt (tgt := 9) hx hb eJ3_checkIndex_8e157_1 (by decide) (fun q => absurd q h0) (fun _ => ?_)
  refine lv_iload_n hx hb eJ3_checkIndex_8e157_4 rfl (lv_at hl 0 rfl) ?_
  refine lv_iload_n hx hb eJ3_checkIndex_8e157_5 rfl (lv_at hl 1 rfl) ?_
  refine lv_icmp_lt (tgt := 16) hx hb eJ3_checkIndex_8e157_6 (by decide) (fun _ => ?_) (fun q => absurd h1 q)
  refine lv_iload_n hx hb eJ3_checkIndex_8e157_16 rfl (lv_at hl 0 rfl) ?_
  exact W.iret hx hb hr (fun t ht hW => ⟨rfl, ht⟩) (fun q h => by cases h) eJ3_checkIndex_8e157_17
set_option maxHeartbeats 4000000 in
set_option maxRecDepth 100000 in
theorem jm_pren (i n : Int32) (h0 : ¬ i < 0) (h1 : i < n)  (l : Launch) : Met l yJ3_checkIndex_8e157 (m_wj yJ3_checkIndex_8e157 cJ3_checkIndex_8e157 3 (some .int)) (m_rj 0 0) (fun v U => v = [.int i, .int n, .null].toArray ∧ True) (k2_QcV (.int i)) 0 0 (fun _ => False) := by
  refine va_MetF (cc := cJ3_checkIndex_8e157) (maxL := 3) (ret := (some .int)) (by decide +kernel) rfl ?_
  intro p e s m args below meth c s₁ B hml hv
  obtain ⟨rfl, -⟩ := hv
  have hx := B.exec
  have hb := B.bytes
  have hr := B.returns
  have hlocks := B.notSynchronized
  have hts0 := atoms_spec (ws := m_wj yJ3_checkIndex_8e157 cJ3_checkIndex_8e157 3 (some .int)) B.pre
  have hts : ∀ w ∈ m_tbl, w.before [.int i, .int n, .null].toArray s = true := fun w hw => hts0 w (List.mem_cons_of_mem _ hw)
  have hown : s.vm.findClass RJ3 = some m.cls := findClass_of_methodNamed B.named
  have hS : va_S (fun _ => False) s.heap s.heap [] := va_S.rf
  have hl := lv_entry ([.int i, .int n, .null]) (n := 3) (Nat.le_of_ble_eq_true rfl)
  rw [show ([.int i, .int n, .null] : List Value).toArray = ([.int i, .int n, .null] : List Value).toArray from rfl, lg_entry_eq]
  generalize (lg_sl ([.int i, .int n, .null]) ++ List.replicate (3 - (lg_sl ([.int i, .int n, .null])).length) Slot.unset).toArray = ls at hl ⊢
  have hl : lv_has ls 3 [(0, .int i), (1, .int n), (2, .null)] := hl
  refine lv_iload_n hx hb eJ3_checkIndex_8e157_0 rfl (lv_at hl 0 rfl) ?_
  refine lv_if_lt (tgt := 9) hx hb eJ3_checkIndex_8e157_1 (by decide) (fun q => absurd q h0) (fun _ => ?_)
  refine lv_iload_n hx hb eJ3_checkIndex_8e157_4 rfl (lv_at hl 0 rfl) ?_
  refine lv_iload_n hx hb eJ3_checkIndex_8e157_5 rfl (lv_at hl 1 rfl) ?_
  refine lv_icmp_lt (tgt := 16) hx hb eJ3_checkIndex_8e157_6 (by decide) (fun _ => ?_) (fun q => absurd h1 q)
  refine lv_iload_n hx hb eJ3_checkIndex_8e157_16 rfl (lv_at hl 0 rfl) ?_
  exact W.iret hx hb hr (fun t ht hW => ⟨rfl, ht⟩) (fun q h => by cases h) eJ3_checkIndex_8e157_17
set_option maxHeartbeats 4000000 in
set_option maxRecDepth 100000 in
theorem jm_chk (G : m_GT) (i n : Int32) (h0 : ¬ i < 0) (h1 : i < n) (l : Launch) : Met l yJ0_checkIndex_df160 (m_wj yJ0_checkIndex_df160 cJ0_checkIndex_df160 2 none) (m_rj 1 22) (fun v U => v = [.int i, .int n].toArray ∧ m_Od G U) (va_Sv (fun _ => True)) 0 0 (fun _ => False) := by
  refine va_MetF (cc := cJ0_checkIndex_df160) (maxL := 2) (ret := none) (by decide +kernel) rfl ?_
  intro p e s m args below meth c s₁ B hml hv
  obtain ⟨rfl, hO⟩ := hv
  have hx := B.exec
  have hb := B.bytes
  have hr := B.returns
  have hlocks := B.notSynchronized
  have hts0 := atoms_spec (ws := m_wj yJ0_checkIndex_df160 cJ0_checkIndex_df160 2 none) B.pre
  have hts : ∀ w ∈ m_tbl, w.before [.int i, .int n].toArray s = true := fun w hw => hts0 w (List.mem_cons_of_mem _ hw)
  have hown : s.vm.findClass RJ0 = some m.cls := findClass_of_methodNamed B.named
  have hS : va_S (fun _ => False) s.heap s.heap [] := va_S.rf
  have hl := lv_entry ([.int i, .int n]) (n := 2) (Nat.le_of_ble_eq_true rfl)
  rw [show ([.int i, .int n] : List Value).toArray = ([.int i, .int n] : List Value).toArray from rfl, lg_entry_eq]
  generalize (lg_sl ([.int i, .int n]) ++ List.replicate (2 - (lg_sl ([.int i, .int n])).length) Slot.unset).toArray = ls at hl ⊢
  have hl : lv_has ls 2 [(0, .int i), (1, .int n)] := hl
  refine lv_iload_n hx hb eJ0_checkIndex_df160_0 rfl (lv_at hl 0 rfl) ?_
  refine lv_iload_n hx hb eJ0_checkIndex_df160_1 rfl (lv_at hl 1 rfl) ?_
  have hSA : va_S (m_A G) s.heap s.heap [] := va_S.rf
  rcases hO.fm with hZ | ⟨w, hZ⟩
  · refine va_gets (ref := "jdk/internal/util/Preconditions") hx hb hZ hSA hown (hts _ jw4) (fun _ h9 => h9) eJ0_checkIndex_df160_2 ?_
    refine W.callV (r := .int i) (W.runS (As := [.int i, .int n, .null]) (rest := []) (Ts := m_tbl) ⟨hx, hb, hml, hown, hts⟩ (jm_pren i n h0 h1 l) (va_cwS 3 hts jg_J3_checkIndex_8e157 rfl rfl rfl ⟨by decide +kernel, by decide +kernel, by decide +kernel⟩ ⟨Nat.le_of_ble_eq_true rfl, Nat.le_of_ble_eq_true rfl⟩) ⟨fun _ _ _ _ q => q, fun U hU hW => ⟨rfl, trivial⟩⟩ rfl rfl hl.1 rfl (lv_room (Nat.le_of_ble_eq_true rfl)) eJ0_checkIndex_df160_5 ⟨Nat.zero_le _, Nat.zero_le _⟩) ?_
    refine lv_pop hx hb eJ0_checkIndex_df160_8 rfl ?_
    exact W.vret hx hb hr (fun t ht hW => ⟨rfl, trivial, ht⟩) (fun q h => by cases h) eJ0_checkIndex_df160_9
  · refine va_gets (ref := "jdk/internal/util/Preconditions") hx hb hZ hSA hown (hts _ jw4) (fun _ h9 => h9) eJ0_checkIndex_df160_2 ?_
    refine W.callV (r := .int i) (W.runS (As := [.int i, .int n, .ref w]) (rest := []) (Ts := m_tbl) ⟨hx, hb, hml, hown, hts⟩ (jm_prer i n h0 h1 w l) (va_cwS 3 hts jg_J3_checkIndex_8e157 rfl rfl rfl ⟨by decide +kernel, by decide +kernel, by decide +kernel⟩ ⟨Nat.le_of_ble_eq_true rfl, Nat.le_of_ble_eq_true rfl⟩) ⟨fun _ _ _ _ q => q, fun U hU hW => ⟨rfl, trivial⟩⟩ rfl rfl hl.1 rfl (lv_room (Nat.le_of_ble_eq_true rfl)) eJ0_checkIndex_df160_5 ⟨Nat.zero_le _, Nat.zero_le _⟩) ?_
    refine lv_pop hx hb eJ0_checkIndex_df160_8 rfl ?_
    exact W.vret hx hb hr (fun t ht hW => ⟨rfl, trivial, ht⟩) (fun q h => by cases h) eJ0_checkIndex_df160_9
set_option maxHeartbeats 4000000 in
set_option maxRecDepth 100000 in
theorem jm_l1c (G : m_GT) (j t i : Nat) (hj : j < 2) (hi : i < (m_chs j).length) (l : Launch) : Met l yJ1_charAt_3b067 (m_wj yJ1_charAt_3b067 cJ1_charAt_3b067 2 (some .char)) (m_rj 2 43) (fun v U => v = [.ref t, .int (nI i)].toArray ∧ m_Od G U ∧ m_Tx G j t U) (k2_QcV (.int (nI ((m_chs j).getD i 0)))) 0 0 (fun _ => False) := by
  refine va_MetF (cc := cJ1_charAt_3b067) (maxL := 2) (ret := (some .char)) (by decide +kernel) rfl ?_
  intro p e s m args below meth c s₁ B hml hv
  obtain ⟨rfl, hO, hT⟩ := hv
  have hx := B.exec
  have hb := B.bytes
  have hr := B.returns
  have hlocks := B.notSynchronized
  have hts0 := atoms_spec (ws := m_wj yJ1_charAt_3b067 cJ1_charAt_3b067 2 (some .char)) B.pre
  have hts : ∀ w ∈ m_tbl, w.before [.ref t, .int (nI i)].toArray s = true := fun w hw => hts0 w (List.mem_cons_of_mem _ hw)
  have hown : s.vm.findClass RJ1 = some m.cls := findClass_of_methodNamed B.named
  have hS : va_S (fun _ => False) s.heap s.heap [] := va_S.rf
  have hl := lv_entry ([.ref t, .int (nI i)]) (n := 2) (Nat.le_of_ble_eq_true rfl)
  rw [show ([.ref t, .int (nI i)] : List Value).toArray = ([.ref t, .int (nI i)] : List Value).toArray from rfl, lg_entry_eq]
  generalize (lg_sl ([.ref t, .int (nI i)]) ++ List.replicate (2 - (lg_sl ([.ref t, .int (nI i)])).length) Slot.unset).toArray = ls at hl ⊢
  have hl : lv_has ls 2 [(0, .ref t), (1, .int (nI i))] := hl
  have hSA : va_S (m_A G) s.heap s.heap [] := va_S.rf
  have hlen := m_len_lt j hj
  have hT' : va_T .byte t (m_lenS.getD j 0) (fun i => .int ((m_bytS.getD j []).getD i 0)) (m_A G) s s.heap := hT
  rw [m_lenS_ok j hj] at hT'
  refine lv_iload_n hx hb eJ1_charAt_3b067_0 rfl (lv_at hl 1 rfl) ?_
  refine lv_aload_n hx hb eJ1_charAt_3b067_1 rfl (lv_at hl 0 rfl) ?_
  refine va_tlen (v := nI (m_chs j).length) hx hb hT' hSA rfl eJ1_charAt_3b067_2 ?_
  refine va_csv (W.runS (As := [.int (nI i), .int (nI (m_chs j).length)]) (rest := []) (Ts := m_tbl) ⟨hx, hb, hml, hown, hts⟩ (jm_chk G (nI i) (nI (m_chs j).length) (nI_pos (by omega)) (nI_lt hi (by omega)) l) (va_cwS 2 hts jg_J0_checkIndex_df160 rfl rfl rfl ⟨by decide +kernel, by decide +kernel, by decide +kernel⟩ ⟨Nat.le_of_ble_eq_true rfl, Nat.le_of_ble_eq_true rfl⟩) ⟨fun _ _ _ _ q => ⟨q.1, q.2.blind⟩, fun U hU hW => ⟨rfl, hO.at hU hW⟩⟩ rfl rfl hl.1 rfl (lv_room (Nat.le_of_ble_eq_true rfl)) eJ1_charAt_3b067_3 ⟨Nat.zero_le _, Nat.zero_le _⟩) (fun _ => ?_)
  refine lv_aload_n hx hb eJ1_charAt_3b067_6 rfl (lv_at hl 0 rfl) ?_
  refine lv_iload_n hx hb eJ1_charAt_3b067_7 rfl (lv_at hl 1 rfl) ?_
  have hc : (nI i).toNatClampNeg = i := nI_clamp (by omega)
  have hv : (fun i => Value.int ((m_bytS.getD j []).getD i 0)) (nI i).toNatClampNeg = .int (nI ((m_chs j).getD i 0)) := by
    dsimp only
    rw [hc, m_bytS_ok j hj i hi]
  refine va_tb hx hb hT' hSA (vp_in_nI hi (by omega)) hv eJ1_charAt_3b067_8 ?_
  have hch := m_chs_lt j hj i hi
  refine lv_sipush (v := 255) hx hb eJ1_charAt_3b067_9 (by decide) ?_
  refine lv_iand hx hb eJ1_charAt_3b067_12 ?_
  have e1 : nI ((m_chs j).getD i 0) &&& 255 = nI ((m_chs j).getD i 0) := by
    generalize (m_chs j).getD i 0 = n at hch ⊢
    have : ∀ n, n < 128 → nI n &&& 255 = nI n := by decide +kernel
    exact this n hch
  rw [e1]
  refine lv_i2c (v := nI ((m_chs j).getD i 0)) hx hb eJ1_charAt_3b067_13 ?_ ?_
  · generalize (m_chs j).getD i 0 = n at hch ⊢
    have : ∀ n, n < 128 → ((nI n).toUInt32 % 65536).toInt32 = nI n := by decide +kernel
    exact this n hch
  refine W.zret (ty := .char) hx hb hr ?_ (fun t ht hW => ⟨rfl, ht⟩) (fun q h => by cases h) eJ1_charAt_3b067_14
  generalize (m_chs j).getD i 0 = n at hch ⊢
  have : ∀ n, n < 128 → narrow .char (.int (nI n)) = .int (nI n) := by decide +kernel
  exact this n hch
set_option maxHeartbeats 4000000 in
set_option maxRecDepth 100000 in
theorem jm_isl (G : m_GT) (j : Nat) (hj : j < 2) (l : Launch) : Met l yJ0_isLatin1_aae02 (m_wj yJ0_isLatin1_aae02 cJ0_isLatin1_aae02 1 (some .boolean)) (m_rj 0 0) (fun v U => v = [.ref (G.2.1 j)].toArray ∧ m_Od G U) (k2_QcV (.int 1)) 0 0 (fun _ => False) := by
  refine va_MetF (cc := cJ0_isLatin1_aae02) (maxL := 1) (ret := (some .boolean)) (by decide +kernel) rfl ?_
  intro p e s m args below meth c s₁ B hml hv
  obtain ⟨rfl, hO⟩ := hv
  have hx := B.exec
  have hb := B.bytes
  have hr := B.returns
  have hlocks := B.notSynchronized
  have hts0 := atoms_spec (ws := m_wj yJ0_isLatin1_aae02 cJ0_isLatin1_aae02 1 (some .boolean)) B.pre
  have hts : ∀ w ∈ m_tbl, w.before [.ref (G.2.1 j)].toArray s = true := fun w hw => hts0 w (List.mem_cons_of_mem _ hw)
  have hown : s.vm.findClass RJ0 = some m.cls := findClass_of_methodNamed B.named
  have hS : va_S (fun _ => False) s.heap s.heap [] := va_S.rf
  have hl := lv_entry ([.ref (G.2.1 j)]) (n := 1) (Nat.le_of_ble_eq_true rfl)
  rw [show ([.ref (G.2.1 j)] : List Value).toArray = ([.ref (G.2.1 j)] : List Value).toArray from rfl, lg_entry_eq]
  generalize (lg_sl ([.ref (G.2.1 j)]) ++ List.replicate (1 - (lg_sl ([.ref (G.2.1 j)])).length) Slot.unset).toArray = ls at hl ⊢
  have hl : lv_has ls 1 [(0, .ref (G.2.1 j))] := hl
  have hSA : va_S (m_A G) s.heap s.heap [] := va_S.rf
  obtain ⟨adV, hVS⟩ := hO.str
  obtain ⟨hE1, hE2, hE3, hE4⟩ := hVS.1 j hj
  refine va_gets (ref := "java/lang/String") hx hb hO.cs hSA hown (hts _ jw3) (fun _ h9 => h9) eJ0_isLatin1_aae02_0 ?_
  refine lv_if_eq (tgt := 17) hx hb eJ0_isLatin1_aae02_3 (by decide) (fun q => absurd q (by decide)) (fun _ => ?_)
  refine lv_aload_n hx hb eJ0_isLatin1_aae02_6 rfl (lv_at hl 0 rfl) ?_
  refine vk_getf (ref := "java/lang/String") hx hb hE2 hSA hown (hts _ jw2) (fun _ h9 => h9) eJ0_isLatin1_aae02_7 ?_
  refine lv_if_ne (tgt := 17) hx hb eJ0_isLatin1_aae02_10 (by decide) (fun q => absurd rfl q) (fun _ => ?_)
  refine lv_iconst (v := 1) hx hb eJ0_isLatin1_aae02_13 (by decide) ?_
  refine lv_goto (tgt := 18) hx hb eJ0_isLatin1_aae02_14 (by decide) ?_
  exact W.zret (ty := .boolean) hx hb hr rfl (fun t ht hW => ⟨rfl, ht⟩) (fun q h => by cases h) eJ0_isLatin1_aae02_18
set_option maxHeartbeats 4000000 in
set_option maxRecDepth 100000 in
theorem jm_cod (G : m_GT) (j : Nat) (hj : j < 2) (l : Launch) : Met l yJ0_coder_7d493 (m_wj yJ0_coder_7d493 cJ0_coder_7d493 1 (some .byte)) (m_rj 0 0) (fun v U => v = [.ref (G.2.1 j)].toArray ∧ m_Od G U) (k2_QcV (.int 0)) 0 0 (fun _ => False) := by
  refine va_MetF (cc := cJ0_coder_7d493) (maxL := 1) (ret := (some .byte)) (by decide +kernel) rfl ?_
  intro p e s m args below meth c s₁ B hml hv
  obtain ⟨rfl, hO⟩ := hv
  have hx := B.exec
  have hb := B.bytes
  have hr := B.returns
  have hlocks := B.notSynchronized
  have hts0 := atoms_spec (ws := m_wj yJ0_coder_7d493 cJ0_coder_7d493 1 (some .byte)) B.pre
  have hts : ∀ w ∈ m_tbl, w.before [.ref (G.2.1 j)].toArray s = true := fun w hw => hts0 w (List.mem_cons_of_mem _ hw)
  have hown : s.vm.findClass RJ0 = some m.cls := findClass_of_methodNamed B.named
  have hS : va_S (fun _ => False) s.heap s.heap [] := va_S.rf
  have hl := lv_entry ([.ref (G.2.1 j)]) (n := 1) (Nat.le_of_ble_eq_true rfl)
  rw [show ([.ref (G.2.1 j)] : List Value).toArray = ([.ref (G.2.1 j)] : List Value).toArray from rfl, lg_entry_eq]
  generalize (lg_sl ([.ref (G.2.1 j)]) ++ List.replicate (1 - (lg_sl ([.ref (G.2.1 j)])).length) Slot.unset).toArray = ls at hl ⊢
  have hl : lv_has ls 1 [(0, .ref (G.2.1 j))] := hl
  have hSA : va_S (m_A G) s.heap s.heap [] := va_S.rf
  obtain ⟨adV, hVS⟩ := hO.str
  obtain ⟨hE1, hE2, hE3, hE4⟩ := hVS.1 j hj
  refine va_gets (ref := "java/lang/String") hx hb hO.cs hSA hown (hts _ jw3) (fun _ h9 => h9) eJ0_coder_7d493_0 ?_
  refine lv_if_eq (tgt := 13) hx hb eJ0_coder_7d493_3 (by decide) (fun q => absurd q (by decide)) (fun _ => ?_)
  refine lv_aload_n hx hb eJ0_coder_7d493_6 rfl (lv_at hl 0 rfl) ?_
  refine vk_getf (ref := "java/lang/String") hx hb hE2 hSA hown (hts _ jw2) (fun _ h9 => h9) eJ0_coder_7d493_7 ?_
  refine lv_goto (tgt := 14) hx hb eJ0_coder_7d493_10 (by decide) ?_
  exact W.zret (ty := .byte) hx hb hr rfl (fun t ht hW => ⟨rfl, ht⟩) (fun q h => by cases h) eJ0_coder_7d493_14
set_option maxHeartbeats 4000000 in
set_option maxRecDepth 100000 in
theorem jm_len (G : m_GT) (j : Nat) (hj : j < 2) (l : Launch) : Met l yJ0_length_8abf5 (m_wj yJ0_length_8abf5 cJ0_length_8abf5 1 (some .int)) (m_rj 1 20) (fun v U => v = [.ref (G.2.1 j)].toArray ∧ m_Od G U) (k2_QcV (.int (nI (m_chs j).length))) 0 0 (fun _ => False) := by
  refine va_MetF (cc := cJ0_length_8abf5) (maxL := 1) (ret := (some .int)) (by decide +kernel) rfl ?_
  intro p e s m args below meth c s₁ B hml hv
  obtain ⟨rfl, hO⟩ := hv
  have hx := B.exec
  have hb := B.bytes
  have hr := B.returns
  have hlocks := B.notSynchronized
  have hts0 := atoms_spec (ws := m_wj yJ0_length_8abf5 cJ0_length_8abf5 1 (some .int)) B.pre
  have hts : ∀ w ∈ m_tbl, w.before [.ref (G.2.1 j)].toArray s = true := fun w hw => hts0 w (List.mem_cons_of_mem _ hw)
  have hown : s.vm.findClass RJ0 = some m.cls := findClass_of_methodNamed B.named
  have hS : va_S (fun _ => False) s.heap s.heap [] := va_S.rf
  have hl := lv_entry ([.ref (G.2.1 j)]) (n := 1) (Nat.le_of_ble_eq_true rfl)
  rw [show ([.ref (G.2.1 j)] : List Value).toArray = ([.ref (G.2.1 j)] : List Value).toArray from rfl, lg_entry_eq]
  generalize (lg_sl ([.ref (G.2.1 j)]) ++ List.replicate (1 - (lg_sl ([.ref (G.2.1 j)])).length) Slot.unset).toArray = ls at hl ⊢
  have hl : lv_has ls 1 [(0, .ref (G.2.1 j))] := hl
  have hSA : va_S (m_A G) s.heap s.heap [] := va_S.rf
  obtain ⟨adV, hVS⟩ := hO.str
  obtain ⟨hE1, hE2, hE3, hE4⟩ := hVS.1 j hj
  rw [m_lenS_ok j hj] at hE4
  refine lv_aload_n hx hb eJ0_length_8abf5_0 rfl (lv_at hl 0 rfl) ?_
  refine vk_getf (ref := "java/lang/String") hx hb hE3 hSA hown (hts _ jw1) (fun _ h9 => h9) eJ0_length_8abf5_1 ?_
  refine va_tlen (v := nI (m_chs j).length) hx hb hE4 hSA rfl eJ0_length_8abf5_4 ?_
  refine lv_aload_n hx hb eJ0_length_8abf5_5 rfl (lv_at hl 0 rfl) ?_
  refine W.callV (r := .int 0) (W.runV (As := []) (b := G.2.1 j) (C := RJ0) (rest := [.int (nI (m_chs j).length)]) (Ts := m_tbl) ⟨hx, hb, hml, hown, hts⟩ (jm_cod G j hj l) (cwV 0 hts jg_J0_coder_7d493 rfl rfl rfl ⟨by decide +kernel, by decide +kernel, by decide +kernel, by decide +kernel⟩ ⟨Nat.le_of_ble_eq_true rfl, Nat.le_of_ble_eq_true rfl⟩) ⟨fun _ _ _ _ q => ⟨q.1, q.2.blind⟩, vk_recv hVS hj hSA, fun U hU hW => ⟨rfl, hO.at hU hW⟩⟩ rfl rfl hl.1 rfl (lv_room (Nat.le_of_ble_eq_true rfl)) eJ0_length_8abf5_6 ⟨Nat.zero_le _, Nat.zero_le _⟩) ?_
  refine lv_ishr hx hb eJ0_length_8abf5_9 ?_
  rw [sb_shr0]
  exact W.iret hx hb hr (fun t ht hW => ⟨rfl, ht⟩) (fun q h => by cases h) eJ0_length_8abf5_10
set_option maxHeartbeats 4000000 in
set_option maxRecDepth 100000 in
theorem jm_cha (G : m_GT) (j i : Nat) (hj : j < 2) (hi : i < (m_chs j).length) (l : Launch) : Met l yJ0_charAt_5068e (m_wj yJ0_charAt_5068e cJ0_charAt_5068e 2 (some .char)) (m_rj 3 64) (fun v U => v = [.ref (G.2.1 j), .int (nI i)].toArray ∧ m_Od G U) (k2_QcV (.int (nI ((m_chs j).getD i 0)))) 0 0 (fun _ => False) := by
  refine va_MetF (cc := cJ0_charAt_5068e) (maxL := 2) (ret := (some .char)) (by decide +kernel) rfl ?_
  intro p e s m args below meth c s₁ B hml hv
  obtain ⟨rfl, hO⟩ := hv
  have hx := B.exec
  have hb := B.bytes
  have hr := B.returns
  have hlocks := B.notSynchronized
  have hts0 := atoms_spec (ws := m_wj yJ0_charAt_5068e cJ0_charAt_5068e 2 (some .char)) B.pre
  have hts : ∀ w ∈ m_tbl, w.before [.ref (G.2.1 j), .int (nI i)].toArray s = true := fun w hw => hts0 w (List.mem_cons_of_mem _ hw)
  have hown : s.vm.findClass RJ0 = some m.cls := findClass_of_methodNamed B.named
  have hS : va_S (fun _ => False) s.heap s.heap [] := va_S.rf
  have hl := lv_entry ([.ref (G.2.1 j), .int (nI i)]) (n := 2) (Nat.le_of_ble_eq_true rfl)
  rw [show ([.ref (G.2.1 j), .int (nI i)] : List Value).toArray = ([.ref (G.2.1 j), .int (nI i)] : List Value).toArray from rfl, lg_entry_eq]
  generalize (lg_sl ([.ref (G.2.1 j), .int (nI i)]) ++ List.replicate (2 - (lg_sl ([.ref (G.2.1 j), .int (nI i)])).length) Slot.unset).toArray = ls at hl ⊢
  have hl : lv_has ls 2 [(0, .ref (G.2.1 j)), (1, .int (nI i))] := hl
  have hSA : va_S (m_A G) s.heap s.heap [] := va_S.rf
  obtain ⟨adV, hVS⟩ := hO.str
  obtain ⟨hE1, hE2, hE3, hE4⟩ := hVS.1 j hj
  refine lv_aload_n hx hb eJ0_charAt_5068e_0 rfl (lv_at hl 0 rfl) ?_
  refine W.callV (r := .int 1) (W.runV (As := []) (b := G.2.1 j) (C := RJ0) (rest := []) (Ts := m_tbl) ⟨hx, hb, hml, hown, hts⟩ (jm_isl G j hj l) (cwV 0 hts jg_J0_isLatin1_aae02 rfl rfl rfl ⟨by decide +kernel, by decide +kernel, by decide +kernel, by decide +kernel⟩ ⟨Nat.le_of_ble_eq_true rfl, Nat.le_of_ble_eq_true rfl⟩) ⟨fun _ _ _ _ q => ⟨q.1, q.2.blind⟩, vk_recv hVS hj hSA, fun U hU hW => ⟨rfl, hO.at hU hW⟩⟩ rfl rfl hl.1 rfl (lv_room (Nat.le_of_ble_eq_true rfl)) eJ0_charAt_5068e_1 ⟨Nat.zero_le _, Nat.zero_le _⟩) ?_
  refine W.eq (g2 := F0 m 4 ls [.int 1]) rfl ?_
  refine lv_if_eq (tgt := 16) hx hb eJ0_charAt_5068e_4 (by decide) (fun q => absurd q (by decide)) (fun _ => ?_)
  refine lv_aload_n hx hb eJ0_charAt_5068e_7 rfl (lv_at hl 0 rfl) ?_
  refine vk_getf (ref := "java/lang/String") hx hb hE3 hSA hown (hts _ jw1) (fun _ h9 => h9) eJ0_charAt_5068e_8 ?_
  refine lv_iload_n hx hb eJ0_charAt_5068e_11 rfl (lv_at hl 1 rfl) ?_
  refine W.callV (r := .int (nI ((m_chs j).getD i 0))) (W.runS (As := [.ref (adV j), .int (nI i)]) (rest := []) (Ts := m_tbl) ⟨hx, hb, hml, hown, hts⟩ (jm_l1c G j (adV j) i hj hi l) (va_cwS 2 hts jg_J1_charAt_3b067 rfl rfl rfl ⟨by decide +kernel, by decide +kernel, by decide +kernel⟩ ⟨Nat.le_of_ble_eq_true rfl, Nat.le_of_ble_eq_true rfl⟩) ⟨fun _ _ _ _ q => ⟨q.1, q.2.1.blind, va_T.moved (Vm.Alike.refl _) q.2.2⟩, fun U hU hW => ⟨rfl, hO.at hU hW, m_Tx.at hE4 hU hW⟩⟩ rfl rfl hl.1 rfl (lv_room (Nat.le_of_ble_eq_true rfl)) eJ0_charAt_5068e_12 ⟨Nat.zero_le _, Nat.zero_le _⟩) ?_
  refine W.zret (ty := .char) hx hb hr ?_ (fun t ht hW => ⟨rfl, ht⟩) (fun q h => by cases h) eJ0_charAt_5068e_15
  have hch := m_chs_lt j hj i hi
  generalize (m_chs j).getD i 0 = n at hch ⊢
  have : ∀ n, n < 128 → narrow .char (.int (nI n)) = .int (nI n) := by decide +kernel
  exact this n hch
set_option maxHeartbeats 4000000 in
set_option maxRecDepth 100000 in
theorem jm_can (x : Int32) (l : Launch) : Met l yJ1_canEncode_9a6ad (m_wj yJ1_canEncode_9a6ad cJ1_canEncode_9a6ad 1 (some .boolean)) (m_rj 0 0) (fun v U => v = [.int x].toArray ∧ True) (k2_QcV (.int (if x < 0 then 0 else if 255 < x then 0 else 1))) 0 0 (fun _ => False) := by
  refine va_MetF (cc := cJ1_canEncode_9a6ad) (maxL := 1) (ret := (some .boolean)) (by decide +kernel) rfl ?_
  intro p e s m args below meth c s₁ B hml hv
  obtain ⟨rfl, -⟩ := hv
  have hx := B.exec
  have hb := B.bytes
  have hr := B.returns
  have hlocks := B.notSynchronized
  have hts0 := atoms_spec (ws := m_wj yJ1_canEncode_9a6ad cJ1_canEncode_9a6ad 1 (some .boolean)) B.pre
  have hts : ∀ w ∈ m_tbl, w.before [.int x].toArray s = true := fun w hw => hts0 w (List.mem_cons_of_mem _ hw)
  have hown : s.vm.findClass RJ1 = some m.cls := findClass_of_methodNamed B.named
  have hS : va_S (fun _ => False) s.heap s.heap [] := va_S.rf
  have hl := lv_entry ([.int x]) (n := 1) (Nat.le_of_ble_eq_true rfl)
  rw [show ([.int x] : List Value).toArray = ([.int x] : List Value).toArray from rfl, lg_entry_eq]
  generalize (lg_sl ([.int x]) ++ List.replicate (1 - (lg_sl ([.int x])).length) Slot.unset).toArray = ls at hl ⊢
  have hl : lv_has ls 1 [(0, .int x)] := hl
  refine lv_iload_n hx hb eJ1_canEncode_9a6ad_0 rfl (lv_at hl 0 rfl) ?_
  refine lv_if_lt (tgt := 15) hx hb eJ1_canEncode_9a6ad_1 (by decide) (fun q => ?_) (fun q => ?_)
  · rw [if_pos q]
    refine lv_iconst (v := 0) hx hb eJ1_canEncode_9a6ad_15 (by decide) ?_
    exact W.zret (ty := .boolean) hx hb hr rfl (fun t ht hW => ⟨rfl, ht⟩) (fun q h => by cases h) eJ1_canEncode_9a6ad_16
  · rw [if_neg q]
    refine lv_iload_n hx hb eJ1_canEncode_9a6ad_4 rfl (lv_at hl 0 rfl) ?_
    refine lv_sipush (v := 255) hx hb eJ1_canEncode_9a6ad_5 (by decide) ?_
    refine lv_icmp_gt (tgt := 15) hx hb eJ1_canEncode_9a6ad_8 (by decide) (fun q2 => ?_) (fun q2 => ?_)
    · rw [if_pos q2]
      refine lv_iconst (v := 0) hx hb eJ1_canEncode_9a6ad_15 (by decide) ?_
      exact W.zret (ty := .boolean) hx hb hr rfl (fun t ht hW => ⟨rfl, ht⟩) (fun q h => by cases h) eJ1_canEncode_9a6ad_16
    · rw [if_neg q2]
      refine lv_iconst (v := 1) hx hb eJ1_canEncode_9a6ad_11 (by decide) ?_
      refine lv_goto (tgt := 16) hx hb eJ1_canEncode_9a6ad_12 (by decide) ?_
      exact W.zret (ty := .boolean) hx hb hr rfl (fun t ht hW => ⟨rfl, ht⟩) (fun q h => by cases h) eJ1_canEncode_9a6ad_16
theorem m_ix_none {c : Int32} : ∀ (l : List Nat) (k : Nat), (∀ b ∈ l, c ≠ nI b) → m_ix c l k = -1 := by
  intro l
  induction l with
  | nil => intro k _; rfl
  | cons b l ih =>
    intro k h
    rw [m_ix, if_neg (h b List.mem_cons_self)]
    exact ih (k + 1) (fun b' hb => h b' (List.mem_cons_of_mem _ hb))
theorem m_ix_drop {c : Int32} {l : List Nat} {k : Nat} (hk : k < l.length) : m_ix c (l.drop k) k = if c = nI (l.getD k 0) then nI k else m_ix c (l.drop (k + 1)) (k + 1) := by
  have h1 : l.drop k = l.getD k 0 :: l.drop (k + 1) := by
    rw [List.drop_eq_getElem_cons hk]
    congr 1
    simp [List.getD, hk]
  rw [h1, m_ix]
theorem m_i8 : ∀ n, n < 256 → ∀ b, b < 128 → ((nI n).toInt8.toInt32 = nI b ↔ n = b) := by decide +kernel
set_option maxHeartbeats 4000000 in
set_option maxRecDepth 100000 in
theorem jm_ixc (G : m_GT) (j t x : Nat) (hj : j < 2) (hx0 : x < 256) (l : Launch) : Met l yJ1_indexOfChar_4cfef (m_wj yJ1_indexOfChar_4cfef cJ1_indexOfChar_4cfef 6 (some .int)) (m_rj 0 0) (fun v U => v = [.ref t, .int (nI x), .int 0, .int (nI (m_chs j).length)].toArray ∧ m_Od G U ∧ m_Tx G j t U) (k2_QcV (.int (m_ix (nI x) (m_chs j) 0))) 0 0 (fun _ => False) := by
  refine va_MetF (cc := cJ1_indexOfChar_4cfef) (maxL := 6) (ret := (some .int)) (by decide +kernel) rfl ?_
  intro p e s m args below meth c s₁ B hml hv
  obtain ⟨rfl, hO, hT⟩ := hv
  have hx := B.exec
  have hb := B.bytes
  have hr := B.returns
  have hlocks := B.notSynchronized
  have hts0 := atoms_spec (ws := m_wj yJ1_indexOfChar_4cfef cJ1_indexOfChar_4cfef 6 (some .int)) B.pre
  have hts : ∀ w ∈ m_tbl, w.before [.ref t, .int (nI x), .int 0, .int (nI (m_chs j).length)].toArray s = true := fun w hw => hts0 w (List.mem_cons_of_mem _ hw)
  have hown : s.vm.findClass RJ1 = some m.cls := findClass_of_methodNamed B.named
  have hS : va_S (fun _ => False) s.heap s.heap [] := va_S.rf
  have hl := lv_entry ([.ref t, .int (nI x), .int 0, .int (nI (m_chs j).length)]) (n := 6) (Nat.le_of_ble_eq_true rfl)
  rw [show ([.ref t, .int (nI x), .int 0, .int (nI (m_chs j).length)] : List Value).toArray = ([.ref t, .int (nI x), .int 0, .int (nI (m_chs j).length)] : List Value).toArray from rfl, lg_entry_eq]
  generalize (lg_sl ([.ref t, .int (nI x), .int 0, .int (nI (m_chs j).length)]) ++ List.replicate (6 - (lg_sl ([.ref t, .int (nI x), .int 0, .int (nI (m_chs j).length)])).length) Slot.unset).toArray = ls at hl ⊢
  have hl : lv_has ls 6 [(0, .ref t), (1, .int (nI x)), (2, .int 0), (3, .int (nI (m_chs j).length))] := hl
  have hSA : va_S (m_A G) s.heap s.heap [] := va_S.rf
  have hlen := m_len_lt j hj
  have hT' : va_T .byte t (m_lenS.getD j 0) (fun i => .int ((m_bytS.getD j []).getD i 0)) (m_A G) s s.heap := hT
  rw [m_lenS_ok j hj] at hT'
  refine lv_iload_n hx hb eJ1_indexOfChar_4cfef_0 rfl (lv_at hl 1 rfl) ?_
  refine lv_i2b (v := (nI x).toInt8.toInt32) hx hb eJ1_indexOfChar_4cfef_1 rfl ?_
  refine lv_istore (lv' := [(4, .int (nI x).toInt8.toInt32), (0, .ref t), (1, .int (nI x)), (2, .int 0), (3, .int (nI (m_chs j).length))]) hx hb eJ1_indexOfChar_4cfef_2 hl (by decide) rfl (fun ls hl => ?_)
  refine lv_iload_n hx hb eJ1_indexOfChar_4cfef_4 rfl (lv_at hl 3 rfl) ?_
  refine lv_istore (lv' := [(5, .int 0), (4, .int (nI x).toInt8.toInt32), (0, .ref t), (1, .int (nI x)), (2, .int 0), (3, .int (nI (m_chs j).length))]) hx hb eJ1_indexOfChar_4cfef_5 hl (by decide) rfl (fun ls hl => ?_)
  have loop : ∀ (n i : Nat), i ≤ (m_chs j).length → (m_chs j).length - i < n → m_ix (nI x) (m_chs j) 0 = m_ix (nI x) ((m_chs j).drop i) i → ∀ (ls : Array Slot), lv_has ls 6 [(5, .int (nI i)), (4, .int (nI x).toInt8.toInt32), (0, .ref t), (1, .int (nI x)), (2, .int 0), (3, .int (nI (m_chs j).length))] → W p l e (headSpec (m_wj yJ1_indexOfChar_4cfef cJ1_indexOfChar_4cfef 6 (some .int)) (m_rj 0 0)).room s m ([.ref t, .int (nI x), .int 0, .int (nI (m_chs j).length)] : List Value).toArray below meth c s.heap [] 0 0 (MQ below (k2_QcV (.int (m_ix (nI x) (m_chs j) 0))) ([.ref t, .int (nI x), .int 0, .int (nI (m_chs j).length)] : List Value).toArray s 0 0 (fun _ => False)) (F0 m 7 ls []) := by
    intro n
    induction n with
    | zero => intro i h1 h2; exact absurd h2 (by omega)
    | succ n ih =>
      intro i h1 h2 h3 ls hl
      refine lv_iload hx hb eJ1_indexOfChar_4cfef_7 (lv_at hl 0 rfl) ?_
      refine lv_iload_n hx hb eJ1_indexOfChar_4cfef_9 rfl (lv_at hl 5 rfl) ?_
      refine lv_icmp_ge (tgt := 31) hx hb eJ1_indexOfChar_4cfef_10 (by decide) (fun q => ?_) (fun q => ?_)
      · have hi : i = (m_chs j).length := by
          apply Classical.byContradiction
          intro z
          exact nI_ge (show i < (m_chs j).length by omega) (by omega) q
        rw [h3, hi, List.drop_length]
        refine lv_iconst (v := -1) hx hb eJ1_indexOfChar_4cfef_31 (by decide) ?_
        exact W.iret hx hb hr (fun t ht hW => ⟨rfl, ht⟩) (fun q h => by cases h) eJ1_indexOfChar_4cfef_32
      · have hi : i < (m_chs j).length := by
          apply Classical.byContradiction
          intro z
          exact q (nI_le (show (m_chs j).length ≤ i by omega) (by omega))
        have hch := m_chs_lt j hj i hi
        have hcl : (nI i).toNatClampNeg = i := nI_clamp (by omega)
        have hv : (fun i => Value.int ((m_bytS.getD j []).getD i 0)) (nI i).toNatClampNeg = .int (nI ((m_chs j).getD i 0)) := by
          dsimp only
          rw [hcl, m_bytS_ok j hj i hi]
        refine lv_aload_n hx hb eJ1_indexOfChar_4cfef_13 rfl (lv_at hl 2 rfl) ?_
        refine lv_iload hx hb eJ1_indexOfChar_4cfef_14 (lv_at hl 0 rfl) ?_
        refine va_tb hx hb hT' hSA (vp_in_nI hi (by omega)) hv eJ1_indexOfChar_4cfef_16 ?_
        refine lv_iload hx hb eJ1_indexOfChar_4cfef_17 (lv_at hl 1 rfl) ?_
        rw [m_ix_drop hi] at h3
        refine lv_icmp_ne (tgt := 25) hx hb eJ1_indexOfChar_4cfef_19 (by decide) (fun q => ?_) (fun q => ?_)
        · have hne : ¬ nI x = nI ((m_chs j).getD i 0) := by
            intro z
            have z2 : x = (m_chs j).getD i 0 := (nI_eq (by omega) (by omega)).mp z
            exact q ((m_i8 x hx0 _ hch).mpr z2).symm
          rw [if_neg hne] at h3
          refine lv_iinc (k := 0) (v := nI (i + 1)) (lv' := [(5, .int (nI (i + 1))), (4, .int (nI x).toInt8.toInt32), (0, .ref t), (1, .int (nI x)), (2, .int 0), (3, .int (nI (m_chs j).length))]) hx hb eJ1_indexOfChar_4cfef_25 hl rfl (nI_1 i) (by decide) rfl (fun ls hl => ?_)
          refine lv_goto (tgt := 7) hx hb eJ1_indexOfChar_4cfef_28 (by decide) ?_
          exact ih (i + 1) (by omega) (by omega) h3 ls hl
        · have heq : nI x = nI ((m_chs j).getD i 0) := by
            rw [(m_i8 x hx0 _ hch).mp q.symm]
          rw [if_pos heq] at h3
          rw [h3]
          refine lv_iload hx hb eJ1_indexOfChar_4cfef_22 (lv_at hl 0 rfl) ?_
          exact W.iret hx hb hr (fun t ht hW => ⟨rfl, ht⟩) (fun q h => by cases h) eJ1_indexOfChar_4cfef_24
  exact loop ((m_chs j).length + 1) 0 (Nat.zero_le _) (by omega) rfl ls hl
theorem m_len_pos : ∀ j, j < 2 → 0 < (m_chs j).length := by decide +kernel
theorem m_ch_mem : ∀ j, j < 2 → ∀ b ∈ m_chs j, b < 128 := by decide +kernel
set_option maxHeartbeats 4000000 in
set_option maxRecDepth 100000 in
theorem jm_l1i (G : m_GT) (j t : Nat) (x : Int32) (hj : j < 2) (l : Launch) : Met l yJ1_indexOf_4cfef (m_wj yJ1_indexOf_4cfef cJ1_indexOf_4cfef 4 (some .int)) (m_rj 1 25) (fun v U => v = [.ref t, .int x, .int 0, .int (nI (m_chs j).length)].toArray ∧ m_Od G U ∧ m_Tx G j t U) (k2_QcV (.int (m_ix x (m_chs j) 0))) 0 0 (fun _ => False) := by
  refine va_MetF (cc := cJ1_indexOf_4cfef) (maxL := 4) (ret := (some .int)) (by decide +kernel) rfl ?_
  intro p e s m args below meth c s₁ B hml hv
  obtain ⟨rfl, hO, hT⟩ := hv
  have hx := B.exec
  have hb := B.bytes
  have hr := B.returns
  have hlocks := B.notSynchronized
  have hts0 := atoms_spec (ws := m_wj yJ1_indexOf_4cfef cJ1_indexOf_4cfef 4 (some .int)) B.pre
  have hts : ∀ w ∈ m_tbl, w.before [.ref t, .int x, .int 0, .int (nI (m_chs j).length)].toArray s = true := fun w hw => hts0 w (List.mem_cons_of_mem _ hw)
  have hown : s.vm.findClass RJ1 = some m.cls := findClass_of_methodNamed B.named
  have hS : va_S (fun _ => False) s.heap s.heap [] := va_S.rf
  have hl := lv_entry ([.ref t, .int x, .int 0, .int (nI (m_chs j).length)]) (n := 4) (Nat.le_of_ble_eq_true rfl)
  rw [show ([.ref t, .int x, .int 0, .int (nI (m_chs j).length)] : List Value).toArray = ([.ref t, .int x, .int 0, .int (nI (m_chs j).length)] : List Value).toArray from rfl, lg_entry_eq]
  generalize (lg_sl ([.ref t, .int x, .int 0, .int (nI (m_chs j).length)]) ++ List.replicate (4 - (lg_sl ([.ref t, .int x, .int 0, .int (nI (m_chs j).length)])).length) Slot.unset).toArray = ls at hl ⊢
  have hl : lv_has ls 4 [(0, .ref t), (1, .int x), (2, .int 0), (3, .int (nI (m_chs j).length))] := hl
  have hSA : va_S (m_A G) s.heap s.heap [] := va_S.rf
  have hlen := m_len_lt j hj
  have hpos := m_len_pos j hj
  have hT' : va_T .byte t (m_lenS.getD j 0) (fun i => .int ((m_bytS.getD j []).getD i 0)) (m_A G) s s.heap := hT
  rw [m_lenS_ok j hj] at hT'
  refine lv_iload_n hx hb eJ1_indexOf_4cfef_0 rfl (lv_at hl 1 rfl) ?_
  refine W.callV (r := .int (if x < 0 then 0 else if 255 < x then 0 else 1)) (W.runS (As := [.int x]) (rest := []) (Ts := m_tbl) ⟨hx, hb, hml, hown, hts⟩ (jm_can x l) (va_cwS 1 hts jg_J1_canEncode_9a6ad rfl rfl rfl ⟨by decide +kernel, by decide +kernel, by decide +kernel⟩ ⟨Nat.le_of_ble_eq_true rfl, Nat.le_of_ble_eq_true rfl⟩) ⟨fun _ _ _ _ q => q, fun U hU hW => ⟨rfl, trivial⟩⟩ rfl rfl hl.1 rfl (lv_room (Nat.le_of_ble_eq_true rfl)) eJ1_indexOf_4cfef_1 ⟨Nat.zero_le _, Nat.zero_le _⟩) ?_
  refine W.eq (g2 := F0 m 4 ls [.int (if x < 0 then 0 else if 255 < x then 0 else 1)]) rfl ?_
  have small : ∀ b ∈ m_chs j, x = nI b → ¬ x < 0 ∧ ¬ 255 < x := by
    intro b hb0 he
    have hb1 := m_ch_mem j hj b hb0
    rw [he]
    exact ⟨nI_pos (by omega), nI_nlt (a := 255) (b := b) (by omega) (by omega)⟩
  refine lv_if_ne (tgt := 9) hx hb eJ1_indexOf_4cfef_4 (by decide) (fun q => ?_) (fun q => ?_)
  · have hx0 : ¬ x < 0 := fun z => q (by rw [if_pos z])
    have hx1 : ¬ 255 < x := fun z => q (by rw [if_neg hx0, if_pos z])
    obtain ⟨xn, hxn, rfl⟩ := nI_of hx0
    have hxs : xn < 256 := by
      apply Classical.byContradiction
      intro z
      exact hx1 (nI_lt (a := 255) (b := xn) (by omega) (by omega))
    refine lv_iload_n hx hb eJ1_indexOf_4cfef_9 rfl (lv_at hl 2 rfl) ?_
    refine lv_iconst (v := 0) hx hb eJ1_indexOf_4cfef_10 (by decide) ?_
    refine va_mmax hx hb (by rw [hml]; exact hl.1.symm) hown (hts _ jw32) (hts _ jw33) (hts _ jw34) (hts _ jmx) (Nat.le_of_ble_eq_true rfl) (Nat.le_of_ble_eq_true rfl) (Nat.zero_le _) (Nat.zero_le _) eJ1_indexOf_4cfef_11 ?_
    refine lv_istore_n (lv' := [(2, .int 0), (0, .ref t), (1, .int (nI xn)), (3, .int (nI (m_chs j).length))]) hx hb eJ1_indexOf_4cfef_14 rfl hl (by decide) rfl (fun ls hl => ?_)
    refine lv_iload_n hx hb eJ1_indexOf_4cfef_15 rfl (lv_at hl 3 rfl) ?_
    refine lv_aload_n hx hb eJ1_indexOf_4cfef_16 rfl (lv_at hl 1 rfl) ?_
    refine va_tlen (v := nI (m_chs j).length) hx hb hT' hSA rfl eJ1_indexOf_4cfef_17 ?_
    refine va_mmin hx hb (by rw [hml]; exact hl.1.symm) hown (hts _ jw35) (hts _ jw36) (hts _ jw34) (hts _ jmn) (Nat.le_of_ble_eq_true rfl) (Nat.le_of_ble_eq_true rfl) (Nat.zero_le _) (Nat.zero_le _) eJ1_indexOf_4cfef_18 ?_
    rw [ite_self]
    refine lv_istore_n (lv' := [(3, .int (nI (m_chs j).length)), (2, .int 0), (0, .ref t), (1, .int (nI xn))]) hx hb eJ1_indexOf_4cfef_21 rfl hl (by decide) rfl (fun ls hl => ?_)
    refine lv_iload_n hx hb eJ1_indexOf_4cfef_22 rfl (lv_at hl 1 rfl) ?_
    refine lv_iload_n hx hb eJ1_indexOf_4cfef_23 rfl (lv_at hl 0 rfl) ?_
    refine lv_icmp_lt (tgt := 29) hx hb eJ1_indexOf_4cfef_24 (by decide) (fun _ => ?_) (fun z => absurd (nI_lt (a := 0) hpos (by omega)) z)
    refine lv_aload_n hx hb eJ1_indexOf_4cfef_29 rfl (lv_at hl 2 rfl) ?_
    refine lv_iload_n hx hb eJ1_indexOf_4cfef_30 rfl (lv_at hl 3 rfl) ?_
    refine lv_iload_n hx hb eJ1_indexOf_4cfef_31 rfl (lv_at hl 1 rfl) ?_
    refine lv_iload_n hx hb eJ1_indexOf_4cfef_32 rfl (lv_at hl 0 rfl) ?_
    refine W.callV (r := .int (m_ix (nI xn) (m_chs j) 0)) (W.runS (As := [.ref t, .int (nI xn), .int 0, .int (nI (m_chs j).length)]) (rest := []) (Ts := m_tbl) ⟨hx, hb, hml, hown, hts⟩ (jm_ixc G j t xn hj hxs l) (va_cwS 4 hts jg_J1_indexOfChar_4cfef rfl rfl rfl ⟨by decide +kernel, by decide +kernel, by decide +kernel⟩ ⟨Nat.le_of_ble_eq_true rfl, Nat.le_of_ble_eq_true rfl⟩) ⟨fun _ _ _ _ q => ⟨q.1, q.2.1.blind, va_T.moved (Vm.Alike.refl _) q.2.2⟩, fun U hU hW => ⟨rfl, hO.at hU hW, m_Tx.at hT hU hW⟩⟩ rfl rfl hl.1 rfl (lv_room (Nat.le_of_ble_eq_true rfl)) eJ1_indexOf_4cfef_33 ⟨Nat.zero_le _, Nat.zero_le _⟩) ?_
    exact W.iret hx hb hr (fun t ht hW => ⟨rfl, ht⟩) (fun q h => by cases h) eJ1_indexOf_4cfef_36
  · have hnone : m_ix x (m_chs j) 0 = -1 := m_ix_none _ 0 (fun b hb0 he => by
      obtain ⟨z1, z2⟩ := small b hb0 he
      rw [if_neg z1, if_neg z2] at q
      exact absurd q (by decide))
    rw [hnone]
    refine lv_iconst (v := -1) hx hb eJ1_indexOf_4cfef_7 (by decide) ?_
    exact W.iret hx hb hr (fun t ht hW => ⟨rfl, ht⟩) (fun q h => by cases h) eJ1_indexOf_4cfef_8
set_option maxHeartbeats 4000000 in
set_option maxRecDepth 100000 in
theorem jm_six (G : m_GT) (j : Nat) (x : Int32) (hj : j < 2) (l : Launch) : Met l yJ0_indexOf_7cf53 (m_wj yJ0_indexOf_7cf53 cJ0_indexOf_7cf53 3 (some .int)) (m_rj 2 48) (fun v U => v = [.ref (G.2.1 j), .int x, .int 0].toArray ∧ m_Od G U) (k2_QcV (.int (m_ix x (m_chs j) 0))) 0 0 (fun _ => False) := by
  refine va_MetF (cc := cJ0_indexOf_7cf53) (maxL := 3) (ret := (some .int)) (by decide +kernel) rfl ?_
  intro p e s m args below meth c s₁ B hml hv
  obtain ⟨rfl, hO⟩ := hv
  have hx := B.exec
  have hb := B.bytes
  have hr := B.returns
  have hlocks := B.notSynchronized
  have hts0 := atoms_spec (ws := m_wj yJ0_indexOf_7cf53 cJ0_indexOf_7cf53 3 (some .int)) B.pre
  have hts : ∀ w ∈ m_tbl, w.before [.ref (G.2.1 j), .int x, .int 0].toArray s = true := fun w hw => hts0 w (List.mem_cons_of_mem _ hw)
  have hown : s.vm.findClass RJ0 = some m.cls := findClass_of_methodNamed B.named
  have hS : va_S (fun _ => False) s.heap s.heap [] := va_S.rf
  have hl := lv_entry ([.ref (G.2.1 j), .int x, .int 0]) (n := 3) (Nat.le_of_ble_eq_true rfl)
  rw [show ([.ref (G.2.1 j), .int x, .int 0] : List Value).toArray = ([.ref (G.2.1 j), .int x, .int 0] : List Value).toArray from rfl, lg_entry_eq]
  generalize (lg_sl ([.ref (G.2.1 j), .int x, .int 0]) ++ List.replicate (3 - (lg_sl ([.ref (G.2.1 j), .int x, .int 0])).length) Slot.unset).toArray = ls at hl ⊢
  have hl : lv_has ls 3 [(0, .ref (G.2.1 j)), (1, .int x), (2, .int 0)] := hl
  have hSA : va_S (m_A G) s.heap s.heap [] := va_S.rf
  obtain ⟨adV, hVS⟩ := hO.str
  obtain ⟨hE1, hE2, hE3, hE4⟩ := hVS.1 j hj
  refine lv_aload_n hx hb eJ0_indexOf_7cf53_0 rfl (lv_at hl 0 rfl) ?_
  refine W.callV (r := .int 1) (W.runV (As := []) (b := G.2.1 j) (C := RJ0) (rest := []) (Ts := m_tbl) ⟨hx, hb, hml, hown, hts⟩ (jm_isl G j hj l) (cwV 0 hts jg_J0_isLatin1_aae02 rfl rfl rfl ⟨by decide +kernel, by decide +kernel, by decide +kernel, by decide +kernel⟩ ⟨Nat.le_of_ble_eq_true rfl, Nat.le_of_ble_eq_true rfl⟩) ⟨fun _ _ _ _ q => ⟨q.1, q.2.blind⟩, vk_recv hVS hj hSA, fun U hU hW => ⟨rfl, hO.at hU hW⟩⟩ rfl rfl hl.1 rfl (lv_room (Nat.le_of_ble_eq_true rfl)) eJ0_indexOf_7cf53_1 ⟨Nat.zero_le _, Nat.zero_le _⟩) ?_
  refine W.eq (g2 := F0 m 4 ls [.int 1]) rfl ?_
  refine lv_if_eq (tgt := 23) hx hb eJ0_indexOf_7cf53_4 (by decide) (fun q => absurd q (by decide)) (fun _ => ?_)
  refine lv_aload_n hx hb eJ0_indexOf_7cf53_7 rfl (lv_at hl 0 rfl) ?_
  refine vk_getf (ref := "java/lang/String") hx hb hE3 hSA hown (hts _ jw1) (fun _ h9 => h9) eJ0_indexOf_7cf53_8 ?_
  refine lv_iload_n hx hb eJ0_indexOf_7cf53_11 rfl (lv_at hl 1 rfl) ?_
  refine lv_iload_n hx hb eJ0_indexOf_7cf53_12 rfl (lv_at hl 2 rfl) ?_
  refine lv_aload_n hx hb eJ0_indexOf_7cf53_13 rfl (lv_at hl 0 rfl) ?_
  refine W.callV (r := .int (nI (m_chs j).length)) (W.runV (As := []) (b := G.2.1 j) (C := RJ0) (rest := [.int 0, .int x, .ref (adV j)]) (Ts := m_tbl) ⟨hx, hb, hml, hown, hts⟩ (jm_len G j hj l) (cwV 0 hts jg_J0_length_8abf5 rfl rfl rfl ⟨by decide +kernel, by decide +kernel, by decide +kernel, by decide +kernel⟩ ⟨Nat.le_of_ble_eq_true rfl, Nat.le_of_ble_eq_true rfl⟩) ⟨fun _ _ _ _ q => ⟨q.1, q.2.blind⟩, vk_recv hVS hj hSA, fun U hU hW => ⟨rfl, hO.at hU hW⟩⟩ rfl rfl hl.1 rfl (lv_room (Nat.le_of_ble_eq_true rfl)) eJ0_indexOf_7cf53_14 ⟨Nat.zero_le _, Nat.zero_le _⟩) ?_
  refine W.callV (r := .int (m_ix x (m_chs j) 0)) (W.runS (As := [.ref (adV j), .int x, .int 0, .int (nI (m_chs j).length)]) (rest := []) (Ts := m_tbl) ⟨hx, hb, hml, hown, hts⟩ (jm_l1i G j (adV j) x hj l) (va_cwS 4 hts jg_J1_indexOf_4cfef rfl rfl rfl ⟨by decide +kernel, by decide +kernel, by decide +kernel⟩ ⟨Nat.le_of_ble_eq_true rfl, Nat.le_of_ble_eq_true rfl⟩) ⟨fun _ _ _ _ q => ⟨q.1, q.2.1.blind, va_T.moved (Vm.Alike.refl _) q.2.2⟩, fun U hU hW => ⟨rfl, hO.at hU hW, m_Tx.at hE4 hU hW⟩⟩ rfl rfl hl.1 rfl (lv_room (Nat.le_of_ble_eq_true rfl)) eJ0_indexOf_7cf53_17 ⟨Nat.zero_le _, Nat.zero_le _⟩) ?_
  refine W.eq (g2 := F0 m 20 ls [.int (m_ix x (m_chs j) 0)]) rfl ?_
  refine lv_goto (tgt := 36) hx hb eJ0_indexOf_7cf53_20 (by decide) ?_
  exact W.iret hx hb hr (fun t ht hW => ⟨rfl, ht⟩) (fun q h => by cases h) eJ0_indexOf_7cf53_36
set_option maxHeartbeats 4000000 in
set_option maxRecDepth 100000 in
theorem jm_si (G : m_GT) (j : Nat) (x : Int32) (hj : j < 2) (l : Launch) : Met l yJ0_indexOf_0f7a4 (m_wj yJ0_indexOf_0f7a4 cJ0_indexOf_0f7a4 2 (some .int)) (m_rj 3 70) (fun v U => v = [.ref (G.2.1 j), .int x].toArray ∧ m_Od G U) (k2_QcV (.int (m_ix x (m_chs j) 0))) 0 0 (fun _ => False) := by
  refine va_MetF (cc := cJ0_indexOf_0f7a4) (maxL := 2) (ret := (some .int)) (by decide +kernel) rfl ?_
  intro p e s m args below meth c s₁ B hml hv
  obtain ⟨rfl, hO⟩ := hv
  have hx := B.exec
  have hb := B.bytes
  have hr := B.returns
  have hlocks := B.notSynchronized
  have hts0 := atoms_spec (ws := m_wj yJ0_indexOf_0f7a4 cJ0_indexOf_0f7a4 2 (some .int)) B.pre
  have hts : ∀ w ∈ m_tbl, w.before [.ref (G.2.1 j), .int x].toArray s = true := fun w hw => hts0 w (List.mem_cons_of_mem _ hw)
  have hown : s.vm.findClass RJ0 = some m.cls := findClass_of_methodNamed B.named
  have hS : va_S (fun _ => False) s.heap s.heap [] := va_S.rf
  have hl := lv_entry ([.ref (G.2.1 j), .int x]) (n := 2) (Nat.le_of_ble_eq_true rfl)
  rw [show ([.ref (G.2.1 j), .int x] : List Value).toArray = ([.ref (G.2.1 j), .int x] : List Value).toArray from rfl, lg_entry_eq]
  generalize (lg_sl ([.ref (G.2.1 j), .int x]) ++ List.replicate (2 - (lg_sl ([.ref (G.2.1 j), .int x])).length) Slot.unset).toArray = ls at hl ⊢
  have hl : lv_has ls 2 [(0, .ref (G.2.1 j)), (1, .int x)] := hl
  have hSA : va_S (m_A G) s.heap s.heap [] := va_S.rf
  obtain ⟨adV, hVS⟩ := hO.str
  obtain ⟨hE1, hE2, hE3, hE4⟩ := hVS.1 j hj
  refine lv_aload_n hx hb eJ0_indexOf_0f7a4_0 rfl (lv_at hl 0 rfl) ?_
  refine lv_iload_n hx hb eJ0_indexOf_0f7a4_1 rfl (lv_at hl 1 rfl) ?_
  refine lv_iconst (v := 0) hx hb eJ0_indexOf_0f7a4_2 (by decide) ?_
  refine W.callV (r := .int (m_ix x (m_chs j) 0)) (W.runV (As := [.int x, .int 0]) (b := G.2.1 j) (C := RJ0) (rest := []) (Ts := m_tbl) ⟨hx, hb, hml, hown, hts⟩ (jm_six G j x hj l) (cwV 2 hts jg_J0_indexOf_7cf53 rfl rfl rfl ⟨by decide +kernel, by decide +kernel, by decide +kernel, by decide +kernel⟩ ⟨Nat.le_of_ble_eq_true rfl, Nat.le_of_ble_eq_true rfl⟩) ⟨fun _ _ _ _ q => ⟨q.1, q.2.blind⟩, vk_recv hVS hj hSA, fun U hU hW => ⟨rfl, hO.at hU hW⟩⟩ rfl rfl hl.1 rfl (lv_room (Nat.le_of_ble_eq_true rfl)) eJ0_indexOf_0f7a4_3 ⟨Nat.zero_le _, Nat.zero_le _⟩) ?_
  exact W.iret hx hb hr (fun t ht hW => ⟨rfl, ht⟩) (fun q h => by cases h) eJ0_indexOf_0f7a4_6
theorem jw37 : Cond.instanceMethod yJ0_charAt_5068e ∈ m_tbl := m_in (List.mem_of_getElem? (i := 89) (by decide +kernel)) rfl
theorem jw38 : Cond.selects RJ0 yJ0_charAt_5068e yJ0_charAt_5068e ∈ m_tbl := m_in (List.mem_of_getElem? (i := 90) (by decide +kernel)) rfl
theorem jw39 : Cond.instanceMethod yJ0_indexOf_0f7a4 ∈ m_tbl := m_in (List.mem_of_getElem? (i := 249) (by decide +kernel)) rfl
theorem jw40 : Cond.selects RJ0 yJ0_indexOf_0f7a4 yJ0_indexOf_0f7a4 ∈ m_tbl := m_in (List.mem_of_getElem? (i := 250) (by decide +kernel)) rfl
/-- the row: a call of a String's own method on one of the two constants -/
def m_strY (z : Nat) : MethodName := bif Nat.beq z 1000 then yJ0_length_8abf5 else bif Nat.beq z 1001 then yJ0_charAt_5068e else yJ0_indexOf_0f7a4
section MSTR
variable {p : Program} {l : Launch} {e : Env} {R : Room} {s : State} {m : MethodId} {args : Array Value} {below : List Frame} {meth : Method} {c : Code} {H : Heap} {locs : List Loc} {cells slots : Nat} {Q : State → Prop} {G : m_GT} {y : Nat}
theorem m_Wst1 (F : m_Fr p G y R s m args meth c) {h : MH} {j idx pc n : Nat} {as r : List Value} {x : Int32} {lsA : Array Slot} {yy : MethodName} {bb : ByteArray} {mL : Nat} {rt : Option FieldType} {rf rl : Nat} {i0 : Nat} (hR : m_Rel G h H) (hS : va_S (m_A G) s.heap H locs) (hsz : lsA.size = m_maxL y) (hj : j < 2)
    (hM : Met l yy (m_wj yy bb mL rt) (m_rj rf rl) (fun v U => v = (.ref (G.2.1 j) :: as.map (m_tv G)).toArray ∧ m_Od G U) (k2_QcV (.int x)) 0 0 (fun _ => False)) (hold : G.2.2.2.2.size = G.1) (hcode : lw_tbl[i0]? = some (.code yy bb mL rt)) (hcls : yy.cls = RJ0) (hi : Cond.instanceMethod yy ∈ m_tbl) (hse : Cond.selects RJ0 yy yy ∈ m_tbl) (hnp : (parseMethodDescriptor yy.desc).map (fun d => d.parameters.length) = some n) (hn : as.length = n)
    (hlink : Cond.methodLink (m_own y) idx yy ∈ m_tbl) (hr : ((r.map (m_tv G)).map fun v => v.category).sum ≤ 8) (hfr : rf + 1 ≤ m_frm y) (hlo : 8 + (mL + 11) + rl ≤ m_loc y) (hd : decode (m_bytes y) pc = .ok (.invokevirtual idx, 3))
    (kk : W p l e R s m args below meth c H locs cells slots Q (F0 m (pc + 3) lsA (.int x :: r.map (m_tv G)))) (hcl : cells ≤ R.cells) (hsl : slots ≤ R.slots) : W p l e R s m args below meth c H locs cells slots Q (F0 m pc lsA ((as.map (m_tv G)).reverse ++ .ref (G.2.1 j) :: r.map (m_tv G))) := by
  obtain ⟨hx, hb, hml, hrt, hlocks, hnm, hown, hts, hK, hbase, hfr0, hlo0⟩ := F
  have hO : ∀ U : State, U.heap = H → s.WarmedH U.vm → m_Od G U := fun U hU hW => ⟨m_KS.warm hW hK, hold, by rw [hU, hR.1]; omega, by rw [hU]; exact hR.2.2⟩
  obtain ⟨adV, hVS⟩ := hK.2.2.1
  have hrecv : ∃ cell : Cell, H[G.2.1 j]? = some cell ∧ cell.vm.isStatics = false ∧ s.vm.findClass "java/lang/String" = some cell.cls := by
    obtain ⟨cell, h1, h2, h3, -⟩ := (hVS.1 j hj).1.kept (H1 := H) (fun a h1 _ => hR.2.2 a (by rw [← hold]; exact h1))
    exact ⟨cell, h1, h2, h3⟩
  refine W.callV (r := .int x) (W.runV (As := as.map (m_tv G)) (b := G.2.1 j) (C := RJ0) (rest := r.map (m_tv G)) (Ts := m_tbl) (n := n) (index := idx) ⟨hx, hb, hml, hown, hts⟩ hM (cwV n hts ?_ rfl rfl rfl ⟨hcls, by rw [hcls]; decide +kernel, by rw [hcls]; decide +kernel, hnp⟩ ⟨Nat.le_trans hfr hfr0, Nat.le_trans hlo hlo0⟩) ⟨fun _ _ _ _ q => ⟨q.1, q.2.blind⟩, hrecv, fun U hU hW => ⟨rfl, hO U hU hW⟩⟩ rfl (by rw [List.length_map]; exact hn) hsz rfl (lv_room hr) hd ⟨hcl, hsl⟩) kk
  intro w hw
  unfold wsV at hw
  rcases List.mem_append.mp hw with hw | hw
  · simp only [List.mem_cons, List.not_mem_nil, or_false] at hw
    rcases hw with rfl | rfl | rfl | rfl
    · exact ⟨hlink, Or.inl rfl⟩
    · exact ⟨hi, Or.inl rfl⟩
    · exact ⟨hse, Or.inl rfl⟩
    · exact ⟨jw8, Or.inl rfl⟩
  · exact m_good_wj hcode w hw
theorem m_str_inv {q j : Nat} {as : List Value} {x : Int32} (h : m_str q j as = some x) : (q = 0 ∧ x = nI (m_chs j).length) ∨ (q = 1 ∧ ∃ i : Nat, i < (m_chs j).length ∧ as = [.int (nI i)] ∧ x = nI ((m_chs j).getD i 0)) ∨ (q = 2 ∧ ∃ z, as = [.int z] ∧ x = m_ix z (m_chs j) 0) := by
  unfold m_str at h
  cases hb : Nat.blt j 2 with
  | false => rw [hb] at h; cases h
  | true =>
    rw [hb] at h
    simp only [cond_true] at h
    have hj : j < 2 := by rwa [Nat.blt_eq] at hb
    split at h
    · cases h; exact Or.inl ⟨rfl, rfl⟩
    · split at h
      · rename_i i
        split at h
        · cases h
        · rename_i hi
          cases h
          obtain ⟨k, hk, rfl⟩ := vp_in_of (x := i) (n := (m_chs j).length) hi (by have := m_len_lt j hj; omega)
          refine Or.inr (Or.inl ⟨rfl, k, hk, rfl, ?_⟩)
          rw [nI_clamp (by have := m_len_lt j hj; omega)]
      · cases h
    · split at h
      · rename_i z
        cases h
        exact Or.inr (Or.inr ⟨rfl, z, rfl, rfl⟩)
      · cases h
    · cases h
theorem m_Wstr (F : m_Fr p G y R s m args meth c) (hold : G.2.2.2.2.size = G.1) {h : MH} {z j idx pc : Nat} {as r : List Value} {x : Int32} {lsA : Array Slot} (hR : m_Rel G h H) (hS : va_S (m_A G) s.heap H locs) (hsz : lsA.size = m_maxL y) (hq : m_str (z - 1000) j as = some x) (hj : j < 2) (hz : 1000 ≤ z ∧ z < 1003) (hna : as.length + 1 = (bif Nat.beq z 1000 then 1 else 2)) (hlink : Cond.methodLink (m_own y) idx (m_strY z) ∈ m_tbl) (hr : ((r.map (m_tv G)).map fun v => v.category).sum ≤ 8) (hfr : 5 ≤ m_frm y) (hlo : 140 ≤ m_loc y) (hd : decode (m_bytes y) pc = .ok (.invokevirtual idx, 3))
    (kk : W p l e R s m args below meth c H locs cells slots Q (F0 m (pc + 3) lsA (.int x :: r.map (m_tv G)))) (hcl : cells ≤ R.cells) (hsl : slots ≤ R.slots) : W p l e R s m args below meth c H locs cells slots Q (F0 m pc lsA ((as.map (m_tv G)).reverse ++ .ref (G.2.1 j) :: r.map (m_tv G))) := by
  rcases m_str_inv hq with ⟨h0, rfl⟩ | ⟨h0, i, hi, rfl, rfl⟩ | ⟨h0, z0, rfl, rfl⟩
  · obtain rfl : z = 1000 := by omega
    have has : as = [] := by
      have h1 : as.length + 1 = 1 := hna
      exact List.length_eq_zero_iff.mp (by omega)
    subst has
    exact m_Wst1 F hR hS hsz hj (jm_len G j hj l) hold jc_J0_length_8abf5 rfl jw24 jw25 (n := 0) (by decide +kernel) rfl hlink hr (by omega) (by omega) hd kk hcl hsl
  · obtain rfl : z = 1001 := by omega
    exact m_Wst1 F hR hS hsz hj (jm_cha G j i hj hi l) hold jc_J0_charAt_5068e rfl jw37 jw38 (n := 1) (by decide +kernel) rfl hlink hr (by omega) (by omega) hd kk hcl hsl
  · obtain rfl : z = 1002 := by omega
    exact m_Wst1 F hR hS hsz hj (jm_si G j z0 hj l) hold jc_J0_indexOf_0f7a4 rfl jw39 jw40 (n := 1) (by decide +kernel) rfl hlink hr (by omega) (by omega) hd kk hcl hsl
end MSTR
end
section
/-! THE SMALL MACHINE IS THE REAL ONE: a run of the small machine that ends is a run of the real machine -/
def m_pcN (y k : Nat) : Nat := match m_code y k with
  | some e => e.1
  | none => 0
theorem m_pcAt_N {y k z : Nat} (h : m_pcAt y k z = true) : m_pcN y k = z := by
  unfold m_pcAt at h
  unfold m_pcN
  split at h
  · rename_i e he
    rw [he]
    exact Nat.eq_of_beq_eq_true h
  · cases h
theorem m_pcZ_N {y k : Nat} {z : Int} (h : m_pcZ y k z = true) : z = ((m_pcN y k : Nat) : Int) := by
  unfold m_pcZ at h
  unfold m_pcN
  split at h
  · rename_i e he
    rw [he]
    exact (of_decide_eq_true h).symm
  · cases h
def m_RetI (y : Nat) (rv : Option Value) (pc : Nat) : Prop := match rv with
  | none => decode (m_bytes y) pc = .ok (.return_, 1) ∧ m_retT y = none
  | some (.int x) => decode (m_bytes y) pc = .ok (.ireturn, 1) ∧ ∃ ty, m_retT y = some ty ∧ narrow ty (.int x) = .int x
  | some (.ref _) => decode (m_bytes y) pc = .ok (.areturn, 1) ∧ m_retT y = some (.object RX0)
  | _ => False
def m_Qr (G : m_GT) (rv : Option Value) (h1 : MH) : Array Value → State → Outcome → State → Prop := match rv with
  | none => va_Qv (fun _ : Unit => True) (fun _ t => m_Rel G h1 t.heap) (m_A G)
  | some (.int x) => va_Qi (fun v (_ : Unit) => v = x) (fun _ t => m_Rel G h1 t.heap) (m_A G)
  | some (.ref a) => va_Qr (fun _ : Unit => True) (fun _ q t => q = G.1 + a ∧ m_Rel G h1 t.heap) (m_A G)
  | _ => fun _ _ _ _ => False
def m_wz (z : Nat) : List Cond := .code (m_name z) (m_bytes z) (m_maxL z) (m_retT z) :: m_tbl
def m_rm (z : Nat) (h h1 : MH) : Room := { frames := m_frm z, cells := h1.length - h.length, slots := m_sz h1 - m_sz h, locals := m_loc z }
def m_Pz (G : m_GT) (h : MH) (as : List Value) : Array Value → State → Prop := va_Pc (as.map (m_tv G)) (fun U => m_Rel G h U.heap ∧ m_KS G U ∧ G.1 ≤ U.heap.size)
/-- what the small machine's run of n steps is in the real machine -/
def m_Snd (n : Nat) (G : m_GT) (l : Launch) : Prop := ∀ (y k : Nat) (ls : ML) (st : List Value) (h : MH) (rv : Option Value) (hF : MH), m_run n y k ls st h = some (rv, hF) →
  ∀ {p : Program} {e : Env} {R : Room} {s : State} {m : MethodId} {args : Array Value} {below : List Frame} {meth : Method} {c : Code} {Q : State → Prop}, m_Fr p G y R s m args meth c →
  (∀ (H' : Heap) (locs' : List Loc) (lsA' : Array Slot) (cells' slots' pc' : Nat), m_Rel G hF H' → va_S (m_A G) s.heap H' locs' → s.heap.size + cells' = H'.size → cells' ≤ R.cells → slots' ≤ R.slots → m_RetI y rv pc' → W p l e R s m args below meth c H' locs' cells' slots' Q (F0 m pc' lsA' (rv.toList.map (m_tv G)))) →
  ∀ (H : Heap) (locs : List Loc) (lsA : Array Slot) (cells slots : Nat), m_Rel G h H → va_S (m_A G) s.heap H locs → s.heap.size + cells = H.size → m_L G lsA (m_maxL y) ls → cells + (hF.length - h.length) ≤ R.cells → slots + (m_sz hF - m_sz h) ≤ R.slots →
    W p l e R s m args below meth c H locs cells slots Q (F0 m (m_pcN y k) lsA (st.map (m_tv G)))
theorem m_cats_1 {G : m_GT} : ∀ (as : List Value), m_cats as = true → ∀ v ∈ as.map (m_tv G), v.category = 1 := by
  intro as
  induction as with
  | nil => intro _ v hv; simp at hv
  | cons a r ih =>
    intro h v hv
    simp only [m_cats, Bool.and_eq_true] at h
    rw [List.map_cons, List.mem_cons] at hv
    rcases hv with rfl | hv
    · exact m_tv_cat1 G h.1
    · exact ih h.2 v hv
theorem m_sl_len : ∀ (vs : List Value), (∀ v ∈ vs, v.category = 1) → (lg_sl vs).length = vs.length := by
  intro vs
  induction vs with
  | nil => intro _; rfl
  | cons a r ih =>
    intro h
    have h1 := ih (fun v hv => h v (List.mem_cons_of_mem _ hv))
    have h2 : ¬ a.category = 2 := by rw [h a List.mem_cons_self]; decide
    unfold lg_sl at h1 ⊢
    rw [List.flatMap_cons, if_neg h2, List.length_append, h1]
    simp; omega
theorem m_lvargs : ∀ (vs : List Value), (∀ v ∈ vs, v.category = 1) → ∀ (j i : Nat) (v : Value), vs[i]? = some v → (j + i, v) ∈ lv_args j vs := by
  intro vs
  induction vs with
  | nil => intro _ j i v h; simp at h
  | cons a r ih =>
    intro hc j i v h
    have h2 : ¬ a.category = 2 := by rw [hc a List.mem_cons_self]; decide
    rw [lv_args, if_neg h2]
    cases i with
    | zero => simp at h; subst h; exact List.mem_cons_self
    | succ i =>
      refine List.mem_cons_of_mem _ ?_
      have := ih (fun v hv => hc v (List.mem_cons_of_mem _ hv)) (j + 1) i v (by simpa using h)
      rw [show j + (i + 1) = j + 1 + i by omega]
      exact this
theorem m_L_entry {G : m_GT} {as : List Value} {n : Nat} (hc : m_cats as = true) (hn : as.length ≤ n) : m_L G ((lg_sl (as.map (m_tv G)) ++ List.replicate (n - (lg_sl (as.map (m_tv G))).length) Slot.unset).toArray) n (m_ent n as) := by
  have h1 := m_cats_1 (G := G) as hc
  have hh := lv_entry (as.map (m_tv G)) (n := n) (by rw [m_sl_len _ h1]; simpa using hn)
  refine ⟨hh.1, hh.2.1, by simp [m_ent]; omega, fun i v hv => ?_⟩
  unfold m_ent at hv
  by_cases hi : i < as.length
  · rw [List.getElem?_append_left (by simpa using hi)] at hv
    have hv2 : as[i]? = some v := by
      rw [List.getElem?_map] at hv
      cases ha : as[i]? with
      | none => rw [ha] at hv; cases hv
      | some w => rw [ha] at hv; cases hv; rfl
    have h3 := m_lvargs (as.map (m_tv G)) h1 0 i (m_tv G v) (by simp [hv2])
    rw [Nat.zero_add] at h3
    exact hh.2.2 _ h3
  · rw [List.getElem?_append_right (by simp; omega)] at hv
    rw [List.getElem?_replicate] at hv
    split at hv
    · cases hv
    · cases hv
theorem m_args_inv : ∀ (n : Nat) (acc st as r : List Value), m_args n acc st = some (as, r) → ∃ pre, pre.length = n ∧ st = pre ++ r ∧ as = pre.reverse ++ acc := by
  intro n
  induction n with
  | zero => intro acc st as r h; cases h; exact ⟨[], rfl, rfl, rfl⟩
  | succ n ih =>
    intro acc st as r h
    cases st with
    | nil => cases h
    | cons v st =>
      obtain ⟨pre, h1, h2, h3⟩ := ih (v :: acc) st as r h
      exact ⟨v :: pre, by simp [h1], by rw [h2]; rfl, by rw [h3]; simp⟩
theorem m_args_st {n : Nat} {st as r : List Value} (h : m_args n [] st = some (as, r)) : as.length = n ∧ st = as.reverse ++ r := by
  obtain ⟨pre, h1, h2, h3⟩ := m_args_inv n [] st as r h
  rw [List.append_nil] at h3
  subst h3
  exact ⟨by simp [h1], by rw [List.reverse_reverse]; exact h2⟩
theorem m_cat_le (v : Value) : v.category ≤ 2 := by cases v <;> exact Nat.le_of_ble_eq_true rfl
theorem m_okr_le {r : List Value} (G : m_GT) (h : m_okr r = true) : ((r.map (m_tv G)).map fun v => v.category).sum ≤ 8 := by
  match r, h with
  | [], _ => simp
  | [a], _ => have := m_cat_le (m_tv G a); simp; omega
  | [a, b], _ => have := m_cat_le (m_tv G a); have := m_cat_le (m_tv G b); simp; omega
  | [a, b, c], _ => have := m_cat_le (m_tv G a); have := m_cat_le (m_tv G b); have := m_cat_le (m_tv G c); simp; omega
  | [a, b, c, d], _ => have := m_cat_le (m_tv G a); have := m_cat_le (m_tv G b); have := m_cat_le (m_tv G c); have := m_cat_le (m_tv G d); simp; omega
  | _ :: _ :: _ :: _ :: _ :: _, h => cases h
theorem m_good_wz {z : Nat} (hz : z < 164) : GoodIn m_tbl (m_wz z) := by
  intro w hw
  rcases List.mem_cons.mp hw with rfl | hw
  · exact ⟨m_in (m_cd z hz) rfl, Or.inl rfl⟩
  · exact m_tblIn w hw
/-- a method's contract out of its run -/
theorem m_met {n : Nat} {G : m_GT} {l : Launch} (ih : m_Snd n G l) {z : Nat} (hz : z < 164) {as : List Value} {h h1 : MH} {rv : Option Value} (hr : m_run n z 0 (m_ent (m_maxL z) as) [] h = some (rv, h1)) (hc : m_cats as = true) (hn : as.length ≤ m_maxL z) :
    Met l (m_name z) (m_wz z) (m_rm z h h1) (m_Pz G h as) (m_Qr G rv h1) (h1.length - h.length) (m_sz h1 - m_sz h) (m_A G) := by
  have hM := m_okP_0 z hz
  simp only [m_okM, Bool.and_eq_true] at hM
  obtain ⟨⟨⟨⟨⟨⟨⟨⟨hM1, hM2⟩, hM3⟩, hM4⟩, hM5⟩, hM6⟩, hM7⟩, hM8⟩, hM9⟩ := hM
  have hcls : (m_name z).cls = m_own z := of_decide_eq_true hM3
  refine va_MetF (cc := m_bytes z) (maxL := m_maxL z) (ret := m_retT z) hM7 rfl ?_
  intro p e s m args below meth c s₁ B hml hv
  obtain ⟨rfl, hR, hK, hbase⟩ := hv
  have hts0 := atoms_spec (ws := m_wz z) B.pre
  have hts : ∀ w ∈ m_tbl, w.before (as.map (m_tv G)).toArray s = true := fun w hw => hts0 w (List.mem_cons_of_mem _ hw)
  have hown : s.vm.findClass (m_own z) = some m.cls := by rw [← hcls]; exact findClass_of_methodNamed B.named
  have F : m_Fr p G z (headSpec (m_wz z) (m_rm z h h1)).room s m (as.map (m_tv G)).toArray meth c :=
    ⟨B.exec, B.bytes, hml, B.returns, B.notSynchronized, (name_of_methodNamed B.named B.method).1, hown, hts, hK, hbase, Nat.le_refl _, Nat.le_refl _⟩
  rw [lg_entry_eq]
  have hpc : m_pcN z 0 = 0 := m_pcAt_N hM5
  have key := fun hret => ih z 0 (m_ent (m_maxL z) as) [] h rv h1 hr (e := e) (below := below) F (Q := MQ below (m_Qr G rv h1) (as.map (m_tv G)).toArray s (h1.length - h.length) (m_sz h1 - m_sz h) (m_A G)) hret s.heap [] _ 0 0 hR va_S.rf (by rw [Nat.add_zero]) (m_L_entry hc hn) (by show 0 + _ ≤ h1.length - h.length; omega) (by show 0 + _ ≤ m_sz h1 - m_sz h; omega)
  rw [hpc] at key
  refine key ?_
  · intro H' locs' lsA' cells' slots' pc' hR' hS' hc' hcl hsl hI
    refine W.widen (k := h1.length - h.length) (n := m_sz h1 - m_sz h) hcl hsl ?_
    match rv, hI with
    | none, hI => exact W.vret B.exec B.bytes (by rw [B.returns]; exact hI.2) (fun t ht hW => ⟨⟨(), rfl, trivial, by (try dsimp only); rw [ht]; exact hR'⟩, hS'.F ht⟩) hS'.2.2 hI.1
    | some (.int x), hI =>
      obtain ⟨hd, ty, hty, hnr⟩ := hI
      exact W.zret (v := x) (ty := ty) B.exec B.bytes (by rw [B.returns]; exact hty) hnr (fun t ht hW => ⟨⟨x, (), rfl, rfl, by (try dsimp only); rw [ht]; exact hR'⟩, hS'.F ht⟩) hS'.2.2 hd
    | some (.ref a), hI => exact W.aret (v := .ref (G.1 + a)) (rt := .object RX0) B.exec B.bytes (by rw [B.returns]; exact hI.2) (Or.inl ⟨_, rfl⟩) (Or.inr ⟨_, rfl⟩) (fun t ht hW => ⟨⟨(), G.1 + a, rfl, trivial, rfl, by (try dsimp only); rw [ht]; exact hR'⟩, hS'.F ht⟩) hS'.2.2 hI.1
theorem m_Pz_blind {G : m_GT} {h : MH} {as : List Value} : FrameBlind (m_Pz G h as) := by
  intro a U g mk q
  obtain ⟨rfl, hR, hK, hb⟩ := q
  exact ⟨rfl, hR, m_KS.same rfl hK, hb⟩
section MSND
variable {p : Program} {l : Launch} {e : Env} {R : Room} {s : State} {m : MethodId} {args : Array Value} {below : List Frame} {meth : Method} {c : Code} {H : Heap} {locs : List Loc} {cells slots : Nat} {Q : State → Prop} {G : m_GT} {y : Nat}
/-- behind a call -/
theorem m_Wback {z : Nat} {h h1 : MH} {rv : Option Value} {pc : Nat} {lsA : Array Slot} {st0 rest : List Value} {a : Array Value} (hS : va_S (m_A G) s.heap H locs) (hc : s.heap.size + cells = H.size) (hR : m_Rel G h H) (hle : h.length ≤ h1.length)
    (hr : va_Run p l e R s m args below meth c H locs cells slots (h1.length - h.length) (m_sz h1 - m_sz h) (F0 m pc lsA st0) rest (m_Qr G rv h1 a) (m_A G))
    (kk : ∀ (H1 : Heap) (locs1 : List Loc), m_Rel G h1 H1 → va_S (m_A G) s.heap H1 locs1 → s.heap.size + (cells + (h1.length - h.length)) = H1.size → W p l e R s m args below meth c H1 locs1 (cells + (h1.length - h.length)) (slots + (m_sz h1 - m_sz h)) Q (F0 m (pc + 3) lsA (rv.toList.map (m_tv G) ++ rest))) :
    W p l e R s m args below meth c H locs cells slots Q (F0 m pc lsA st0) := by
  have key : ∀ (t : State) (H1 : Heap) (locs1 : List Loc), t.heap = H1 → m_Rel G h1 t.heap → va_S (m_A G) s.heap H1 locs1 → W p l e R s m args below meth c H1 locs1 (cells + (h1.length - h.length)) (slots + (m_sz h1 - m_sz h)) Q (F0 m (pc + 3) lsA (rv.toList.map (m_tv G) ++ rest)) := by
    intro t H1 locs1 ht hR1 hS1
    rw [ht] at hR1
    refine kk H1 locs1 hR1 hS1 ?_
    have h2 := hR.1
    have h3 := hR1.1
    omega
  match rv, hr, key with
  | none, hr, key => exact va_callv (a := a) hr hS (fun _ _ q => q) (fun _ q => q) fun u t H1 locs1 ht _ _ hB _ _ hS1 => key t H1 locs1 ht hB hS1
  | some (.int x), hr, key =>
    exact va_calli (a := a) hr hS (fun _ _ q => q) (fun _ q => q) fun v u t H1 locs1 ht _ hp hB _ _ hS1 => by
      subst hp
      exact key t H1 locs1 ht hB hS1
  | some (.ref b), hr, key =>
    exact va_callr (a := a) hr hS (fun _ _ q => q) (fun _ q => q) fun u ra t H1 locs1 ht _ _ hB _ _ hS1 => by
      obtain ⟨rfl, hB⟩ := hB
      exact key t H1 locs1 ht hB hS1
  | some (.long _), hr, _ => intro T hT X; obtain ⟨_, _, _, _, _, _, _, _, _, _, q, _⟩ := hr T hT X; exact q.elim
  | some (.float _), hr, _ => intro T hT X; obtain ⟨_, _, _, _, _, _, _, _, _, _, q, _⟩ := hr T hT X; exact q.elim
  | some (.double _), hr, _ => intro T hT X; obtain ⟨_, _, _, _, _, _, _, _, _, _, q, _⟩ := hr T hT X; exact q.elim
  | some .null, hr, _ => intro T hT X; obtain ⟨_, _, _, _, _, _, _, _, _, _, q, _⟩ := hr T hT X; exact q.elim
  | some (.retAddr _), hr, _ => intro T hT X; obtain ⟨_, _, _, _, _, _, _, _, _, _, q, _⟩ := hr T hT X; exact q.elim
end MSND
end
section
/-! the step of the induction: every instruction; then the theorem for every number of steps -/
theorem m_nI_int {v : Nat} (h : v < 2147483648) : (nI v).toInt = (v : Int) := nI_toInt (by omega)
theorem m_eq_nI {x : Int32} {v : Nat} (h : v < 2147483648) : x = nI v ↔ x.toInt = (v : Int) := by
  constructor
  · intro e; rw [e]; exact m_nI_int h
  · intro e; exact Int32.toInt_inj.mp (by rw [e, m_nI_int h])
theorem m_swL_ok {y pc : Nat} {x : Int32} {d : Nat} {f : Nat → MR} {r : Option Value × MH} {dflt : Int} (hd : (pc : Int) + dflt = ((m_pcN y d : Nat) : Int)) : ∀ (os : List (Int × Int)) (ps : List Nat), m_swL y pc os ps = true → m_sw x d f ps = some r → ∃ t, f t = some r ∧ (pc : Int) + Op.lookupswitch.offset os dflt x.toInt = ((m_pcN y t : Nat) : Int) := by
  intro os
  induction os with
  | nil =>
    intro ps h hr
    match ps, h with
    | [], _ => exact ⟨d, hr, hd⟩
    | _ :: _, h => cases h
  | cons o os ih =>
    intro ps h hr
    match ps, h with
    | [], h => cases h
    | [_], h => cases h
    | v :: t :: q, h =>
      unfold m_swL at h
      simp only [Bool.and_eq_true] at h
      obtain ⟨⟨⟨h1, h2⟩, h3⟩, h4⟩ := h
      have h1 := of_decide_eq_true h1
      have h2 := of_decide_eq_true h2
      have h3 := m_pcZ_N h3
      obtain ⟨oa, ob⟩ := o
      dsimp only at h1 h3
      rw [Op.lookupswitch.offset_cons]
      unfold m_sw at hr
      by_cases hx : x = nI v
      · rw [if_pos hx] at hr
        refine ⟨t, hr, ?_⟩
        rw [if_pos (by rw [(m_eq_nI h2).mp hx]; exact h1.symm)]
        exact h3
      · rw [if_neg hx] at hr
        rw [if_neg (fun e => hx ((m_eq_nI h2).mpr (by rw [← e]; exact h1.symm)))]
        exact ih q h4 hr
theorem m_swT_ok {y pc : Nat} {x : Int32} {d : Nat} {f : Nat → MR} {r : Option Value × MH} {lo : Int} (hlo : 0 ≤ lo) : ∀ (os : List Int) (ps : List Nat) (j : Nat), m_swT y pc lo j os ps = true → lo + (j : Int) + (os.length : Int) < 2147483648 → m_sw x d f ps = some r →
    (∃ (t i : Nat) (o : Int), f t = some r ∧ os[i]? = some o ∧ x.toInt = lo + (j : Int) + (i : Int) ∧ (pc : Int) + o = ((m_pcN y t : Nat) : Int)) ∨ (f d = some r ∧ (x.toInt < lo + (j : Int) ∨ lo + (j : Int) + (os.length : Int) ≤ x.toInt)) := by
  intro os
  induction os with
  | nil =>
    intro ps j h hb hr
    match ps, h with
    | [], _ =>
      refine Or.inr ⟨hr, ?_⟩
      simp
      omega
    | _ :: _, h => cases h
  | cons o os ih =>
    intro ps j h hb hr
    match ps, h with
    | [], h => cases h
    | [_], h => cases h
    | v :: t :: q, h =>
      unfold m_swT at h
      simp only [Bool.and_eq_true] at h
      obtain ⟨⟨h1, h3⟩, h4⟩ := h
      have h1 := of_decide_eq_true h1
      have h3 := m_pcZ_N h3
      simp only [List.length_cons] at hb
      have hv : v < 2147483648 := by omega
      unfold m_sw at hr
      by_cases hx : x = nI v
      · rw [if_pos hx] at hr
        exact Or.inl ⟨t, 0, o, hr, rfl, by rw [(m_eq_nI hv).mp hx]; omega, h3⟩
      · rw [if_neg hx] at hr
        have hx' : x.toInt ≠ (v : Int) := fun e => hx ((m_eq_nI hv).mpr e)
        rcases ih q (j + 1) h4 (by omega) hr with ⟨t', i, o', g1, g2, g3, g4⟩ | ⟨g1, g2⟩
        · exact Or.inl ⟨t', i + 1, o', g1, by simpa using g2, by omega, g4⟩
        · refine Or.inr ⟨g1, ?_⟩
          simp only [List.length_cons]
          omega
theorem m_blt {a b : Nat} (h : Nat.blt a b = true) : a < b := by rwa [Nat.blt_eq] at h
theorem m_ble {a b : Nat} (h : Nat.ble a b = true) : a ≤ b := Nat.le_of_ble_eq_true h
theorem m_beq {a b : Nat} (h : Nat.beq a b = true) : a = b := Nat.eq_of_beq_eq_true h
theorem m_def_len : ∀ c, c < 9 → (m_def c).length = (m_C c).2.2 := by decide +kernel
theorem m_pc8 (y : Nat) (h : m_own y = RX3) : m_own y = RX3 := h
section MSTEP
variable {p : Program} {l : Launch} {e : Env} {R : Room} {s : State} {m : MethodId} {args : Array Value} {below : List Frame} {meth : Method} {c : Code} {Q : State → Prop} {G : m_GT} {y : Nat}
/-- a call of a method of ours, of any of the three kinds, out of its run -/
theorem m_callgo {n : Nat} (ih : m_Snd n G l) {z k : Nat} {as : List Value} {ls : ML} {r : List Value} {h hF : MH} {rv : Option Value} (hst : m_call (m_run n) z y k as ls r h = some (rv, hF)) : ∃ (rv1 : Option Value) (h1 : MH), m_run n z 0 (m_ent (m_maxL z) as) [] h = some (rv1, h1) ∧ m_run n y k ls (rv1.toList ++ r) h1 = some (rv, hF) ∧ m_le h h1 ∧ m_le h1 hF := by
  unfold m_call at hst
  obtain ⟨⟨rv1, h1⟩, hq, hst⟩ := Option.bind_eq_some_iff.mp hst
  exact ⟨rv1, h1, hq, hst, m_grow _ _ _ _ _ _ _ _ hq, m_grow _ _ _ _ _ _ _ _ hst⟩
theorem m_okM_d {z : Nat} (hz : z < 164) : (m_w (m_pInst z) (bif m_stat z then .static (m_name z) else .instanceMethod (m_name z)) = true ∧ m_w (m_pIni z) (.initialized (m_own z)) = true) ∧ (m_name z).cls = m_own z ∧ (m_rc z = 9 ∨ m_own z = (m_C (m_rc z)).1) ∧ (parseMethodDescriptor (m_name z).desc).map (fun d => d.parameters.length) = some (m_np z) ∧ m_own z ≠ "java/lang/invoke/MethodHandle" ∧ m_own z ≠ "java/lang/invoke/VarHandle" := by
  have hM := m_okP_0 z hz
  simp only [m_okM, Bool.and_eq_true] at hM
  obtain ⟨⟨⟨⟨⟨⟨⟨⟨hM1, hM2⟩, hM3⟩, hM4⟩, hM5⟩, hM6⟩, hM7⟩, hM8⟩, hM9⟩ := hM
  refine ⟨⟨hM1, hM2⟩, of_decide_eq_true hM3, ?_, of_decide_eq_true hM6, of_decide_eq_true hM8, of_decide_eq_true hM9⟩
  rcases Bool.or_eq_true _ _ ▸ hM4 with q | q
  · exact Or.inl (m_beq q)
  · exact Or.inr (of_decide_eq_true q)
set_option maxHeartbeats 8000000 in
set_option maxRecDepth 100000 in
theorem m_snd_step {n : Nat} (ih : m_Snd n G l) : m_Snd (n + 1) G l := by
  intro y k ls st h rv hF hr p e R s m args below meth c Q F ret H locs lsA cells slots hR hS hc hL hcl hsl
  have nx : ∀ (k' : Nat) (ls' : ML) (st' : List Value) (h' : MH), m_run n y k' ls' st' h' = some (rv, hF) → ∀ (H1 : Heap) (locs1 : List Loc) (lsA1 : Array Slot) (cells1 slots1 : Nat), m_Rel G h' H1 → va_S (m_A G) s.heap H1 locs1 → s.heap.size + cells1 = H1.size → m_L G lsA1 (m_maxL y) ls' → cells1 + (hF.length - h'.length) ≤ R.cells → slots1 + (m_sz hF - m_sz h') ≤ R.slots → W p l e R s m args below meth c H1 locs1 cells1 slots1 Q (F0 m (m_pcN y k') lsA1 (st'.map (m_tv G))) := fun k' ls' st' h' hr' => ih y k' ls' st' h' rv hF hr' F ret
  have gr : ∀ (k' : Nat) (ls' : ML) (st' : List Value) (h' : MH), m_run n y k' ls' st' h' = some (rv, hF) → m_le h' hF := fun k' ls' st' h' hr' => m_grow _ _ _ _ _ _ _ _ hr'
  have hst : m_step (m_run n) y k ls st h = some (rv, hF) := hr
  obtain ⟨hx, hb, hml, hrt, hlocks, hnm, hown, hts, hK, hbase, hfr, hlo⟩ := id F
  unfold m_step at hst
  cases hcode : m_code y k with
  | none => rw [hcode] at hst; cases hst
  | some en =>
  rw [hcode] at hst
  have hok := m_okE_of hcode
  have hyM := (m_okM_of hcode).1
  have hpc : m_pcN y k = en.1 := by unfold m_pcN; rw [hcode]
  rw [hpc]
  obtain ⟨pc, i, len, a, c0⟩ := en
  simp only [m_okE, Bool.and_eq_true] at hok
  obtain ⟨⟨⟨hd, hlen⟩, hnx⟩, hI⟩ := hok
  replace hd := of_decide_eq_true hd
  dsimp only at hst hd hlen hnx hI
  have hlen' : m_sws i = false → len = m_lenOf i := by
    intro q
    rw [q] at hlen
    exact m_beq hlen
  have hnx' : m_on i = true → m_pcN y (k + 1) = pc + len := by
    intro q
    rw [q] at hnx
    exact m_pcAt_N hnx
  have hfle : h.length ≤ hF.length := (m_grow _ _ _ _ _ _ _ _ hr).1
  split at hst
  · -- getfield
    rename_i idx
    obtain rfl := hlen' rfl
    have hn := hnx' rfl
    split at hst
    · rename_i o r ci f t
      simp only [m_okI, Bool.and_eq_true] at hI
      obtain ⟨⟨h1, h2⟩, h3⟩ := hI
      have h4 := m_in (m_w_mem h3) rfl
      cases ht : Nat.beq t 2 with
      | true =>
        rw [ht] at hst
        obtain ⟨x, hq, hst⟩ := Option.bind_eq_some_iff.mp hst
        obtain ⟨fs, he, hv⟩ := m_fr_inv hq
        have := nx _ _ _ _ hst H locs lsA cells slots hR hS hc hL hcl hsl
        rw [hn] at this
        exact m_Wget hx hb hts hown hK hR he hv (m_blt h1) (m_blt h2) h4 hd this
      | false =>
        rw [ht] at hst
        obtain ⟨x, hq, hst⟩ := Option.bind_eq_some_iff.mp hst
        obtain ⟨fs, he, hv⟩ := m_fi_inv hq
        have := nx _ _ _ _ hst H locs lsA cells slots hR hS hc hL hcl hsl
        rw [hn] at this
        exact m_Wget hx hb hts hown hK hR he hv (m_blt h1) (m_blt h2) h4 hd this
    · cases hst
  · -- putfield
    rename_i idx
    obtain rfl := hlen' rfl
    have hn := hnx' rfl
    have put : ∀ (v : Value) (o : Nat) (r : List Value) (ci f t : Nat) (h' : MH), st = v :: .ref o :: r → a = [ci, f, t] → m_pf h o ci f v = some h' → m_run n y (k + 1) ls r h' = some (rv, hF) → (∀ T : FieldType, m_fty t T = true → narrow T (m_tv G v) = m_tv G v ∧ fits T (m_tv G v) = true) → W p l e R s m args below meth c H locs cells slots Q (F0 m pc lsA (st.map (m_tv G))) := by
      intro v o r ci f t h' hst0 ha hq hst2 hT
      subst hst0
      subst ha
      simp only [m_okI, Bool.and_eq_true] at hI
      obtain ⟨⟨⟨⟨h1, h2⟩, h3⟩, h5⟩, h6⟩ := hI
      have h4 := m_in (m_w_mem h3) rfl
      obtain ⟨hn1, hn2⟩ := hT _ h5
      have hle := m_le_pf hq
      have hle2 := gr _ _ _ _ hst2
      obtain ⟨fs0, g1, g2, g3⟩ := m_pf_inv hq
      have hlen1 : h'.length = h.length := by rw [g3]; simp
      have hsz1 : m_sz h' = m_sz h := by rw [g3]; exact m_sz_set g1 rfl
      refine m_Wput hx hb hts hown hK hR hS hc hq (m_blt h1) (m_blt h2) h4 ?_ hn1 hn2 hd fun H1 locs1 hR1 hS1 hc1 => ?_
      · cases hfin : ((m_C ci).2.1 f).2.2.2 with
        | false => exact Or.inl rfl
        | true =>
          rw [hfin] at h6
          have h6 : (decide ((m_name y).name = "<init>") && decide (((m_C ci).2.1 f).1 = m_own y)) = true := h6
          simp only [Bool.and_eq_true] at h6
          exact Or.inr ⟨rfl, by rw [hnm]; exact of_decide_eq_true h6.1, of_decide_eq_true h6.2⟩
      · have := nx _ _ _ _ hst2 H1 locs1 lsA cells slots hR1 hS1 hc1 hL (by rw [hlen1]; exact hcl) (by rw [hsz1]; exact hsl)
        rw [hn] at this
        exact this
    split at hst
    · rename_i x o r ci f t
      cases ht : Nat.beq t 0 with
      | true =>
        rw [ht] at hst
        obtain ⟨h', hq, hst⟩ := Option.bind_eq_some_iff.mp hst
        refine put _ _ _ _ _ _ _ rfl rfl hq hst fun T hT => ?_
        obtain rfl := m_beq ht
        cases T <;> first | (exact ⟨rfl, rfl⟩) | cases hT
      | false =>
        rw [ht] at hst
        cases ht1 : Nat.beq t 1 with
        | true =>
          rw [ht1] at hst
          simp only [cond_false, cond_true] at hst
          split at hst
          · rename_i hx01
            obtain ⟨h', hq, hst⟩ := Option.bind_eq_some_iff.mp hst
            refine put _ _ _ _ _ _ _ rfl rfl hq hst fun T hT => ?_
            obtain rfl := m_beq ht1
            cases T <;> first | (rcases hx01 with rfl | rfl <;> exact ⟨rfl, rfl⟩) | cases hT
          · cases hst
        | false => rw [ht1] at hst; cases hst
    · rename_i x o r ci f t
      cases ht : Nat.beq t 2 with
      | true =>
        rw [ht] at hst
        obtain ⟨h', hq, hst⟩ := Option.bind_eq_some_iff.mp hst
        refine put _ _ _ _ _ _ _ rfl rfl hq hst fun T hT => ?_
        obtain rfl := m_beq ht
        cases T <;> first | (exact ⟨rfl, rfl⟩) | cases hT
      | false => rw [ht] at hst; cases hst
    · cases hst
  · -- iaload
    obtain rfl := hlen' rfl
    have hn := hnx' rfl
    split at hst
    · rename_i j o r
      obtain ⟨x, hq, hst⟩ := Option.bind_eq_some_iff.mp hst
      have := nx _ _ _ _ hst H locs lsA cells slots hR hS hc hL hcl hsl
      rw [hn] at this
      exact m_Wiald hx hb hK hR hq hd this
    · cases hst
  · -- caload
    obtain rfl := hlen' rfl
    have hn := hnx' rfl
    split at hst
    · rename_i j o r
      obtain ⟨x, hq, hst⟩ := Option.bind_eq_some_iff.mp hst
      have := nx _ _ _ _ hst H locs lsA cells slots hR hS hc hL hcl hsl
      rw [hn] at this
      exact m_Wcald hx hb hK hR hq hd this
    · cases hst
  · -- aaload
    obtain rfl := hlen' rfl
    have hn := hnx' rfl
    split at hst
    · rename_i j o r
      obtain ⟨x, hq, hst⟩ := Option.bind_eq_some_iff.mp hst
      have := nx _ _ _ _ hst H locs lsA cells slots hR hS hc hL hcl hsl
      rw [hn] at this
      exact m_Waald hx hb hK hR hq hd this
    · cases hst
  · -- iastore
    obtain rfl := hlen' rfl
    have hn := hnx' rfl
    split at hst
    · rename_i x j o r
      obtain ⟨h', hq, hst⟩ := Option.bind_eq_some_iff.mp hst
      obtain ⟨n0, f0, g1, g2, g3⟩ := m_pi_inv hq
      have hlen1 : h'.length = h.length := by rw [g3]; simp
      have hsz1 : m_sz h' = m_sz h := by rw [g3]; exact m_sz_set g1 rfl
      refine m_Wiast hx hb hK hR hS hc hq hd fun H1 locs1 hR1 hS1 hc1 => ?_
      have := nx _ _ _ _ hst H1 locs1 lsA cells slots hR1 hS1 hc1 hL (by rw [hlen1]; exact hcl) (by rw [hsz1]; exact hsl)
      rw [hn] at this
      exact this
    · cases hst
  · -- castore
    obtain rfl := hlen' rfl
    have hn := hnx' rfl
    split at hst
    · rename_i x j o r
      obtain ⟨h', hq, hst⟩ := Option.bind_eq_some_iff.mp hst
      obtain ⟨n0, f0, g1, g2, g3⟩ := m_pi_inv hq
      have hlen1 : h'.length = h.length := by rw [g3]; simp
      have hsz1 : m_sz h' = m_sz h := by rw [g3]; exact m_sz_set g1 rfl
      refine m_Wcast hx hb hK hR hS hc hq hd fun H1 locs1 hR1 hS1 hc1 => ?_
      have := nx _ _ _ _ hst H1 locs1 lsA cells slots hR1 hS1 hc1 hL (by rw [hlen1]; exact hcl) (by rw [hsz1]; exact hsl)
      rw [hn] at this
      exact this
    · cases hst
  · -- aastore
    obtain rfl := hlen' rfl
    have hn := hnx' rfl
    split at hst
    · rename_i x j o r
      obtain ⟨h', hq, hst⟩ := Option.bind_eq_some_iff.mp hst
      obtain ⟨n0, f0, g1, g2, gx, g3⟩ := m_pr_inv hq
      have hlen1 : h'.length = h.length := by rw [g3]; simp
      have hsz1 : m_sz h' = m_sz h := by rw [g3]; exact m_sz_set g1 rfl
      refine m_Waast hx hb hK hR hS hc hq hd fun H1 locs1 hR1 hS1 hc1 => ?_
      have := nx _ _ _ _ hst H1 locs1 lsA cells slots hR1 hS1 hc1 hL (by rw [hlen1]; exact hcl) (by rw [hsz1]; exact hsl)
      rw [hn] at this
      exact this
    · cases hst
  · -- arraylength
    obtain rfl := hlen' rfl
    have hn := hnx' rfl
    split at hst
    · rename_i o r
      obtain ⟨x, hq, hst⟩ := Option.bind_eq_some_iff.mp hst
      have := nx _ _ _ _ hst H locs lsA cells slots hR hS hc hL hcl hsl
      rw [hn] at this
      exact m_Walen hx hb hK hR hq hd this
    · cases hst
  · -- idiv
    obtain rfl := hlen' rfl
    have hn := hnx' rfl
    split at hst
    · rename_i y' x r
      split at hst
      · cases hst
      · rename_i hy0
        have := nx _ _ _ _ hst H locs lsA cells slots hR hS hc hL hcl hsl
        rw [hn] at this
        exact lv_idiv hx hb hd hy0 this
    · cases hst
  · -- irem
    obtain rfl := hlen' rfl
    have hn := hnx' rfl
    split at hst
    · rename_i y' x r
      split at hst
      · cases hst
      · rename_i hy0
        have := nx _ _ _ _ hst H locs lsA cells slots hR hS hc hL hcl hsl
        rw [hn] at this
        exact lv_irem hx hb hd hy0 this
    · cases hst
  · -- lrem
    obtain rfl := hlen' rfl
    have hn := hnx' rfl
    split at hst
    · rename_i y' x r
      split at hst
      · cases hst
      · rename_i hy0
        have := nx _ _ _ _ hst H locs lsA cells slots hR hS hc hL hcl hsl
        rw [hn] at this
        exact lv_lrem hx hb hd hy0 this
    · cases hst
  · -- ifCond
    rename_i cd off
    obtain rfl := hlen' rfl
    have hn := hnx' rfl
    have htg := m_one (P := fun a => m_okI y pc (.ifCond cd off) a c0) (Q := fun t => (pc : Int) + off = ((m_pcN y t : Nat) : Int)) hI rfl (fun _ _ _ => rfl) (fun v hv => m_pcZ_N hv)
    split at hst
    · rename_i x r
      have A : m_run n y (m_a0 a) ls r h = some (rv, hF) → W p l e R s m args below meth c H locs cells slots Q (F0 m (m_pcN y (m_a0 a)) lsA (r.map (m_tv G))) := fun q => nx _ _ _ _ q H locs lsA cells slots hR hS hc hL hcl hsl
      have B : m_run n y (k + 1) ls r h = some (rv, hF) → W p l e R s m args below meth c H locs cells slots Q (F0 m (pc + 3) lsA (r.map (m_tv G))) := fun q => by
        have := nx _ _ _ _ q H locs lsA cells slots hR hS hc hL hcl hsl
        rw [hn] at this
        exact this
      cases cd with
      | eq => exact lv_if_eq hx hb hd htg (fun q => A (by simpa [m_br, show x = nI 0 from q] using hst)) (fun q => B (by have q' : ¬ x = nI 0 := q; simpa [m_br, q'] using hst))
      | ne => exact lv_if_ne hx hb hd htg (fun q => A (by have q' : ¬ x = nI 0 := q; simpa [m_br, q'] using hst)) (fun q => B (by simpa [m_br, show x = nI 0 from q] using hst))
      | lt => exact lv_if_lt hx hb hd htg (fun q => A (by have q' : x < nI 0 := q; simpa only [m_br, q', if_true] using hst)) (fun q => B (by have q' : ¬ x < nI 0 := q; simpa only [m_br, q', if_false] using hst))
      | ge => exact lv_if_ge hx hb hd htg (fun q => A (by have q' : nI 0 ≤ x := q; simpa only [m_br, q', if_true] using hst)) (fun q => B (by have q' : ¬ nI 0 ≤ x := q; simpa only [m_br, q', if_false] using hst))
      | gt => exact lv_if_gt hx hb hd htg (fun q => A (by have q' : nI 0 < x := q; simpa only [m_br, q', if_true] using hst)) (fun q => B (by have q' : ¬ nI 0 < x := q; simpa only [m_br, q', if_false] using hst))
      | le => exact lv_if_le hx hb hd htg (fun q => A (by have q' : x ≤ nI 0 := q; simpa only [m_br, q', if_true] using hst)) (fun q => B (by have q' : ¬ x ≤ nI 0 := q; simpa only [m_br, q', if_false] using hst))
    · cases hst
  · -- if_icmp
    rename_i cd off
    obtain rfl := hlen' rfl
    have hn := hnx' rfl
    have htg := m_one (P := fun a => m_okI y pc (.if_icmp cd off) a c0) (Q := fun t => (pc : Int) + off = ((m_pcN y t : Nat) : Int)) hI rfl (fun _ _ _ => rfl) (fun v hv => m_pcZ_N hv)
    split at hst
    · rename_i z x r
      have A : m_run n y (m_a0 a) ls r h = some (rv, hF) → W p l e R s m args below meth c H locs cells slots Q (F0 m (m_pcN y (m_a0 a)) lsA (r.map (m_tv G))) := fun q => nx _ _ _ _ q H locs lsA cells slots hR hS hc hL hcl hsl
      have B : m_run n y (k + 1) ls r h = some (rv, hF) → W p l e R s m args below meth c H locs cells slots Q (F0 m (pc + 3) lsA (r.map (m_tv G))) := fun q => by
        have := nx _ _ _ _ q H locs lsA cells slots hR hS hc hL hcl hsl
        rw [hn] at this
        exact this
      cases cd with
      | eq => exact lv_icmp_eq hx hb hd htg (fun q => A (by simpa only [m_br, if_pos q] using hst)) (fun q => B (by simpa only [m_br, if_neg q] using hst))
      | ne => exact lv_icmp_ne hx hb hd htg (fun q => A (by simpa only [m_br, if_neg q] using hst)) (fun q => B (by simpa only [m_br, if_pos q] using hst))
      | lt => exact lv_icmp_lt hx hb hd htg (fun q => A (by simpa only [m_br, if_pos q] using hst)) (fun q => B (by simpa only [m_br, if_neg q] using hst))
      | ge => exact lv_icmp_ge hx hb hd htg (fun q => A (by simpa only [m_br, if_pos q] using hst)) (fun q => B (by simpa only [m_br, if_neg q] using hst))
      | gt => exact lv_icmp_gt hx hb hd htg (fun q => A (by simpa only [m_br, if_pos q] using hst)) (fun q => B (by simpa only [m_br, if_neg q] using hst))
      | le => exact lv_icmp_le hx hb hd htg (fun q => A (by simpa only [m_br, if_pos q] using hst)) (fun q => B (by simpa only [m_br, if_neg q] using hst))
    · cases hst
  · -- goto
    rename_i off
    obtain rfl := hlen' rfl
    have htg := m_one (P := fun a => m_okI y pc (.goto off) a c0) (Q := fun t => (pc : Int) + off = ((m_pcN y t : Nat) : Int)) hI rfl (fun _ _ _ => rfl) (fun v hv => m_pcZ_N hv)
    exact lv_goto hx hb hd htg (nx _ _ _ _ hst H locs lsA cells slots hR hS hc hL hcl hsl)
  · -- tableswitch
    rename_i dflt lo hi offs
    split at hst
    · rename_i x r
      match a, hI, hst with
      | [], hI, _ => cases hI
      | t0 :: ps, hI, hst =>
        simp only [m_okI, Bool.and_eq_true] at hI
        obtain ⟨⟨⟨⟨h1, h2⟩, h3⟩, h4⟩, h5⟩ := hI
        have h1 := m_pcZ_N h1
        have h2 := of_decide_eq_true h2
        have h3 := of_decide_eq_true h3
        have h4 := of_decide_eq_true h4
        have hsz : offs.toList.length = offs.size := Array.length_toList
        rcases m_swT_ok h2 offs.toList ps 0 h5 (by rw [hsz]; omega) hst with ⟨t, i, o, g1, g2, g3, g4⟩ | ⟨g1, g2⟩
        · have hi2 : i < offs.toList.length := (List.getElem?_eq_some_iff.mp g2).1
          refine lv_tableIn hx hb hd (off := o) (tgt := m_pcN y t) (by omega) (by omega) ?_ g4 (nx _ _ _ _ g1 H locs lsA cells slots hR hS hc hL hcl hsl)
          rw [show (x.toInt - lo).toNat = i by omega, ← Array.getElem?_toList]
          exact g2
        · exact lv_tableOut hx hb hd (tgt := m_pcN y t0) (by rw [hsz] at g2; omega) h1 (nx _ _ _ _ g1 H locs lsA cells slots hR hS hc hL hcl hsl)
    · cases hst
  · -- lookupswitch
    rename_i dflt prs
    split at hst
    · rename_i x r
      match a, hI, hst with
      | [], hI, _ => cases hI
      | t0 :: ps, hI, hst =>
        simp only [m_okI, Bool.and_eq_true] at hI
        obtain ⟨⟨h1, h2⟩, h3⟩ := hI
        obtain ⟨t, g1, g2⟩ := m_swL_ok (m_pcZ_N h1) prs.toList ps h3 hst
        exact lv_lookup hx hb hd h2 rfl g2 (nx _ _ _ _ g1 H locs lsA cells slots hR hS hc hL hcl hsl)
    · cases hst
  · -- invokevirtual
    rename_i idx
    obtain rfl := hlen' rfl
    have hn := hnx' rfl
    split at hst
    · rename_i z na
      simp only [m_okI] at hI
      split at hst
      · rename_i o as r harg
        cases hz9 : Nat.blt z 900 with
        | false => rw [hz9] at hst; cases hst
        | true =>
          rw [hz9] at hst hI
          simp only [cond_true] at hst hI
          cases hokc : m_okc as r with
          | false => rw [hokc] at hst; cases hst
          | true =>
          rw [hokc] at hst
          simp only [cond_true] at hst
          split at hst
          · rename_i hcls
            simp only [Bool.and_eq_true, Bool.not_eq_true'] at hI
            obtain ⟨⟨⟨⟨⟨⟨⟨⟨h1, h2⟩, h3⟩, h4⟩, h5⟩, h6⟩, h7⟩, h8⟩, h9⟩ := hI
            have hz := m_blt h1
            obtain ⟨⟨hw1, hw2⟩, hcl1, hcl2, hnp, hmh, hvh⟩ := m_okM_d hz
            rw [h4] at hw1
            simp only [m_okc, Bool.and_eq_true] at hokc
            obtain ⟨hlen0, hst0⟩ := m_args_st harg
            obtain ⟨rv1, h1', hq, hst, hle1, hle2⟩ := m_callgo ih hst
            have hcats : m_cats (.ref o :: as) = true := by simp [m_cats, m_cat, hokc.2]
            have hM := m_met ih hz hq hcats (by rw [hlen0]; exact m_ble h3)
            obtain ⟨fs, hof⟩ := m_cls_inv hcls
            have hrc := m_blt h7
            have hnamec : m_own z = (m_C (m_rc z)).1 := by
              rcases hcl2 with q | q
              · omega
              · exact q
            rw [hst0]
            have hstk : ((Value.ref o :: as).reverse ++ r).map (m_tv G) = (as.map (m_tv G)).reverse ++ Value.ref (G.1 + o) :: r.map (m_tv G) := by
              simp [List.map_reverse, m_tv]
            rw [hstk]
            refine m_Wback (z := z) hS hc hR hle1.1 (va_runV (As := as.map (m_tv G)) (b := G.1 + o) (C := m_own z) (own := m_own y) (n := m_np z) (index := idx) (bytes := m_bytes z) (maxL := m_maxL z) (ret := m_retT z) (Ts := m_tbl) ⟨hx, hb, hml, hown, hts⟩ hM
              (cwV (m_np z) hts ?_ rfl rfl rfl ⟨hcl1, by rw [hcl1]; exact hmh, by rw [hcl1]; exact hvh, hnp⟩ ⟨Nat.le_trans (m_ble h8) hfr, by have := m_ble h9; show 8 + (m_maxL z + 11) + m_loc z ≤ R.locals; omega⟩)
              ⟨m_Pz_blind, ?_, fun U hU hW => ⟨by simp [m_tv], by rw [hU]; exact hR, m_KS.warm hW hK, by rw [hU, hR.1]; omega⟩⟩ rfl (by have := m_beq h2; rw [List.length_cons, this] at hlen0; simpa using hlen0) hL.1 rfl (lv_room (m_okr_le G hokc.1)) hd ⟨?_, ?_⟩) ?_
            · intro w hw
              unfold wsV at hw
              rcases List.mem_append.mp hw with hw | hw
              · simp only [List.mem_cons, List.not_mem_nil, or_false] at hw
                rcases hw with rfl | rfl | rfl | rfl
                · exact ⟨m_in (m_w_mem h5) rfl, Or.inl rfl⟩
                · exact ⟨m_in (m_w_mem hw1) rfl, Or.inl rfl⟩
                · exact ⟨m_in (m_w_mem h6) rfl, Or.inl rfl⟩
                · exact ⟨m_in (m_w_mem hw2) rfl, Or.inl rfl⟩
              · exact m_good_wz hz w hw
            · have hrecv := va_recv hK.1 hR.2.1 (m_clAt _ hrc) (m_ws_at hof)
              rw [hnamec]
              exact hrecv
            · have := hle2.1; omega
            · have h9a := hle1.2; have h9b := hle2.2; omega
            · intro H1 locs1 hR1 hS1 hc1
              have := nx _ _ _ _ hst H1 locs1 lsA (cells + (h1'.length - h.length)) (slots + (m_sz h1' - m_sz h)) hR1 hS1 hc1 hL (by have h9a := hle1.1; have h9b := hle2.1; omega) (by have h9a := hle1.2; have h9b := hle2.2; omega)
              rw [hn, List.map_append] at this
              exact this
          · cases hst
      · rename_i j as r harg
        cases hz9 : Nat.blt 999 z with
        | false => rw [hz9] at hst; cases hst
        | true =>
          rw [hz9] at hst
          simp only [cond_true] at hst
          have hz' := m_blt hz9
          have hz8 : Nat.blt z 900 = false := Bool.eq_false_iff.mpr (fun q => by have := m_blt q; omega)
          rw [hz8] at hI
          simp only [cond_false, Bool.and_eq_true] at hI
          obtain ⟨⟨⟨⟨h1, h2⟩, h3⟩, h4⟩, h5⟩ := hI
          cases hokc : m_okc as r with
          | false => rw [hokc] at hst; cases hst
          | true =>
          rw [hokc] at hst
          simp only [cond_true] at hst
          simp only [m_okc, Bool.and_eq_true] at hokc
          obtain ⟨x, hq, hst⟩ := Option.bind_eq_some_iff.mp hst
          obtain ⟨hlen0, hst0⟩ := m_args_st harg
          rw [hst0]
          have hstk : ((Value.retAddr j :: as).reverse ++ r).map (m_tv G) = (as.map (m_tv G)).reverse ++ Value.ref (G.2.1 j) :: r.map (m_tv G) := by
            simp [List.map_reverse, m_tv]
          rw [hstk]
          have hj : j < 2 := by
            unfold m_str at hq
            cases hb2 : Nat.blt j 2 with
            | true => exact m_blt hb2
            | false => rw [hb2] at hq; cases hq
          · have := nx _ _ _ _ hst H locs lsA cells slots hR hS hc hL hcl hsl
            rw [hn] at this
            have hna : as.length + 1 = (bif Nat.beq z 1000 then 1 else 2) := by
              rw [List.length_cons] at hlen0
              rw [hlen0]
              exact m_beq h3
            exact m_Wstr F hK.2.2.2.2.2.2.2.2 hR hS hL.1 hq hj ⟨by omega, m_blt h2⟩ hna (m_in (m_w_mem h1) rfl) (m_okr_le G hokc.1) (m_ble h4) (m_ble h5) hd this (by omega) (by omega)
      · cases hst
    · cases hst
  · -- invokestatic
    rename_i idx
    obtain rfl := hlen' rfl
    have hn := hnx' rfl
    split at hst
    · rename_i z na
      simp only [m_okI] at hI
      split at hst
      · rename_i as r harg
        cases hokc : m_okc as r with
        | false => rw [hokc] at hst; cases hst
        | true =>
        rw [hokc] at hst
        simp only [cond_true] at hst
        simp only [Bool.and_eq_true] at hI
        obtain ⟨⟨⟨⟨⟨⟨h1, h2⟩, h3⟩, h4⟩, h5⟩, h6⟩, h7⟩ := hI
        have hz := m_blt h1
        obtain ⟨⟨hw1, hw2⟩, hcl1, hcl2, hnp, hmh, hvh⟩ := m_okM_d hz
        rw [h4] at hw1
        simp only [m_okc, Bool.and_eq_true] at hokc
        obtain ⟨hlen0, hst0⟩ := m_args_st harg
        obtain ⟨rv1, h1', hq, hst, hle1, hle2⟩ := m_callgo ih hst
        have hM := m_met ih hz hq hokc.2 (by rw [hlen0]; exact m_ble h3)
        have hini := m_in (m_w_mem hw2) rfl
        have hstat := m_in (m_w_mem hw1) rfl
        rw [hst0]
        have hstk : (as.reverse ++ r).map (m_tv G) = (as.map (m_tv G)).reverse ++ r.map (m_tv G) := by
          simp [List.map_reverse]
        rw [hstk]
        have fin : ∀ (H1 : Heap) (locs1 : List Loc), m_Rel G h1' H1 → va_S (m_A G) s.heap H1 locs1 → s.heap.size + (cells + (h1'.length - h.length)) = H1.size → W p l e R s m args below meth c H1 locs1 (cells + (h1'.length - h.length)) (slots + (m_sz h1' - m_sz h)) Q (F0 m (pc + 3) lsA (rv1.toList.map (m_tv G) ++ r.map (m_tv G))) := by
          intro H1 locs1 hR1 hS1 hc1
          have := nx _ _ _ _ hst H1 locs1 lsA (cells + (h1'.length - h.length)) (slots + (m_sz h1' - m_sz h)) hR1 hS1 hc1 hL (by have h9a := hle1.1; have h9b := hle2.1; omega) (by have h9a := hle1.2; have h9b := hle2.2; omega)
          rw [hn, List.map_append] at this
          exact this
        have hpre : PreS s H (m_Pz G h as) (as.map (m_tv G)) := ⟨m_Pz_blind, fun U hU hW => ⟨rfl, by rw [hU]; exact hR, m_KS.warm hW hK, by rw [hU, hR.1]; omega⟩⟩
        have hnn : (as.map (m_tv G)).length = m_np z := by rw [List.length_map, hlen0]; exact m_beq h2
        have hrm : (m_rm z h h1').frames + 1 ≤ R.frames ∧ 8 + (m_maxL z + 11) + (m_rm z h h1').locals ≤ R.locals := ⟨Nat.le_trans (m_ble h6) hfr, by have := m_ble h7; show 8 + (m_maxL z + 11) + m_loc z ≤ R.locals; omega⟩
        have hroom : cells + (h1'.length - h.length) ≤ R.cells ∧ slots + (m_sz h1' - m_sz h) ≤ R.slots := ⟨by have := hle2.1; omega, by have h9a := hle1.2; have h9b := hle2.2; omega⟩
        rcases Bool.or_eq_true _ _ ▸ h5 with h5 | h5
        · refine m_Wback (z := z) hS hc hR hle1.1 (va_runS (As := as.map (m_tv G)) (own := m_own y) (n := m_np z) (index := idx) (bytes := m_bytes z) (maxL := m_maxL z) (ret := m_retT z) (Ts := m_tbl) ⟨hx, hb, hml, hown, hts⟩ hM
            (va_cwS (m_np z) hts ?_ rfl rfl rfl ⟨by rw [hcl1]; exact hmh, by rw [hcl1]; exact hvh, hnp⟩ hrm) hpre rfl hnn hL.1 rfl (lv_room (m_okr_le G hokc.1)) hd hroom) fin
          intro w hw
          unfold va_wsS at hw
          rcases List.mem_append.mp hw with hw | hw
          · simp only [List.mem_cons, List.not_mem_nil, or_false] at hw
            rcases hw with rfl | rfl | rfl
            · exact ⟨m_in (m_w_mem h5) rfl, Or.inl rfl⟩
            · exact ⟨hstat, Or.inl rfl⟩
            · rw [hcl1]; exact ⟨hini, Or.inl rfl⟩
          · exact m_good_wz hz w hw
        · simp only [Bool.and_eq_true] at h5
          obtain ⟨⟨g1, g2⟩, g3⟩ := h5
          have g3 := of_decide_eq_true g3
          obtain rfl := m_beq g1
          obtain rfl := m_beq g2
          refine m_Wback (z := 88) hS hc hR hle1.1 (va_runSN (As := as.map (m_tv G)) (own := m_own y) (host := RX7) (n := m_np 88) (index := 104) (bytes := m_bytes 88) (maxL := m_maxL 88) (ret := m_retT 88) (Ts := m_tbl) ⟨hx, hb, hml, hown, hts⟩ hM
            ⟨va_cnB (m_np 88) hts (m_good_wz hz) rfl rfl rfl (by rw [g3]; exact hK.2.2.2.2.2.1) (by rw [hcl1]; exact hts _ hini) ⟨by rw [hcl1]; exact hmh, by rw [hcl1]; exact hvh, hnp⟩ hrm, hts _ hstat, trivial⟩ hpre rfl hnn hL.1 rfl (lv_room (m_okr_le G hokc.1)) hd hroom) fin
      · cases hst
    · cases hst
  · -- invokespecial
    rename_i idx
    obtain rfl := hlen' rfl
    have hn := hnx' rfl
    split at hst
    · rename_i z0
      simp only [m_okI, Bool.and_eq_true] at hI
      obtain ⟨⟨h1, h2⟩, h3⟩ := hI
      split at hst
      · rename_i o r
        cases hokr : m_okr r with
        | false => rw [hokr] at hst; cases hst
        | true =>
        rw [hokr] at hst
        simp only [cond_true] at hst
        have hsum := m_okr_le G hokr
        have := nx _ _ _ _ hst H locs lsA cells slots hR hS hc hL hcl hsl
        rw [hn] at this
        have h2' := m_ble h2
        have h3' := m_ble h3
        exact W.objInit hx hb hown (hts _ (m_in (m_w_mem h1) rfl)) (hts _ (m_in m_mem_oi rfl)) (hts _ (m_in m_mem_oc rfl)) (g := F0 m pc lsA (.ref (G.1 + o) :: r.map (m_tv G))) rfl (by show lsA.size = c.maxLocals; rw [hml]; exact hL.1) rfl hd (by omega) (by show 2 * 0 + _ + 12 ≤ _; omega) this
      · cases hst
    · rename_i z na
      simp only [m_okI] at hI
      split at hst
      · rename_i o as r harg
        cases hokc : m_okc as r with
        | false => rw [hokc] at hst; cases hst
        | true =>
        rw [hokc] at hst
        simp only [cond_true] at hst
        simp only [Bool.and_eq_true, Bool.not_eq_true'] at hI
        obtain ⟨⟨⟨⟨⟨⟨⟨⟨h1, h2⟩, h3⟩, h4⟩, h5⟩, h6⟩, h7⟩, h8⟩, h9⟩ := hI
        have hz := m_blt h1
        have h6 := of_decide_eq_true h6
        have h7 := of_decide_eq_true h7
        obtain ⟨⟨hw1, hw2⟩, hcl1, hcl2, hnp, hmh, hvh⟩ := m_okM_d hz
        rw [h4] at hw1
        simp only [m_okc, Bool.and_eq_true] at hokc
        obtain ⟨hlen0, hst0⟩ := m_args_st harg
        obtain ⟨rv1, h1', hq, hst, hle1, hle2⟩ := m_callgo ih hst
        have hcats : m_cats (.ref o :: as) = true := by simp [m_cats, m_cat, hokc.2]
        have hM := m_met ih hz hq hcats (by rw [hlen0]; exact m_ble h3)
        rw [hst0]
        have hstk : ((Value.ref o :: as).reverse ++ r).map (m_tv G) = (as.map (m_tv G)).reverse ++ Value.ref (G.1 + o) :: r.map (m_tv G) := by
          simp [List.map_reverse, m_tv]
        rw [hstk]
        have hpre : PreS s H (m_Pz G h (.ref o :: as)) (.ref (G.1 + o) :: as.map (m_tv G)) := ⟨m_Pz_blind, fun U hU hW => ⟨rfl, by rw [hU]; exact hR, m_KS.warm hW hK, by rw [hU, hR.1]; omega⟩⟩
        have hrm : (m_rm z h h1').frames + 1 ≤ R.frames ∧ 8 + (m_maxL z + 11) + (m_rm z h h1').locals ≤ R.locals := ⟨Nat.le_trans (m_ble h8) hfr, by have := m_ble h9; show 8 + (m_maxL z + 11) + m_loc z ≤ R.locals; omega⟩
        refine m_Wback (z := z) hS hc hR hle1.1 (va_runI (As := as.map (m_tv G)) (b := G.1 + o) (own := m_own y) (n := m_np z) (index := idx) (bytes := m_bytes z) (maxL := m_maxL z) (Ts := m_tbl) ⟨hx, hb, hml, hown, hts⟩ hM
          (cwI (m_np z) hts (m_good_wz hz) (by rw [m_wz, h7]) rfl rfl (by rw [hcl1]; exact hts _ (m_in (m_w_mem hw2) rfl)) (hts _ (m_in (m_w_mem h5) rfl)) (hts _ (m_in (m_w_mem hw1) rfl)) h6 ⟨by rw [hcl1]; exact hmh, by rw [hcl1]; exact hvh, hnp⟩ hrm) hpre rfl (by have := m_beq h2; rw [List.length_cons, this] at hlen0; simpa using hlen0) hL.1 rfl (lv_room (m_okr_le G hokc.1)) hd ⟨by have := hle2.1; omega, by have h9a := hle1.2; have h9b := hle2.2; omega⟩) ?_
        intro H1 locs1 hR1 hS1 hc1
        have := nx _ _ _ _ hst H1 locs1 lsA (cells + (h1'.length - h.length)) (slots + (m_sz h1' - m_sz h)) hR1 hS1 hc1 hL (by have h9a := hle1.1; have h9b := hle2.1; omega) (by have h9a := hle1.2; have h9b := hle2.2; omega)
        rw [hn, List.map_append] at this
        exact this
      · cases hst
    · cases hst
  · -- return_
    obtain rfl := hlen' rfl
    split at hst
    · cases hst
      exact ret H locs lsA cells slots pc hR hS hc (by omega) (by omega) ⟨hd, of_decide_eq_true hI⟩
    · cases hst
  · -- ireturn
    obtain rfl := hlen' rfl
    split at hst
    · rename_i x
      have hI : m_retT y = some (bif Nat.beq (m_rt y) 0 then .int else bif Nat.beq (m_rt y) 1 then .boolean else .char) := of_decide_eq_true hI
      cases h0 : Nat.beq (m_rt y) 0 with
      | true =>
        rw [h0] at hst hI
        cases hst
        exact ret H locs lsA cells slots pc hR hS hc (by omega) (by omega) ⟨hd, .int, hI, rfl⟩
      | false =>
        rw [h0] at hst hI
        simp only [cond_false] at hst hI
        cases h1 : Nat.beq (m_rt y) 1 with
        | true =>
          rw [h1] at hst hI
          simp only [cond_true] at hst hI
          split at hst
          · rename_i hx01
            cases hst
            exact ret H locs lsA cells slots pc hR hS hc (by omega) (by omega) ⟨hd, .boolean, hI, by rcases hx01 with rfl | rfl <;> rfl⟩
          · cases hst
        | false =>
          rw [h1] at hst hI
          simp only [cond_false] at hst hI
          split at hst
          · rename_i hx01
            cases hst
            refine ret H locs lsA cells slots pc hR hS hc (by omega) (by omega) ⟨hd, .char, hI, ?_⟩
            rw [show narrow .char (.int x) = .int (vp_nar .char x) from rfl, hx01]
          · cases hst
    · cases hst
  · -- areturn
    obtain rfl := hlen' rfl
    split at hst
    · cases hst
      exact ret H locs lsA cells slots pc hR hS hc (by omega) (by omega) ⟨hd, of_decide_eq_true hI⟩
    · cases hst
  · -- new
    rename_i idx
    obtain rfl := hlen' rfl
    have hn := hnx' rfl
    have hIn := m_one (P := fun a => m_okI y pc (.new idx) a c0) (Q := fun t => t < 9 ∧ m_w (m_pLn (m_rc y) idx) (.classLink (m_own y) idx (m_C t).1) = true) hI rfl (fun _ _ _ => rfl) (fun v hv => by
      have hv : (Nat.blt v 9 && m_w (m_pLn (m_rc y) idx) (.classLink (m_own y) idx (m_C v).1)) = true := hv
      simp only [Bool.and_eq_true] at hv
      exact ⟨m_blt hv.1, hv.2⟩)
    have hle := gr _ _ _ _ hst
    have hl1 : (h ++ [Sum.inr (m_a0 a, m_def (m_a0 a))] : MH).length = h.length + 1 := by simp
    have hz1 : m_sz (h ++ [.inr (m_a0 a, m_def (m_a0 a))]) = m_sz h + (m_C (m_a0 a)).2.2 := by rw [m_sz_push, ← m_def_len _ hIn.1]; rfl
    have hle1 := hle.1
    have hle2 := hle.2
    rw [hl1] at hle1
    rw [hz1] at hle2
    refine m_Wnew hx hb hts hown hK hR hS hbase hc hIn.1 (m_in (m_w_mem hIn.2) rfl) (by omega) (by omega) hd fun H1 locs1 hR1 hS1 hc1 => ?_
    have := nx _ _ _ _ hst H1 locs1 lsA (cells + 1) (slots + (m_C (m_a0 a)).2.2) hR1 hS1 hc1 hL (by rw [hl1]; omega) (by rw [hz1]; omega)
    rw [hn] at this
    exact this
  · -- newarray
    rename_i at0
    obtain rfl := hlen' rfl
    have hn := hnx' rfl
    split at hst
    · rename_i z r
      split at hst
      · cases hst
      · rename_i hzn
        have hle := gr _ _ _ _ hst
        have hl1 : (h ++ [Sum.inl (m_a0 a, z.toNatClampNeg, Sum.inl fun _ => 0)] : MH).length = h.length + 1 := by simp
        have hz1 : m_sz (h ++ [.inl (m_a0 a, z.toNatClampNeg, .inl fun _ => 0)]) = m_sz h + z.toNatClampNeg := by rw [m_sz_push]; rfl
        have hle1 := hle.1
        have hle2 := hle.2
        rw [hl1] at hle1
        rw [hz1] at hle2
        have fin : ∀ (H1 : Heap) (locs1 : List Loc), m_Rel G (h ++ [.inl (m_a0 a, z.toNatClampNeg, .inl fun _ => 0)]) H1 → va_S (m_A G) s.heap H1 locs1 → s.heap.size + (cells + 1) = H1.size → W p l e R s m args below meth c H1 locs1 (cells + 1) (slots + z.toNatClampNeg) Q (F0 m (pc + 2) lsA (.ref (G.1 + h.length) :: r.map (m_tv G))) := by
          intro H1 locs1 hR1 hS1 hc1
          have := nx _ _ _ _ hst H1 locs1 lsA (cells + 1) (slots + z.toNatClampNeg) hR1 hS1 hc1 hL (by rw [hl1]; omega) (by rw [hz1]; omega)
          rw [hn] at this
          exact this
        cases at0 with
        | int =>
          have h0 := m_one (P := fun a => m_okI y pc (.newarray .int) a c0) (Q := fun t => t = 0) hI rfl (fun _ _ _ => rfl) (fun v hv => m_beq hv)
          rw [h0] at fin
          exact m_Wnewi hx hb hts hK hR hS hbase hc hzn (by omega) (by omega) hd fin
        | char =>
          have h0 := m_one (P := fun a => m_okI y pc (.newarray .char) a c0) (Q := fun t => t = 1) hI rfl (fun _ _ _ => rfl) (fun v hv => m_beq hv)
          rw [h0] at fin
          exact m_Wnewc hx hb hts hK hR hS hbase hc hzn (by omega) (by omega) hd fin
        | _ => cases hI
    · cases hst
  · -- anewarray
    rename_i idx
    obtain rfl := hlen' rfl
    have hn := hnx' rfl
    split at hst
    · rename_i z r
      split at hst
      · cases hst
      · rename_i hzn
        have hle := gr _ _ _ _ hst
        have hl1 : (h ++ [Sum.inl (2, z.toNatClampNeg, Sum.inr (Sum.inr (Sum.inr (Sum.inr fun _ => none))))] : MH).length = h.length + 1 := by simp
        have hz1 : m_sz (h ++ [.inl (2, z.toNatClampNeg, .inr (.inr (.inr (.inr fun _ => none))))]) = m_sz h + z.toNatClampNeg := by rw [m_sz_push]; rfl
        have hle1 := hle.1
        have hle2 := hle.2
        rw [hl1] at hle1
        rw [hz1] at hle2
        have hI2 : m_w (m_pLn (m_rc y) idx) (.classLink (m_own y) idx RX1) = true := hI
        refine m_Wnewq hx hb hts hown hK hR hS hbase hc (m_in (m_w_mem hI2) rfl) hzn (by omega) (by omega) hd fun H1 locs1 hR1 hS1 hc1 => ?_
        have := nx _ _ _ _ hst H1 locs1 lsA (cells + 1) (slots + z.toNatClampNeg) hR1 hS1 hc1 hL (by rw [hl1]; omega) (by rw [hz1]; omega)
        rw [hn] at this
        exact this
    · cases hst
  · -- the pure ones
    split at hst
    · rename_i l' s' hp
      have hne : m_sws i = false ∧ m_on i = true := by
        unfold m_pure at hp
        split at hp <;> first | exact ⟨rfl, rfl⟩ | cases hp
      obtain rfl := hlen' hne.1
      have hn := hnx' hne.2
      refine m_snd_pure F hp hd rfl hI hL fun lsA' hL' => ?_
      have := nx _ _ _ _ hst H locs lsA' cells slots hR hS hc hL' hcl hsl
      rw [hn] at this
      exact this
    · cases hst
theorem m_snd (G : m_GT) (l : Launch) : ∀ n, m_Snd n G l := by
  intro n
  induction n with
  | zero => intro y k ls st h rv hF hr; cases hr
  | succ n ih => exact m_snd_step ih
end MSTEP
end
