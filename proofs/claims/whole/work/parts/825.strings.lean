/-! String.length, charAt, indexOf on the two constants, as the JDK's code: by contracts -/
theorem eJ0_length_8abf5_0 : decode cJ0_length_8abf5 0 = .ok (.aload_n 0, 1) := by decide +kernel
theorem eJ0_length_8abf5_1 : decode cJ0_length_8abf5 1 = .ok (.getfield 9, 3) := by decide +kernel
theorem eJ0_length_8abf5_4 : decode cJ0_length_8abf5 4 = .ok (.arraylength, 1) := by decide +kernel
theorem eJ0_length_8abf5_5 : decode cJ0_length_8abf5 5 = .ok (.aload_n 0, 1) := by decide +kernel
theorem eJ0_length_8abf5_6 : decode cJ0_length_8abf5 6 = .ok (.invokevirtual 335, 3) := by decide +kernel
theorem eJ0_length_8abf5_9 : decode cJ0_length_8abf5 9 = .ok (.ishr, 1) := by decide +kernel
theorem eJ0_length_8abf5_10 : decode cJ0_length_8abf5 10 = .ok (.ireturn, 1) := by decide +kernel
theorem eJ0_coder_7d493_0 : decode cJ0_coder_7d493 0 = .ok (.getstatic 38, 3) := by decide +kernel
theorem eJ0_coder_7d493_3 : decode cJ0_coder_7d493 3 = .ok (.ifCond .eq 10, 3) := by decide +kernel
theorem eJ0_coder_7d493_6 : decode cJ0_coder_7d493 6 = .ok (.aload_n 0, 1) := by decide +kernel
theorem eJ0_coder_7d493_7 : decode cJ0_coder_7d493 7 = .ok (.getfield 15, 3) := by decide +kernel
theorem eJ0_coder_7d493_10 : decode cJ0_coder_7d493 10 = .ok (.goto 4, 3) := by decide +kernel
theorem eJ0_coder_7d493_13 : decode cJ0_coder_7d493 13 = .ok (.iconst 1, 1) := by decide +kernel
theorem eJ0_coder_7d493_14 : decode cJ0_coder_7d493 14 = .ok (.ireturn, 1) := by decide +kernel
theorem eJ0_charAt_5068e_0 : decode cJ0_charAt_5068e 0 = .ok (.aload_n 0, 1) := by decide +kernel
theorem eJ0_charAt_5068e_1 : decode cJ0_charAt_5068e 1 = .ok (.invokevirtual 492, 3) := by decide +kernel
theorem eJ0_charAt_5068e_4 : decode cJ0_charAt_5068e 4 = .ok (.ifCond .eq 12, 3) := by decide +kernel
theorem eJ0_charAt_5068e_7 : decode cJ0_charAt_5068e 7 = .ok (.aload_n 0, 1) := by decide +kernel
theorem eJ0_charAt_5068e_8 : decode cJ0_charAt_5068e 8 = .ok (.getfield 9, 3) := by decide +kernel
theorem eJ0_charAt_5068e_11 : decode cJ0_charAt_5068e 11 = .ok (.iload_n 1, 1) := by decide +kernel
theorem eJ0_charAt_5068e_12 : decode cJ0_charAt_5068e 12 = .ok (.invokestatic 495, 3) := by decide +kernel
theorem eJ0_charAt_5068e_15 : decode cJ0_charAt_5068e 15 = .ok (.ireturn, 1) := by decide +kernel
theorem eJ0_charAt_5068e_16 : decode cJ0_charAt_5068e 16 = .ok (.aload_n 0, 1) := by decide +kernel
theorem eJ0_charAt_5068e_17 : decode cJ0_charAt_5068e 17 = .ok (.getfield 9, 3) := by decide +kernel
theorem eJ0_charAt_5068e_20 : decode cJ0_charAt_5068e 20 = .ok (.iload_n 1, 1) := by decide +kernel
theorem eJ0_charAt_5068e_21 : decode cJ0_charAt_5068e 21 = .ok (.invokestatic 498, 3) := by decide +kernel
theorem eJ0_charAt_5068e_24 : decode cJ0_charAt_5068e 24 = .ok (.ireturn, 1) := by decide +kernel
theorem eJ0_isLatin1_aae02_0 : decode cJ0_isLatin1_aae02 0 = .ok (.getstatic 38, 3) := by decide +kernel
theorem eJ0_isLatin1_aae02_3 : decode cJ0_isLatin1_aae02 3 = .ok (.ifCond .eq 14, 3) := by decide +kernel
theorem eJ0_isLatin1_aae02_6 : decode cJ0_isLatin1_aae02 6 = .ok (.aload_n 0, 1) := by decide +kernel
theorem eJ0_isLatin1_aae02_7 : decode cJ0_isLatin1_aae02 7 = .ok (.getfield 15, 3) := by decide +kernel
theorem eJ0_isLatin1_aae02_10 : decode cJ0_isLatin1_aae02 10 = .ok (.ifCond .ne 7, 3) := by decide +kernel
theorem eJ0_isLatin1_aae02_13 : decode cJ0_isLatin1_aae02 13 = .ok (.iconst 1, 1) := by decide +kernel
theorem eJ0_isLatin1_aae02_14 : decode cJ0_isLatin1_aae02 14 = .ok (.goto 4, 3) := by decide +kernel
theorem eJ0_isLatin1_aae02_17 : decode cJ0_isLatin1_aae02 17 = .ok (.iconst 0, 1) := by decide +kernel
theorem eJ0_isLatin1_aae02_18 : decode cJ0_isLatin1_aae02 18 = .ok (.ireturn, 1) := by decide +kernel
theorem eJ1_charAt_3b067_0 : decode cJ1_charAt_3b067 0 = .ok (.iload_n 1, 1) := by decide +kernel
theorem eJ1_charAt_3b067_1 : decode cJ1_charAt_3b067 1 = .ok (.aload_n 0, 1) := by decide +kernel
theorem eJ1_charAt_3b067_2 : decode cJ1_charAt_3b067 2 = .ok (.arraylength, 1) := by decide +kernel
theorem eJ1_charAt_3b067_3 : decode cJ1_charAt_3b067 3 = .ok (.invokestatic 9, 3) := by decide +kernel
theorem eJ1_charAt_3b067_6 : decode cJ1_charAt_3b067 6 = .ok (.aload_n 0, 1) := by decide +kernel
theorem eJ1_charAt_3b067_7 : decode cJ1_charAt_3b067 7 = .ok (.iload_n 1, 1) := by decide +kernel
theorem eJ1_charAt_3b067_8 : decode cJ1_charAt_3b067 8 = .ok (.baload, 1) := by decide +kernel
theorem eJ1_charAt_3b067_9 : decode cJ1_charAt_3b067 9 = .ok (.sipush 255, 3) := by decide +kernel
theorem eJ1_charAt_3b067_12 : decode cJ1_charAt_3b067 12 = .ok (.iand, 1) := by decide +kernel
theorem eJ1_charAt_3b067_13 : decode cJ1_charAt_3b067 13 = .ok (.i2c, 1) := by decide +kernel
theorem eJ1_charAt_3b067_14 : decode cJ1_charAt_3b067 14 = .ok (.ireturn, 1) := by decide +kernel
theorem eJ0_checkIndex_df160_0 : decode cJ0_checkIndex_df160 0 = .ok (.iload_n 0, 1) := by decide +kernel
theorem eJ0_checkIndex_df160_1 : decode cJ0_checkIndex_df160 1 = .ok (.iload_n 1, 1) := by decide +kernel
theorem eJ0_checkIndex_df160_2 : decode cJ0_checkIndex_df160 2 = .ok (.getstatic 1053, 3) := by decide +kernel
theorem eJ0_checkIndex_df160_5 : decode cJ0_checkIndex_df160 5 = .ok (.invokestatic 1059, 3) := by decide +kernel
theorem eJ0_checkIndex_df160_8 : decode cJ0_checkIndex_df160 8 = .ok (.pop, 1) := by decide +kernel
theorem eJ0_checkIndex_df160_9 : decode cJ0_checkIndex_df160 9 = .ok (.return_, 1) := by decide +kernel
theorem eJ3_checkIndex_8e157_0 : decode cJ3_checkIndex_8e157 0 = .ok (.iload_n 0, 1) := by decide +kernel
theorem eJ3_checkIndex_8e157_1 : decode cJ3_checkIndex_8e157 1 = .ok (.ifCond .lt 8, 3) := by decide +kernel
theorem eJ3_checkIndex_8e157_4 : decode cJ3_checkIndex_8e157 4 = .ok (.iload_n 0, 1) := by decide +kernel
theorem eJ3_checkIndex_8e157_5 : decode cJ3_checkIndex_8e157 5 = .ok (.iload_n 1, 1) := by decide +kernel
theorem eJ3_checkIndex_8e157_6 : decode cJ3_checkIndex_8e157 6 = .ok (.if_icmp .lt 10, 3) := by decide +kernel
theorem eJ3_checkIndex_8e157_9 : decode cJ3_checkIndex_8e157 9 = .ok (.aload_n 2, 1) := by decide +kernel
theorem eJ3_checkIndex_8e157_10 : decode cJ3_checkIndex_8e157 10 = .ok (.iload_n 0, 1) := by decide +kernel
theorem eJ3_checkIndex_8e157_11 : decode cJ3_checkIndex_8e157 11 = .ok (.iload_n 1, 1) := by decide +kernel
theorem eJ3_checkIndex_8e157_12 : decode cJ3_checkIndex_8e157 12 = .ok (.invokestatic 95, 3) := by decide +kernel
theorem eJ3_checkIndex_8e157_15 : decode cJ3_checkIndex_8e157 15 = .ok (.athrow, 1) := by decide +kernel
theorem eJ3_checkIndex_8e157_16 : decode cJ3_checkIndex_8e157 16 = .ok (.iload_n 0, 1) := by decide +kernel
theorem eJ3_checkIndex_8e157_17 : decode cJ3_checkIndex_8e157 17 = .ok (.ireturn, 1) := by decide +kernel
theorem eJ0_indexOf_0f7a4_0 : decode cJ0_indexOf_0f7a4 0 = .ok (.aload_n 0, 1) := by decide +kernel
theorem eJ0_indexOf_0f7a4_1 : decode cJ0_indexOf_0f7a4 1 = .ok (.iload_n 1, 1) := by decide +kernel
theorem eJ0_indexOf_0f7a4_2 : decode cJ0_indexOf_0f7a4 2 = .ok (.iconst 0, 1) := by decide +kernel
theorem eJ0_indexOf_0f7a4_3 : decode cJ0_indexOf_0f7a4 3 = .ok (.invokevirtual 633, 3) := by decide +kernel
theorem eJ0_indexOf_0f7a4_6 : decode cJ0_indexOf_0f7a4 6 = .ok (.ireturn, 1) := by decide +kernel
theorem eJ0_indexOf_7cf53_0 : decode cJ0_indexOf_7cf53 0 = .ok (.aload_n 0, 1) := by decide +kernel
theorem eJ0_indexOf_7cf53_1 : decode cJ0_indexOf_7cf53 1 = .ok (.invokevirtual 492, 3) := by decide +kernel
theorem eJ0_indexOf_7cf53_4 : decode cJ0_indexOf_7cf53 4 = .ok (.ifCond .eq 19, 3) := by decide +kernel
theorem eJ0_indexOf_7cf53_7 : decode cJ0_indexOf_7cf53 7 = .ok (.aload_n 0, 1) := by decide +kernel
theorem eJ0_indexOf_7cf53_8 : decode cJ0_indexOf_7cf53 8 = .ok (.getfield 9, 3) := by decide +kernel
theorem eJ0_indexOf_7cf53_11 : decode cJ0_indexOf_7cf53 11 = .ok (.iload_n 1, 1) := by decide +kernel
theorem eJ0_indexOf_7cf53_12 : decode cJ0_indexOf_7cf53 12 = .ok (.iload_n 2, 1) := by decide +kernel
theorem eJ0_indexOf_7cf53_13 : decode cJ0_indexOf_7cf53 13 = .ok (.aload_n 0, 1) := by decide +kernel
theorem eJ0_indexOf_7cf53_14 : decode cJ0_indexOf_7cf53 14 = .ok (.invokevirtual 505, 3) := by decide +kernel
theorem eJ0_indexOf_7cf53_17 : decode cJ0_indexOf_7cf53 17 = .ok (.invokestatic 637, 3) := by decide +kernel
theorem eJ0_indexOf_7cf53_20 : decode cJ0_indexOf_7cf53 20 = .ok (.goto 16, 3) := by decide +kernel
theorem eJ0_indexOf_7cf53_23 : decode cJ0_indexOf_7cf53 23 = .ok (.aload_n 0, 1) := by decide +kernel
theorem eJ0_indexOf_7cf53_24 : decode cJ0_indexOf_7cf53 24 = .ok (.getfield 9, 3) := by decide +kernel
theorem eJ0_indexOf_7cf53_27 : decode cJ0_indexOf_7cf53 27 = .ok (.iload_n 1, 1) := by decide +kernel
theorem eJ0_indexOf_7cf53_28 : decode cJ0_indexOf_7cf53 28 = .ok (.iload_n 2, 1) := by decide +kernel
theorem eJ0_indexOf_7cf53_29 : decode cJ0_indexOf_7cf53 29 = .ok (.aload_n 0, 1) := by decide +kernel
theorem eJ0_indexOf_7cf53_30 : decode cJ0_indexOf_7cf53 30 = .ok (.invokevirtual 505, 3) := by decide +kernel
theorem eJ0_indexOf_7cf53_33 : decode cJ0_indexOf_7cf53 33 = .ok (.invokestatic 640, 3) := by decide +kernel
theorem eJ0_indexOf_7cf53_36 : decode cJ0_indexOf_7cf53 36 = .ok (.ireturn, 1) := by decide +kernel
theorem eJ1_indexOf_4cfef_0 : decode cJ1_indexOf_4cfef 0 = .ok (.iload_n 1, 1) := by decide +kernel
theorem eJ1_indexOf_4cfef_1 : decode cJ1_indexOf_4cfef 1 = .ok (.invokestatic 88, 3) := by decide +kernel
theorem eJ1_indexOf_4cfef_4 : decode cJ1_indexOf_4cfef 4 = .ok (.ifCond .ne 5, 3) := by decide +kernel
theorem eJ1_indexOf_4cfef_7 : decode cJ1_indexOf_4cfef 7 = .ok (.iconst (-1), 1) := by decide +kernel
theorem eJ1_indexOf_4cfef_8 : decode cJ1_indexOf_4cfef 8 = .ok (.ireturn, 1) := by decide +kernel
theorem eJ1_indexOf_4cfef_9 : decode cJ1_indexOf_4cfef 9 = .ok (.iload_n 2, 1) := by decide +kernel
theorem eJ1_indexOf_4cfef_10 : decode cJ1_indexOf_4cfef 10 = .ok (.iconst 0, 1) := by decide +kernel
theorem eJ1_indexOf_4cfef_11 : decode cJ1_indexOf_4cfef 11 = .ok (.invokestatic 92, 3) := by decide +kernel
theorem eJ1_indexOf_4cfef_14 : decode cJ1_indexOf_4cfef 14 = .ok (.istore_n 2, 1) := by decide +kernel
theorem eJ1_indexOf_4cfef_15 : decode cJ1_indexOf_4cfef 15 = .ok (.iload_n 3, 1) := by decide +kernel
theorem eJ1_indexOf_4cfef_16 : decode cJ1_indexOf_4cfef 16 = .ok (.aload_n 0, 1) := by decide +kernel
theorem eJ1_indexOf_4cfef_17 : decode cJ1_indexOf_4cfef 17 = .ok (.arraylength, 1) := by decide +kernel
theorem eJ1_indexOf_4cfef_18 : decode cJ1_indexOf_4cfef 18 = .ok (.invokestatic 38, 3) := by decide +kernel
theorem eJ1_indexOf_4cfef_21 : decode cJ1_indexOf_4cfef 21 = .ok (.istore_n 3, 1) := by decide +kernel
theorem eJ1_indexOf_4cfef_22 : decode cJ1_indexOf_4cfef 22 = .ok (.iload_n 2, 1) := by decide +kernel
theorem eJ1_indexOf_4cfef_23 : decode cJ1_indexOf_4cfef 23 = .ok (.iload_n 3, 1) := by decide +kernel
theorem eJ1_indexOf_4cfef_24 : decode cJ1_indexOf_4cfef 24 = .ok (.if_icmp .lt 5, 3) := by decide +kernel
theorem eJ1_indexOf_4cfef_27 : decode cJ1_indexOf_4cfef 27 = .ok (.iconst (-1), 1) := by decide +kernel
theorem eJ1_indexOf_4cfef_28 : decode cJ1_indexOf_4cfef 28 = .ok (.ireturn, 1) := by decide +kernel
theorem eJ1_indexOf_4cfef_29 : decode cJ1_indexOf_4cfef 29 = .ok (.aload_n 0, 1) := by decide +kernel
theorem eJ1_indexOf_4cfef_30 : decode cJ1_indexOf_4cfef 30 = .ok (.iload_n 1, 1) := by decide +kernel
theorem eJ1_indexOf_4cfef_31 : decode cJ1_indexOf_4cfef 31 = .ok (.iload_n 2, 1) := by decide +kernel
theorem eJ1_indexOf_4cfef_32 : decode cJ1_indexOf_4cfef 32 = .ok (.iload_n 3, 1) := by decide +kernel
theorem eJ1_indexOf_4cfef_33 : decode cJ1_indexOf_4cfef 33 = .ok (.invokestatic 95, 3) := by decide +kernel
theorem eJ1_indexOf_4cfef_36 : decode cJ1_indexOf_4cfef 36 = .ok (.ireturn, 1) := by decide +kernel
theorem eJ1_canEncode_9a6ad_0 : decode cJ1_canEncode_9a6ad 0 = .ok (.iload_n 0, 1) := by decide +kernel
theorem eJ1_canEncode_9a6ad_1 : decode cJ1_canEncode_9a6ad 1 = .ok (.ifCond .lt 14, 3) := by decide +kernel
theorem eJ1_canEncode_9a6ad_4 : decode cJ1_canEncode_9a6ad 4 = .ok (.iload_n 0, 1) := by decide +kernel
theorem eJ1_canEncode_9a6ad_5 : decode cJ1_canEncode_9a6ad 5 = .ok (.sipush 255, 3) := by decide +kernel
theorem eJ1_canEncode_9a6ad_8 : decode cJ1_canEncode_9a6ad 8 = .ok (.if_icmp .gt 7, 3) := by decide +kernel
theorem eJ1_canEncode_9a6ad_11 : decode cJ1_canEncode_9a6ad 11 = .ok (.iconst 1, 1) := by decide +kernel
theorem eJ1_canEncode_9a6ad_12 : decode cJ1_canEncode_9a6ad 12 = .ok (.goto 4, 3) := by decide +kernel
theorem eJ1_canEncode_9a6ad_15 : decode cJ1_canEncode_9a6ad 15 = .ok (.iconst 0, 1) := by decide +kernel
theorem eJ1_canEncode_9a6ad_16 : decode cJ1_canEncode_9a6ad 16 = .ok (.ireturn, 1) := by decide +kernel
theorem eJ1_indexOfChar_4cfef_0 : decode cJ1_indexOfChar_4cfef 0 = .ok (.iload_n 1, 1) := by decide +kernel
theorem eJ1_indexOfChar_4cfef_1 : decode cJ1_indexOfChar_4cfef 1 = .ok (.i2b, 1) := by decide +kernel
theorem eJ1_indexOfChar_4cfef_2 : decode cJ1_indexOfChar_4cfef 2 = .ok (.istore 4, 2) := by decide +kernel
theorem eJ1_indexOfChar_4cfef_4 : decode cJ1_indexOfChar_4cfef 4 = .ok (.iload_n 2, 1) := by decide +kernel
theorem eJ1_indexOfChar_4cfef_5 : decode cJ1_indexOfChar_4cfef 5 = .ok (.istore 5, 2) := by decide +kernel
theorem eJ1_indexOfChar_4cfef_7 : decode cJ1_indexOfChar_4cfef 7 = .ok (.iload 5, 2) := by decide +kernel
theorem eJ1_indexOfChar_4cfef_9 : decode cJ1_indexOfChar_4cfef 9 = .ok (.iload_n 3, 1) := by decide +kernel
theorem eJ1_indexOfChar_4cfef_10 : decode cJ1_indexOfChar_4cfef 10 = .ok (.if_icmp .ge 21, 3) := by decide +kernel
theorem eJ1_indexOfChar_4cfef_13 : decode cJ1_indexOfChar_4cfef 13 = .ok (.aload_n 0, 1) := by decide +kernel
theorem eJ1_indexOfChar_4cfef_14 : decode cJ1_indexOfChar_4cfef 14 = .ok (.iload 5, 2) := by decide +kernel
theorem eJ1_indexOfChar_4cfef_16 : decode cJ1_indexOfChar_4cfef 16 = .ok (.baload, 1) := by decide +kernel
theorem eJ1_indexOfChar_4cfef_17 : decode cJ1_indexOfChar_4cfef 17 = .ok (.iload 4, 2) := by decide +kernel
theorem eJ1_indexOfChar_4cfef_19 : decode cJ1_indexOfChar_4cfef 19 = .ok (.if_icmp .ne 6, 3) := by decide +kernel
theorem eJ1_indexOfChar_4cfef_22 : decode cJ1_indexOfChar_4cfef 22 = .ok (.iload 5, 2) := by decide +kernel
theorem eJ1_indexOfChar_4cfef_24 : decode cJ1_indexOfChar_4cfef 24 = .ok (.ireturn, 1) := by decide +kernel
theorem eJ1_indexOfChar_4cfef_25 : decode cJ1_indexOfChar_4cfef 25 = .ok (.iinc 5 1, 3) := by decide +kernel
theorem eJ1_indexOfChar_4cfef_28 : decode cJ1_indexOfChar_4cfef 28 = .ok (.goto (-21), 3) := by decide +kernel
theorem eJ1_indexOfChar_4cfef_31 : decode cJ1_indexOfChar_4cfef 31 = .ok (.iconst (-1), 1) := by decide +kernel
theorem eJ1_indexOfChar_4cfef_32 : decode cJ1_indexOfChar_4cfef 32 = .ok (.ireturn, 1) := by decide +kernel
set_option maxRecDepth 100000 in
theorem jc_J0_length_8abf5 : lw_tbl[170]? = some (.code yJ0_length_8abf5 cJ0_length_8abf5 1 (some .int)) := rfl
set_option maxRecDepth 100000 in
theorem jc_J0_coder_7d493 : lw_tbl[174]? = some (.code yJ0_coder_7d493 cJ0_coder_7d493 1 (some .byte)) := rfl
set_option maxRecDepth 100000 in
theorem jc_J0_charAt_5068e : lw_tbl[180]? = some (.code yJ0_charAt_5068e cJ0_charAt_5068e 2 (some .char)) := rfl
set_option maxRecDepth 100000 in
theorem jc_J0_isLatin1_aae02 : lw_tbl[184]? = some (.code yJ0_isLatin1_aae02 cJ0_isLatin1_aae02 1 (some .boolean)) := rfl
set_option maxRecDepth 100000 in
theorem jc_J1_charAt_3b067 : lw_tbl[187]? = some (.code yJ1_charAt_3b067 cJ1_charAt_3b067 2 (some .char)) := rfl
set_option maxRecDepth 100000 in
theorem jc_J0_checkIndex_df160 : lw_tbl[190]? = some (.code yJ0_checkIndex_df160 cJ0_checkIndex_df160 2 none) := rfl
set_option maxRecDepth 100000 in
theorem jc_J3_checkIndex_8e157 : lw_tbl[195]? = some (.code yJ3_checkIndex_8e157 cJ3_checkIndex_8e157 3 (some .int)) := rfl
set_option maxRecDepth 100000 in
theorem jc_J0_indexOf_0f7a4 : lw_tbl[247]? = some (.code yJ0_indexOf_0f7a4 cJ0_indexOf_0f7a4 2 (some .int)) := rfl
set_option maxRecDepth 100000 in
theorem jc_J0_indexOf_7cf53 : lw_tbl[251]? = some (.code yJ0_indexOf_7cf53 cJ0_indexOf_7cf53 3 (some .int)) := rfl
set_option maxRecDepth 100000 in
theorem jc_J1_indexOf_4cfef : lw_tbl[255]? = some (.code yJ1_indexOf_4cfef cJ1_indexOf_4cfef 4 (some .int)) := rfl
set_option maxRecDepth 100000 in
theorem jc_J1_canEncode_9a6ad : lw_tbl[258]? = some (.code yJ1_canEncode_9a6ad cJ1_canEncode_9a6ad 1 (some .boolean)) := rfl
set_option maxRecDepth 100000 in
theorem jc_J1_indexOfChar_4cfef : lw_tbl[267]? = some (.code yJ1_indexOfChar_4cfef cJ1_indexOfChar_4cfef 6 (some .int)) := rfl
def m_wj (y : MethodName) (b : ByteArray) (n : Nat) (r : Option FieldType) : List Cond := .code y b n r :: m_tbl
theorem m_good_wj {y : MethodName} {b : ByteArray} {n : Nat} {r : Option FieldType} {i : Nat} (h : lw_tbl[i]? = some (.code y b n r)) : GoodIn m_tbl (m_wj y b n r) := fun w hw => (List.mem_cons.mp hw).elim (fun e => e ▸ ⟨m_in (List.mem_of_getElem? h) rfl, Or.inl rfl⟩) (fun h => m_tblIn w h)
def m_rj (f n : Nat) : Room := { frames := f, cells := 0, slots := 0, locals := n }
theorem jw1 : Cond.fieldLink RJ0 9 "java/lang/String" "value" "[B" ∈ m_tbl := m_in (List.mem_of_getElem? (i := 1136) (by decide +kernel)) rfl
theorem jw2 : Cond.fieldLink RJ0 15 "java/lang/String" "coder" "B" ∈ m_tbl := m_in (List.mem_of_getElem? (i := 1137) (by decide +kernel)) rfl
theorem jw3 : Cond.fieldLink RJ0 38 "java/lang/String" "COMPACT_STRINGS" "Z" ∈ m_tbl := m_in (List.mem_of_getElem? (i := 175) (by decide +kernel)) rfl
theorem jw4 : Cond.fieldLink RJ0 1053 "jdk/internal/util/Preconditions" "SIOOBE_FORMATTER" "Ljava/util/function/BiFunction;" ∈ m_tbl := m_in (List.mem_of_getElem? (i := 191) (by decide +kernel)) rfl
theorem jw5 : Cond.methodLink RJ0 335 yJ0_coder_7d493 ∈ m_tbl := m_in (List.mem_of_getElem? (i := 171) (by decide +kernel)) rfl
theorem jw6 : Cond.instanceMethod yJ0_coder_7d493 ∈ m_tbl := m_in (List.mem_of_getElem? (i := 172) (by decide +kernel)) rfl
theorem jw7 : Cond.selects RJ0 yJ0_coder_7d493 yJ0_coder_7d493 ∈ m_tbl := m_in (List.mem_of_getElem? (i := 173) (by decide +kernel)) rfl
theorem jw8 : Cond.initialized RJ0 ∈ m_tbl := m_in (List.mem_of_getElem? (i := 39) (by decide +kernel)) rfl
theorem jg_J0_coder_7d493 : GoodIn m_tbl (wsV RJ0 335 RJ0 yJ0_coder_7d493 (m_wj yJ0_coder_7d493 cJ0_coder_7d493 1 (some .byte))) := fun w hw => by
  unfold wsV at hw
  rcases List.mem_append.mp hw with hw | hw
  · simp only [List.mem_cons, List.not_mem_nil, or_false] at hw
    rcases hw with rfl | rfl | rfl | rfl
    · exact ⟨jw5, Or.inl rfl⟩
    · exact ⟨jw6, Or.inl rfl⟩
    · exact ⟨jw7, Or.inl rfl⟩
    · exact ⟨jw8, Or.inl rfl⟩
  · exact m_good_wj jc_J0_coder_7d493 w hw
theorem jw9 : Cond.methodLink RJ0 492 yJ0_isLatin1_aae02 ∈ m_tbl := m_in (List.mem_of_getElem? (i := 181) (by decide +kernel)) rfl
theorem jw10 : Cond.instanceMethod yJ0_isLatin1_aae02 ∈ m_tbl := m_in (List.mem_of_getElem? (i := 182) (by decide +kernel)) rfl
theorem jw11 : Cond.selects RJ0 yJ0_isLatin1_aae02 yJ0_isLatin1_aae02 ∈ m_tbl := m_in (List.mem_of_getElem? (i := 183) (by decide +kernel)) rfl
theorem jg_J0_isLatin1_aae02 : GoodIn m_tbl (wsV RJ0 492 RJ0 yJ0_isLatin1_aae02 (m_wj yJ0_isLatin1_aae02 cJ0_isLatin1_aae02 1 (some .boolean))) := fun w hw => by
  unfold wsV at hw
  rcases List.mem_append.mp hw with hw | hw
  · simp only [List.mem_cons, List.not_mem_nil, or_false] at hw
    rcases hw with rfl | rfl | rfl | rfl
    · exact ⟨jw9, Or.inl rfl⟩
    · exact ⟨jw10, Or.inl rfl⟩
    · exact ⟨jw11, Or.inl rfl⟩
    · exact ⟨jw8, Or.inl rfl⟩
  · exact m_good_wj jc_J0_isLatin1_aae02 w hw
theorem jw12 : Cond.methodLink RJ0 495 yJ1_charAt_3b067 ∈ m_tbl := m_in (List.mem_of_getElem? (i := 185) (by decide +kernel)) rfl
theorem jw13 : Cond.initialized RJ1 ∈ m_tbl := m_in (List.mem_of_getElem? (i := 40) (by decide +kernel)) rfl
theorem jw14 : Cond.static yJ1_charAt_3b067 ∈ m_tbl := m_in (List.mem_of_getElem? (i := 186) (by decide +kernel)) rfl
theorem jg_J1_charAt_3b067 : GoodIn m_tbl (va_wsS RJ0 495 yJ1_charAt_3b067 (m_wj yJ1_charAt_3b067 cJ1_charAt_3b067 2 (some .char))) := fun w hw => by
  unfold va_wsS at hw
  rcases List.mem_append.mp hw with hw | hw
  · simp only [List.mem_cons, List.not_mem_nil, or_false] at hw
    rcases hw with rfl | rfl | rfl
    · exact ⟨jw12, Or.inl rfl⟩
    · exact ⟨jw14, Or.inl rfl⟩
    · exact ⟨jw13, Or.inl rfl⟩
  · exact m_good_wj jc_J1_charAt_3b067 w hw
theorem jw15 : Cond.methodLink RJ1 9 yJ0_checkIndex_df160 ∈ m_tbl := m_in (List.mem_of_getElem? (i := 188) (by decide +kernel)) rfl
theorem jw16 : Cond.static yJ0_checkIndex_df160 ∈ m_tbl := m_in (List.mem_of_getElem? (i := 189) (by decide +kernel)) rfl
theorem jg_J0_checkIndex_df160 : GoodIn m_tbl (va_wsS RJ1 9 yJ0_checkIndex_df160 (m_wj yJ0_checkIndex_df160 cJ0_checkIndex_df160 2 none)) := fun w hw => by
  unfold va_wsS at hw
  rcases List.mem_append.mp hw with hw | hw
  · simp only [List.mem_cons, List.not_mem_nil, or_false] at hw
    rcases hw with rfl | rfl | rfl
    · exact ⟨jw15, Or.inl rfl⟩
    · exact ⟨jw16, Or.inl rfl⟩
    · exact ⟨jw8, Or.inl rfl⟩
  · exact m_good_wj jc_J0_checkIndex_df160 w hw
theorem jw17 : Cond.methodLink RJ0 1059 yJ3_checkIndex_8e157 ∈ m_tbl := m_in (List.mem_of_getElem? (i := 193) (by decide +kernel)) rfl
theorem jw18 : Cond.initialized RJ3 ∈ m_tbl := m_in (List.mem_of_getElem? (i := 41) (by decide +kernel)) rfl
theorem jw19 : Cond.static yJ3_checkIndex_8e157 ∈ m_tbl := m_in (List.mem_of_getElem? (i := 194) (by decide +kernel)) rfl
theorem jg_J3_checkIndex_8e157 : GoodIn m_tbl (va_wsS RJ0 1059 yJ3_checkIndex_8e157 (m_wj yJ3_checkIndex_8e157 cJ3_checkIndex_8e157 3 (some .int))) := fun w hw => by
  unfold va_wsS at hw
  rcases List.mem_append.mp hw with hw | hw
  · simp only [List.mem_cons, List.not_mem_nil, or_false] at hw
    rcases hw with rfl | rfl | rfl
    · exact ⟨jw17, Or.inl rfl⟩
    · exact ⟨jw19, Or.inl rfl⟩
    · exact ⟨jw18, Or.inl rfl⟩
  · exact m_good_wj jc_J3_checkIndex_8e157 w hw
theorem jw20 : Cond.methodLink RJ0 633 yJ0_indexOf_7cf53 ∈ m_tbl := m_in (List.mem_of_getElem? (i := 248) (by decide +kernel)) rfl
theorem jw21 : Cond.instanceMethod yJ0_indexOf_7cf53 ∈ m_tbl := m_in (List.mem_of_getElem? (i := 249) (by decide +kernel)) rfl
theorem jw22 : Cond.selects RJ0 yJ0_indexOf_7cf53 yJ0_indexOf_7cf53 ∈ m_tbl := m_in (List.mem_of_getElem? (i := 250) (by decide +kernel)) rfl
theorem jg_J0_indexOf_7cf53 : GoodIn m_tbl (wsV RJ0 633 RJ0 yJ0_indexOf_7cf53 (m_wj yJ0_indexOf_7cf53 cJ0_indexOf_7cf53 3 (some .int))) := fun w hw => by
  unfold wsV at hw
  rcases List.mem_append.mp hw with hw | hw
  · simp only [List.mem_cons, List.not_mem_nil, or_false] at hw
    rcases hw with rfl | rfl | rfl | rfl
    · exact ⟨jw20, Or.inl rfl⟩
    · exact ⟨jw21, Or.inl rfl⟩
    · exact ⟨jw22, Or.inl rfl⟩
    · exact ⟨jw8, Or.inl rfl⟩
  · exact m_good_wj jc_J0_indexOf_7cf53 w hw
theorem jw23 : Cond.methodLink RJ0 505 yJ0_length_8abf5 ∈ m_tbl := m_in (List.mem_of_getElem? (i := 252) (by decide +kernel)) rfl
theorem jw24 : Cond.instanceMethod yJ0_length_8abf5 ∈ m_tbl := m_in (List.mem_of_getElem? (i := 168) (by decide +kernel)) rfl
theorem jw25 : Cond.selects RJ0 yJ0_length_8abf5 yJ0_length_8abf5 ∈ m_tbl := m_in (List.mem_of_getElem? (i := 169) (by decide +kernel)) rfl
theorem jg_J0_length_8abf5 : GoodIn m_tbl (wsV RJ0 505 RJ0 yJ0_length_8abf5 (m_wj yJ0_length_8abf5 cJ0_length_8abf5 1 (some .int))) := fun w hw => by
  unfold wsV at hw
  rcases List.mem_append.mp hw with hw | hw
  · simp only [List.mem_cons, List.not_mem_nil, or_false] at hw
    rcases hw with rfl | rfl | rfl | rfl
    · exact ⟨jw23, Or.inl rfl⟩
    · exact ⟨jw24, Or.inl rfl⟩
    · exact ⟨jw25, Or.inl rfl⟩
    · exact ⟨jw8, Or.inl rfl⟩
  · exact m_good_wj jc_J0_length_8abf5 w hw
theorem jw26 : Cond.methodLink RJ0 637 yJ1_indexOf_4cfef ∈ m_tbl := m_in (List.mem_of_getElem? (i := 253) (by decide +kernel)) rfl
theorem jw27 : Cond.static yJ1_indexOf_4cfef ∈ m_tbl := m_in (List.mem_of_getElem? (i := 254) (by decide +kernel)) rfl
theorem jg_J1_indexOf_4cfef : GoodIn m_tbl (va_wsS RJ0 637 yJ1_indexOf_4cfef (m_wj yJ1_indexOf_4cfef cJ1_indexOf_4cfef 4 (some .int))) := fun w hw => by
  unfold va_wsS at hw
  rcases List.mem_append.mp hw with hw | hw
  · simp only [List.mem_cons, List.not_mem_nil, or_false] at hw
    rcases hw with rfl | rfl | rfl
    · exact ⟨jw26, Or.inl rfl⟩
    · exact ⟨jw27, Or.inl rfl⟩
    · exact ⟨jw13, Or.inl rfl⟩
  · exact m_good_wj jc_J1_indexOf_4cfef w hw
theorem jw28 : Cond.methodLink RJ1 88 yJ1_canEncode_9a6ad ∈ m_tbl := m_in (List.mem_of_getElem? (i := 256) (by decide +kernel)) rfl
theorem jw29 : Cond.static yJ1_canEncode_9a6ad ∈ m_tbl := m_in (List.mem_of_getElem? (i := 257) (by decide +kernel)) rfl
theorem jg_J1_canEncode_9a6ad : GoodIn m_tbl (va_wsS RJ1 88 yJ1_canEncode_9a6ad (m_wj yJ1_canEncode_9a6ad cJ1_canEncode_9a6ad 1 (some .boolean))) := fun w hw => by
  unfold va_wsS at hw
  rcases List.mem_append.mp hw with hw | hw
  · simp only [List.mem_cons, List.not_mem_nil, or_false] at hw
    rcases hw with rfl | rfl | rfl
    · exact ⟨jw28, Or.inl rfl⟩
    · exact ⟨jw29, Or.inl rfl⟩
    · exact ⟨jw13, Or.inl rfl⟩
  · exact m_good_wj jc_J1_canEncode_9a6ad w hw
theorem jw30 : Cond.methodLink RJ1 95 yJ1_indexOfChar_4cfef ∈ m_tbl := m_in (List.mem_of_getElem? (i := 265) (by decide +kernel)) rfl
theorem jw31 : Cond.static yJ1_indexOfChar_4cfef ∈ m_tbl := m_in (List.mem_of_getElem? (i := 266) (by decide +kernel)) rfl
theorem jg_J1_indexOfChar_4cfef : GoodIn m_tbl (va_wsS RJ1 95 yJ1_indexOfChar_4cfef (m_wj yJ1_indexOfChar_4cfef cJ1_indexOfChar_4cfef 6 (some .int))) := fun w hw => by
  unfold va_wsS at hw
  rcases List.mem_append.mp hw with hw | hw
  · simp only [List.mem_cons, List.not_mem_nil, or_false] at hw
    rcases hw with rfl | rfl | rfl
    · exact ⟨jw30, Or.inl rfl⟩
    · exact ⟨jw31, Or.inl rfl⟩
    · exact ⟨jw13, Or.inl rfl⟩
  · exact m_good_wj jc_J1_indexOfChar_4cfef w hw
theorem jw32 : Cond.methodLink RJ1 92 Lib.Math.max.name ∈ m_tbl := m_in (List.mem_of_getElem? (i := 259) (by decide +kernel)) rfl
theorem jw33 : Cond.static Lib.Math.max.name ∈ m_tbl := m_in (List.mem_of_getElem? (i := 260) (by decide +kernel)) rfl
theorem jw34 : Cond.initialized "java/lang/Math" ∈ m_tbl := m_in (List.mem_of_getElem? (i := 43) (by decide +kernel)) rfl
theorem jw35 : Cond.methodLink RJ1 38 Lib.Math.min.name ∈ m_tbl := m_in (List.mem_of_getElem? (i := 262) (by decide +kernel)) rfl
theorem jw36 : Cond.static Lib.Math.min.name ∈ m_tbl := m_in (List.mem_of_getElem? (i := 263) (by decide +kernel)) rfl
set_option maxRecDepth 100000 in
theorem jmx : Cond.code Lib.Math.max.name Lib.Math.max.code 2 (some .int) ∈ m_tbl := m_in (List.mem_of_getElem? (i := 261) rfl) rfl
set_option maxRecDepth 100000 in
theorem jmn : Cond.code Lib.Math.min.name Lib.Math.min.code 2 (some .int) ∈ m_tbl := m_in (List.mem_of_getElem? (i := 264) rfl) rfl
/-- the string constants, told of a state whose heap is the old one below -/
def m_Od (G : m_GT) (U : State) : Prop := m_KS G U ∧ G.2.2.2.2.size = G.1 ∧ G.1 ≤ U.heap.size ∧ ∀ q, q < G.1 → U.heap[q]? = G.2.2.2.2[q]?
theorem m_Od.kept {G : m_GT} {U : State} (h : m_Od G U) : ∀ a : Nat, a < G.2.2.2.2.size → ¬ m_A G a → U.heap[a]? = G.2.2.2.2[a]? := fun a h1 _ => h.2.2.2 a (by rw [← h.2.1]; exact h1)
theorem m_Od.str {G : m_GT} {U : State} (h : m_Od G U) : ∃ adV : Nat → Nat, vk_S 2 m_lenS m_bytS G.2.1 adV (m_A G) U U.heap := by
  obtain ⟨adV, h3⟩ := h.1.2.2.1
  exact ⟨adV, vk_S.kept h3 h.kept⟩
theorem m_Od.cs {G : m_GT} {U : State} (h : m_Od G U) : va_Z "java/lang/String" "COMPACT_STRINGS" "Z" (.int 1) (m_A G) U U.heap := va_Z.kept h.1.2.2.2.2.2.2.1 h.kept
theorem m_Od.fm {G : m_GT} {U : State} (h : m_Od G U) : va_Zq "jdk/internal/util/Preconditions" "SIOOBE_FORMATTER" "Ljava/util/function/BiFunction;" (m_A G) U U.heap := va_Zq.kept h.1.2.2.2.2.2.2.2.1 h.kept
theorem m_Od.blind {G : m_GT} {U : State} {g : JFrame} {mk : MethodId} {a : Array Value} (h : m_Od G U) : m_Od G (U.calling g mk a) := ⟨m_KS.same rfl h.1, h.2⟩
theorem m_Od.at {G : m_GT} {s U : State} (h : m_Od G s) (hU : U.heap = s.heap) (hW : s.WarmedH U.vm) : m_Od G U := ⟨m_KS.warm hW h.1, h.2.1, by rw [hU]; exact h.2.2.1, by rw [hU]; exact h.2.2.2⟩
/-- the bytes of a string -/
def m_Tx (G : m_GT) (j t : Nat) (U : State) : Prop := va_T .byte t (m_lenS.getD j 0) (fun i => .int ((m_bytS.getD j []).getD i 0)) (m_A G) U U.heap
theorem m_Tx.at {G : m_GT} {j t : Nat} {s U : State} (h : m_Tx G j t s) (hU : U.heap = s.heap) (hW : s.WarmedH U.vm) : m_Tx G j t U := by
  unfold m_Tx
  rw [hU]
  exact va_T.moved hW.alike h
theorem m_lenS_ok : ∀ j, j < 2 → m_lenS.getD j 0 = (m_chs j).length := by decide +kernel
theorem m_bytS_ok : ∀ j, j < 2 → ∀ i, i < (m_chs j).length → (m_bytS.getD j []).getD i 0 = nI ((m_chs j).getD i 0) := by decide +kernel
theorem m_chs_lt : ∀ j, j < 2 → ∀ i, i < (m_chs j).length → (m_chs j).getD i 0 < 128 := by decide +kernel
theorem m_len_lt : ∀ j, j < 2 → (m_chs j).length < 100 := by decide +kernel
set_option maxHeartbeats 4000000 in
set_option maxRecDepth 100000 in
theorem jm_prer (i n : Int32) (h0 : ¬ i < 0) (h1 : i < n) (w0 : Nat) (l : Launch) : Met l yJ3_checkIndex_8e157 (m_wj yJ3_checkIndex_8e157 cJ3_checkIndex_8e157 3 (some .int)) (m_rj 0 0) (fun v U => v = [.int i, .int n, .ref w0].toArray ∧ True) (k2_QcV (.int i)) 0 0 (fun _ => False) := by
  refine va_MetF (cc := cJ3_checkIndex_8e157) (maxL := 3) (ret := (some .int)) (by decide +kernel) rfl ?_
  intro p e s m args below meth c s₁ B hml hv
  obtain ⟨rfl, -⟩ := hv
  have hx := B.exec
  have hb := B.bytes
  have hr := B.returns
  have hlocks := B.notSynchronized
  have hts0 := atoms_spec (ws := m_wj yJ3_checkIndex_8e157 cJ3_checkIndex_8e157 3 (some .int)) B.pre
  have hts : ∀ w ∈ m_tbl, w.before [.int i, .int n, .ref w0].toArray s = true := fun w hw => hts0 w (List.mem_cons_of_mem _ hw)
  have hown : s.vm.findClass RJ3 = some m.cls := findClass_of_methodNamed B.named
  have hS : va_S (fun _ => False) s.heap s.heap [] := va_S.rf
  have hl := lv_entry ([.int i, .int n, .ref w0]) (n := 3) (Nat.le_of_ble_eq_true rfl)
  rw [show ([.int i, .int n, .ref w0] : List Value).toArray = ([.int i, .int n, .ref w0] : List Value).toArray from rfl, lg_entry_eq]
  generalize (lg_sl ([.int i, .int n, .ref w0]) ++ List.replicate (3 - (lg_sl ([.int i, .int n, .ref w0])).length) Slot.unset).toArray = ls at hl ⊢
  have hl : lv_has ls 3 [(0, .int i), (1, .int n), (2, .ref w0)] := hl
  refine lv_iload_n hx hb eJ3_checkIndex_8e157_0 rfl (lv_at hl 0 rfl) ?_
  refine lv_if_lt (tgt := 9) hx hb eJ3_checkIndex_8e157_1 (by decide) (fun q => absurd q h0) (fun _ => ?_)
  refine lv_iload_n hx hb eJ3_checkIndex_8e157_4 rfl (lv_at hl 0 rfl) ?_
  refine lv_iload_n hx hb eJ3_checkIndex_8e157_5 rfl (lv_at hl 1 rfl) ?_
  refine lv_icmp_lt (tgt := 16) hx hb eJ3_checkIndex_8e157_6 (by decide) (fun _ => ?_) (fun q => absurd h1 q)
  refine lv_iload_n hx hb eJ3_checkIndex_8e157_16 rfl (lv_at hl 0 rfl) ?_
  exact W.iret hx hb hr (fun t ht hW => ⟨rfl, ht⟩) (fun q h => by cases h) eJ3_checkIndex_8e157_17
set_option maxHeartbeats 4000000 in
set_option maxRecDepth 100000 in
theorem jm_pren (i n : Int32) (h0 : ¬ i < 0) (h1 : i < n)  (l : Launch) : Met l yJ3_checkIndex_8e157 (m_wj yJ3_checkIndex_8e157 cJ3_checkIndex_8e157 3 (some .int)) (m_rj 0 0) (fun v U => v = [.int i, .int n, .null].toArray ∧ True) (k2_QcV (.int i)) 0 0 (fun _ => False) := by
  refine va_MetF (cc := cJ3_checkIndex_8e157) (maxL := 3) (ret := (some .int)) (by decide +kernel) rfl ?_
  intro p e s m args below meth c s₁ B hml hv
  obtain ⟨rfl, -⟩ := hv
  have hx := B.exec
  have hb := B.bytes
  have hr := B.returns
  have hlocks := B.notSynchronized
  have hts0 := atoms_spec (ws := m_wj yJ3_checkIndex_8e157 cJ3_checkIndex_8e157 3 (some .int)) B.pre
  have hts : ∀ w ∈ m_tbl, w.before [.int i, .int n, .null].toArray s = true := fun w hw => hts0 w (List.mem_cons_of_mem _ hw)
  have hown : s.vm.findClass RJ3 = some m.cls := findClass_of_methodNamed B.named
  have hS : va_S (fun _ => False) s.heap s.heap [] := va_S.rf
  have hl := lv_entry ([.int i, .int n, .null]) (n := 3) (Nat.le_of_ble_eq_true rfl)
  rw [show ([.int i, .int n, .null] : List Value).toArray = ([.int i, .int n, .null] : List Value).toArray from rfl, lg_entry_eq]
  generalize (lg_sl ([.int i, .int n, .null]) ++ List.replicate (3 - (lg_sl ([.int i, .int n, .null])).length) Slot.unset).toArray = ls at hl ⊢
  have hl : lv_has ls 3 [(0, .int i), (1, .int n), (2, .null)] := hl
  refine lv_iload_n hx hb eJ3_checkIndex_8e157_0 rfl (lv_at hl 0 rfl) ?_
  refine lv_if_lt (tgt := 9) hx hb eJ3_checkIndex_8e157_1 (by decide) (fun q => absurd q h0) (fun _ => ?_)
  refine lv_iload_n hx hb eJ3_checkIndex_8e157_4 rfl (lv_at hl 0 rfl) ?_
  refine lv_iload_n hx hb eJ3_checkIndex_8e157_5 rfl (lv_at hl 1 rfl) ?_
  refine lv_icmp_lt (tgt := 16) hx hb eJ3_checkIndex_8e157_6 (by decide) (fun _ => ?_) (fun q => absurd h1 q)
  refine lv_iload_n hx hb eJ3_checkIndex_8e157_16 rfl (lv_at hl 0 rfl) ?_
  exact W.iret hx hb hr (fun t ht hW => ⟨rfl, ht⟩) (fun q h => by cases h) eJ3_checkIndex_8e157_17
set_option maxHeartbeats 4000000 in
set_option maxRecDepth 100000 in
theorem jm_chk (G : m_GT) (i n : Int32) (h0 : ¬ i < 0) (h1 : i < n) (l : Launch) : Met l yJ0_checkIndex_df160 (m_wj yJ0_checkIndex_df160 cJ0_checkIndex_df160 2 none) (m_rj 1 22) (fun v U => v = [.int i, .int n].toArray ∧ m_Od G U) (va_Sv (fun _ => True)) 0 0 (fun _ => False) := by
  refine va_MetF (cc := cJ0_checkIndex_df160) (maxL := 2) (ret := none) (by decide +kernel) rfl ?_
  intro p e s m args below meth c s₁ B hml hv
  obtain ⟨rfl, hO⟩ := hv
  have hx := B.exec
  have hb := B.bytes
  have hr := B.returns
  have hlocks := B.notSynchronized
  have hts0 := atoms_spec (ws := m_wj yJ0_checkIndex_df160 cJ0_checkIndex_df160 2 none) B.pre
  have hts : ∀ w ∈ m_tbl, w.before [.int i, .int n].toArray s = true := fun w hw => hts0 w (List.mem_cons_of_mem _ hw)
  have hown : s.vm.findClass RJ0 = some m.cls := findClass_of_methodNamed B.named
  have hS : va_S (fun _ => False) s.heap s.heap [] := va_S.rf
  have hl := lv_entry ([.int i, .int n]) (n := 2) (Nat.le_of_ble_eq_true rfl)
  rw [show ([.int i, .int n] : List Value).toArray = ([.int i, .int n] : List Value).toArray from rfl, lg_entry_eq]
  generalize (lg_sl ([.int i, .int n]) ++ List.replicate (2 - (lg_sl ([.int i, .int n])).length) Slot.unset).toArray = ls at hl ⊢
  have hl : lv_has ls 2 [(0, .int i), (1, .int n)] := hl
  refine lv_iload_n hx hb eJ0_checkIndex_df160_0 rfl (lv_at hl 0 rfl) ?_
  refine lv_iload_n hx hb eJ0_checkIndex_df160_1 rfl (lv_at hl 1 rfl) ?_
  have hSA : va_S (m_A G) s.heap s.heap [] := va_S.rf
  rcases hO.fm with hZ | ⟨w, hZ⟩
  · refine va_gets (ref := "jdk/internal/util/Preconditions") hx hb hZ hSA hown (hts _ jw4) (fun _ h9 => h9) eJ0_checkIndex_df160_2 ?_
    refine W.callV (r := .int i) (W.runS (As := [.int i, .int n, .null]) (rest := []) (Ts := m_tbl) ⟨hx, hb, hml, hown, hts⟩ (jm_pren i n h0 h1 l) (va_cwS 3 hts jg_J3_checkIndex_8e157 rfl rfl rfl ⟨by decide +kernel, by decide +kernel, by decide +kernel⟩ ⟨Nat.le_of_ble_eq_true rfl, Nat.le_of_ble_eq_true rfl⟩) ⟨fun _ _ _ _ q => q, fun U hU hW => ⟨rfl, trivial⟩⟩ rfl rfl hl.1 rfl (lv_room (Nat.le_of_ble_eq_true rfl)) eJ0_checkIndex_df160_5 ⟨Nat.zero_le _, Nat.zero_le _⟩) ?_
    refine lv_pop hx hb eJ0_checkIndex_df160_8 rfl ?_
    exact W.vret hx hb hr (fun t ht hW => ⟨rfl, trivial, ht⟩) (fun q h => by cases h) eJ0_checkIndex_df160_9
  · refine va_gets (ref := "jdk/internal/util/Preconditions") hx hb hZ hSA hown (hts _ jw4) (fun _ h9 => h9) eJ0_checkIndex_df160_2 ?_
    refine W.callV (r := .int i) (W.runS (As := [.int i, .int n, .ref w]) (rest := []) (Ts := m_tbl) ⟨hx, hb, hml, hown, hts⟩ (jm_prer i n h0 h1 w l) (va_cwS 3 hts jg_J3_checkIndex_8e157 rfl rfl rfl ⟨by decide +kernel, by decide +kernel, by decide +kernel⟩ ⟨Nat.le_of_ble_eq_true rfl, Nat.le_of_ble_eq_true rfl⟩) ⟨fun _ _ _ _ q => q, fun U hU hW => ⟨rfl, trivial⟩⟩ rfl rfl hl.1 rfl (lv_room (Nat.le_of_ble_eq_true rfl)) eJ0_checkIndex_df160_5 ⟨Nat.zero_le _, Nat.zero_le _⟩) ?_
    refine lv_pop hx hb eJ0_checkIndex_df160_8 rfl ?_
    exact W.vret hx hb hr (fun t ht hW => ⟨rfl, trivial, ht⟩) (fun q h => by cases h) eJ0_checkIndex_df160_9
set_option maxHeartbeats 4000000 in
set_option maxRecDepth 100000 in
theorem jm_l1c (G : m_GT) (j t i : Nat) (hj : j < 2) (hi : i < (m_chs j).length) (l : Launch) : Met l yJ1_charAt_3b067 (m_wj yJ1_charAt_3b067 cJ1_charAt_3b067 2 (some .char)) (m_rj 2 43) (fun v U => v = [.ref t, .int (nI i)].toArray ∧ m_Od G U ∧ m_Tx G j t U) (k2_QcV (.int (nI ((m_chs j).getD i 0)))) 0 0 (fun _ => False) := by
  refine va_MetF (cc := cJ1_charAt_3b067) (maxL := 2) (ret := (some .char)) (by decide +kernel) rfl ?_
  intro p e s m args below meth c s₁ B hml hv
  obtain ⟨rfl, hO, hT⟩ := hv
  have hx := B.exec
  have hb := B.bytes
  have hr := B.returns
  have hlocks := B.notSynchronized
  have hts0 := atoms_spec (ws := m_wj yJ1_charAt_3b067 cJ1_charAt_3b067 2 (some .char)) B.pre
  have hts : ∀ w ∈ m_tbl, w.before [.ref t, .int (nI i)].toArray s = true := fun w hw => hts0 w (List.mem_cons_of_mem _ hw)
  have hown : s.vm.findClass RJ1 = some m.cls := findClass_of_methodNamed B.named
  have hS : va_S (fun _ => False) s.heap s.heap [] := va_S.rf
  have hl := lv_entry ([.ref t, .int (nI i)]) (n := 2) (Nat.le_of_ble_eq_true rfl)
  rw [show ([.ref t, .int (nI i)] : List Value).toArray = ([.ref t, .int (nI i)] : List Value).toArray from rfl, lg_entry_eq]
  generalize (lg_sl ([.ref t, .int (nI i)]) ++ List.replicate (2 - (lg_sl ([.ref t, .int (nI i)])).length) Slot.unset).toArray = ls at hl ⊢
  have hl : lv_has ls 2 [(0, .ref t), (1, .int (nI i))] := hl
  have hSA : va_S (m_A G) s.heap s.heap [] := va_S.rf
  have hlen := m_len_lt j hj
  have hT' : va_T .byte t (m_lenS.getD j 0) (fun i => .int ((m_bytS.getD j []).getD i 0)) (m_A G) s s.heap := hT
  rw [m_lenS_ok j hj] at hT'
  refine lv_iload_n hx hb eJ1_charAt_3b067_0 rfl (lv_at hl 1 rfl) ?_
  refine lv_aload_n hx hb eJ1_charAt_3b067_1 rfl (lv_at hl 0 rfl) ?_
  refine va_tlen (v := nI (m_chs j).length) hx hb hT' hSA rfl eJ1_charAt_3b067_2 ?_
  refine va_csv (W.runS (As := [.int (nI i), .int (nI (m_chs j).length)]) (rest := []) (Ts := m_tbl) ⟨hx, hb, hml, hown, hts⟩ (jm_chk G (nI i) (nI (m_chs j).length) (nI_pos (by omega)) (nI_lt hi (by omega)) l) (va_cwS 2 hts jg_J0_checkIndex_df160 rfl rfl rfl ⟨by decide +kernel, by decide +kernel, by decide +kernel⟩ ⟨Nat.le_of_ble_eq_true rfl, Nat.le_of_ble_eq_true rfl⟩) ⟨fun _ _ _ _ q => ⟨q.1, q.2.blind⟩, fun U hU hW => ⟨rfl, hO.at hU hW⟩⟩ rfl rfl hl.1 rfl (lv_room (Nat.le_of_ble_eq_true rfl)) eJ1_charAt_3b067_3 ⟨Nat.zero_le _, Nat.zero_le _⟩) (fun _ => ?_)
  refine lv_aload_n hx hb eJ1_charAt_3b067_6 rfl (lv_at hl 0 rfl) ?_
  refine lv_iload_n hx hb eJ1_charAt_3b067_7 rfl (lv_at hl 1 rfl) ?_
  have hc : (nI i).toNatClampNeg = i := nI_clamp (by omega)
  have hv : (fun i => Value.int ((m_bytS.getD j []).getD i 0)) (nI i).toNatClampNeg = .int (nI ((m_chs j).getD i 0)) := by
    dsimp only
    rw [hc, m_bytS_ok j hj i hi]
  refine va_tb hx hb hT' hSA (vp_in_nI hi (by omega)) hv eJ1_charAt_3b067_8 ?_
  have hch := m_chs_lt j hj i hi
  refine lv_sipush (v := 255) hx hb eJ1_charAt_3b067_9 (by decide) ?_
  refine lv_iand hx hb eJ1_charAt_3b067_12 ?_
  have e1 : nI ((m_chs j).getD i 0) &&& 255 = nI ((m_chs j).getD i 0) := by
    generalize (m_chs j).getD i 0 = n at hch ⊢
    have : ∀ n, n < 128 → nI n &&& 255 = nI n := by decide +kernel
    exact this n hch
  rw [e1]
  refine lv_i2c (v := nI ((m_chs j).getD i 0)) hx hb eJ1_charAt_3b067_13 ?_ ?_
  · generalize (m_chs j).getD i 0 = n at hch ⊢
    have : ∀ n, n < 128 → ((nI n).toUInt32 % 65536).toInt32 = nI n := by decide +kernel
    exact this n hch
  refine W.zret (ty := .char) hx hb hr ?_ (fun t ht hW => ⟨rfl, ht⟩) (fun q h => by cases h) eJ1_charAt_3b067_14
  generalize (m_chs j).getD i 0 = n at hch ⊢
  have : ∀ n, n < 128 → narrow .char (.int (nI n)) = .int (nI n) := by decide +kernel
  exact this n hch
set_option maxHeartbeats 4000000 in
set_option maxRecDepth 100000 in
theorem jm_isl (G : m_GT) (j : Nat) (hj : j < 2) (l : Launch) : Met l yJ0_isLatin1_aae02 (m_wj yJ0_isLatin1_aae02 cJ0_isLatin1_aae02 1 (some .boolean)) (m_rj 0 0) (fun v U => v = [.ref (G.2.1 j)].toArray ∧ m_Od G U) (k2_QcV (.int 1)) 0 0 (fun _ => False) := by
  refine va_MetF (cc := cJ0_isLatin1_aae02) (maxL := 1) (ret := (some .boolean)) (by decide +kernel) rfl ?_
  intro p e s m args below meth c s₁ B hml hv
  obtain ⟨rfl, hO⟩ := hv
  have hx := B.exec
  have hb := B.bytes
  have hr := B.returns
  have hlocks := B.notSynchronized
  have hts0 := atoms_spec (ws := m_wj yJ0_isLatin1_aae02 cJ0_isLatin1_aae02 1 (some .boolean)) B.pre
  have hts : ∀ w ∈ m_tbl, w.before [.ref (G.2.1 j)].toArray s = true := fun w hw => hts0 w (List.mem_cons_of_mem _ hw)
  have hown : s.vm.findClass RJ0 = some m.cls := findClass_of_methodNamed B.named
  have hS : va_S (fun _ => False) s.heap s.heap [] := va_S.rf
  have hl := lv_entry ([.ref (G.2.1 j)]) (n := 1) (Nat.le_of_ble_eq_true rfl)
  rw [show ([.ref (G.2.1 j)] : List Value).toArray = ([.ref (G.2.1 j)] : List Value).toArray from rfl, lg_entry_eq]
  generalize (lg_sl ([.ref (G.2.1 j)]) ++ List.replicate (1 - (lg_sl ([.ref (G.2.1 j)])).length) Slot.unset).toArray = ls at hl ⊢
  have hl : lv_has ls 1 [(0, .ref (G.2.1 j))] := hl
  have hSA : va_S (m_A G) s.heap s.heap [] := va_S.rf
  obtain ⟨adV, hVS⟩ := hO.str
  obtain ⟨hE1, hE2, hE3, hE4⟩ := hVS.1 j hj
  refine va_gets (ref := "java/lang/String") hx hb hO.cs hSA hown (hts _ jw3) (fun _ h9 => h9) eJ0_isLatin1_aae02_0 ?_
  refine lv_if_eq (tgt := 17) hx hb eJ0_isLatin1_aae02_3 (by decide) (fun q => absurd q (by decide)) (fun _ => ?_)
  refine lv_aload_n hx hb eJ0_isLatin1_aae02_6 rfl (lv_at hl 0 rfl) ?_
  refine vk_getf (ref := "java/lang/String") hx hb hE2 hSA hown (hts _ jw2) (fun _ h9 => h9) eJ0_isLatin1_aae02_7 ?_
  refine lv_if_ne (tgt := 17) hx hb eJ0_isLatin1_aae02_10 (by decide) (fun q => absurd rfl q) (fun _ => ?_)
  refine lv_iconst (v := 1) hx hb eJ0_isLatin1_aae02_13 (by decide) ?_
  refine lv_goto (tgt := 18) hx hb eJ0_isLatin1_aae02_14 (by decide) ?_
  exact W.zret (ty := .boolean) hx hb hr rfl (fun t ht hW => ⟨rfl, ht⟩) (fun q h => by cases h) eJ0_isLatin1_aae02_18
set_option maxHeartbeats 4000000 in
set_option maxRecDepth 100000 in
theorem jm_cod (G : m_GT) (j : Nat) (hj : j < 2) (l : Launch) : Met l yJ0_coder_7d493 (m_wj yJ0_coder_7d493 cJ0_coder_7d493 1 (some .byte)) (m_rj 0 0) (fun v U => v = [.ref (G.2.1 j)].toArray ∧ m_Od G U) (k2_QcV (.int 0)) 0 0 (fun _ => False) := by
  refine va_MetF (cc := cJ0_coder_7d493) (maxL := 1) (ret := (some .byte)) (by decide +kernel) rfl ?_
  intro p e s m args below meth c s₁ B hml hv
  obtain ⟨rfl, hO⟩ := hv
  have hx := B.exec
  have hb := B.bytes
  have hr := B.returns
  have hlocks := B.notSynchronized
  have hts0 := atoms_spec (ws := m_wj yJ0_coder_7d493 cJ0_coder_7d493 1 (some .byte)) B.pre
  have hts : ∀ w ∈ m_tbl, w.before [.ref (G.2.1 j)].toArray s = true := fun w hw => hts0 w (List.mem_cons_of_mem _ hw)
  have hown : s.vm.findClass RJ0 = some m.cls := findClass_of_methodNamed B.named
  have hS : va_S (fun _ => False) s.heap s.heap [] := va_S.rf
  have hl := lv_entry ([.ref (G.2.1 j)]) (n := 1) (Nat.le_of_ble_eq_true rfl)
  rw [show ([.ref (G.2.1 j)] : List Value).toArray = ([.ref (G.2.1 j)] : List Value).toArray from rfl, lg_entry_eq]
  generalize (lg_sl ([.ref (G.2.1 j)]) ++ List.replicate (1 - (lg_sl ([.ref (G.2.1 j)])).length) Slot.unset).toArray = ls at hl ⊢
  have hl : lv_has ls 1 [(0, .ref (G.2.1 j))] := hl
  have hSA : va_S (m_A G) s.heap s.heap [] := va_S.rf
  obtain ⟨adV, hVS⟩ := hO.str
  obtain ⟨hE1, hE2, hE3, hE4⟩ := hVS.1 j hj
  refine va_gets (ref := "java/lang/String") hx hb hO.cs hSA hown (hts _ jw3) (fun _ h9 => h9) eJ0_coder_7d493_0 ?_
  refine lv_if_eq (tgt := 13) hx hb eJ0_coder_7d493_3 (by decide) (fun q => absurd q (by decide)) (fun _ => ?_)
  refine lv_aload_n hx hb eJ0_coder_7d493_6 rfl (lv_at hl 0 rfl) ?_
  refine vk_getf (ref := "java/lang/String") hx hb hE2 hSA hown (hts _ jw2) (fun _ h9 => h9) eJ0_coder_7d493_7 ?_
  refine lv_goto (tgt := 14) hx hb eJ0_coder_7d493_10 (by decide) ?_
  exact W.zret (ty := .byte) hx hb hr rfl (fun t ht hW => ⟨rfl, ht⟩) (fun q h => by cases h) eJ0_coder_7d493_14
set_option maxHeartbeats 4000000 in
set_option maxRecDepth 100000 in
theorem jm_len (G : m_GT) (j : Nat) (hj : j < 2) (l : Launch) : Met l yJ0_length_8abf5 (m_wj yJ0_length_8abf5 cJ0_length_8abf5 1 (some .int)) (m_rj 1 20) (fun v U => v = [.ref (G.2.1 j)].toArray ∧ m_Od G U) (k2_QcV (.int (nI (m_chs j).length))) 0 0 (fun _ => False) := by
  refine va_MetF (cc := cJ0_length_8abf5) (maxL := 1) (ret := (some .int)) (by decide +kernel) rfl ?_
  intro p e s m args below meth c s₁ B hml hv
  obtain ⟨rfl, hO⟩ := hv
  have hx := B.exec
  have hb := B.bytes
  have hr := B.returns
  have hlocks := B.notSynchronized
  have hts0 := atoms_spec (ws := m_wj yJ0_length_8abf5 cJ0_length_8abf5 1 (some .int)) B.pre
  have hts : ∀ w ∈ m_tbl, w.before [.ref (G.2.1 j)].toArray s = true := fun w hw => hts0 w (List.mem_cons_of_mem _ hw)
  have hown : s.vm.findClass RJ0 = some m.cls := findClass_of_methodNamed B.named
  have hS : va_S (fun _ => False) s.heap s.heap [] := va_S.rf
  have hl := lv_entry ([.ref (G.2.1 j)]) (n := 1) (Nat.le_of_ble_eq_true rfl)
  rw [show ([.ref (G.2.1 j)] : List Value).toArray = ([.ref (G.2.1 j)] : List Value).toArray from rfl, lg_entry_eq]
  generalize (lg_sl ([.ref (G.2.1 j)]) ++ List.replicate (1 - (lg_sl ([.ref (G.2.1 j)])).length) Slot.unset).toArray = ls at hl ⊢
  have hl : lv_has ls 1 [(0, .ref (G.2.1 j))] := hl
  have hSA : va_S (m_A G) s.heap s.heap [] := va_S.rf
  obtain ⟨adV, hVS⟩ := hO.str
  obtain ⟨hE1, hE2, hE3, hE4⟩ := hVS.1 j hj
  rw [m_lenS_ok j hj] at hE4
  refine lv_aload_n hx hb eJ0_length_8abf5_0 rfl (lv_at hl 0 rfl) ?_
  refine vk_getf (ref := "java/lang/String") hx hb hE3 hSA hown (hts _ jw1) (fun _ h9 => h9) eJ0_length_8abf5_1 ?_
  refine va_tlen (v := nI (m_chs j).length) hx hb hE4 hSA rfl eJ0_length_8abf5_4 ?_
  refine lv_aload_n hx hb eJ0_length_8abf5_5 rfl (lv_at hl 0 rfl) ?_
  refine W.callV (r := .int 0) (W.runV (As := []) (b := G.2.1 j) (C := RJ0) (rest := [.int (nI (m_chs j).length)]) (Ts := m_tbl) ⟨hx, hb, hml, hown, hts⟩ (jm_cod G j hj l) (cwV 0 hts jg_J0_coder_7d493 rfl rfl rfl ⟨by decide +kernel, by decide +kernel, by decide +kernel, by decide +kernel⟩ ⟨Nat.le_of_ble_eq_true rfl, Nat.le_of_ble_eq_true rfl⟩) ⟨fun _ _ _ _ q => ⟨q.1, q.2.blind⟩, vk_recv hVS hj hSA, fun U hU hW => ⟨rfl, hO.at hU hW⟩⟩ rfl rfl hl.1 rfl (lv_room (Nat.le_of_ble_eq_true rfl)) eJ0_length_8abf5_6 ⟨Nat.zero_le _, Nat.zero_le _⟩) ?_
  refine lv_ishr hx hb eJ0_length_8abf5_9 ?_
  rw [sb_shr0]
  exact W.iret hx hb hr (fun t ht hW => ⟨rfl, ht⟩) (fun q h => by cases h) eJ0_length_8abf5_10
set_option maxHeartbeats 4000000 in
set_option maxRecDepth 100000 in
theorem jm_cha (G : m_GT) (j i : Nat) (hj : j < 2) (hi : i < (m_chs j).length) (l : Launch) : Met l yJ0_charAt_5068e (m_wj yJ0_charAt_5068e cJ0_charAt_5068e 2 (some .char)) (m_rj 3 64) (fun v U => v = [.ref (G.2.1 j), .int (nI i)].toArray ∧ m_Od G U) (k2_QcV (.int (nI ((m_chs j).getD i 0)))) 0 0 (fun _ => False) := by
  refine va_MetF (cc := cJ0_charAt_5068e) (maxL := 2) (ret := (some .char)) (by decide +kernel) rfl ?_
  intro p e s m args below meth c s₁ B hml hv
  obtain ⟨rfl, hO⟩ := hv
  have hx := B.exec
  have hb := B.bytes
  have hr := B.returns
  have hlocks := B.notSynchronized
  have hts0 := atoms_spec (ws := m_wj yJ0_charAt_5068e cJ0_charAt_5068e 2 (some .char)) B.pre
  have hts : ∀ w ∈ m_tbl, w.before [.ref (G.2.1 j), .int (nI i)].toArray s = true := fun w hw => hts0 w (List.mem_cons_of_mem _ hw)
  have hown : s.vm.findClass RJ0 = some m.cls := findClass_of_methodNamed B.named
  have hS : va_S (fun _ => False) s.heap s.heap [] := va_S.rf
  have hl := lv_entry ([.ref (G.2.1 j), .int (nI i)]) (n := 2) (Nat.le_of_ble_eq_true rfl)
  rw [show ([.ref (G.2.1 j), .int (nI i)] : List Value).toArray = ([.ref (G.2.1 j), .int (nI i)] : List Value).toArray from rfl, lg_entry_eq]
  generalize (lg_sl ([.ref (G.2.1 j), .int (nI i)]) ++ List.replicate (2 - (lg_sl ([.ref (G.2.1 j), .int (nI i)])).length) Slot.unset).toArray = ls at hl ⊢
  have hl : lv_has ls 2 [(0, .ref (G.2.1 j)), (1, .int (nI i))] := hl
  have hSA : va_S (m_A G) s.heap s.heap [] := va_S.rf
  obtain ⟨adV, hVS⟩ := hO.str
  obtain ⟨hE1, hE2, hE3, hE4⟩ := hVS.1 j hj
  refine lv_aload_n hx hb eJ0_charAt_5068e_0 rfl (lv_at hl 0 rfl) ?_
  refine W.callV (r := .int 1) (W.runV (As := []) (b := G.2.1 j) (C := RJ0) (rest := []) (Ts := m_tbl) ⟨hx, hb, hml, hown, hts⟩ (jm_isl G j hj l) (cwV 0 hts jg_J0_isLatin1_aae02 rfl rfl rfl ⟨by decide +kernel, by decide +kernel, by decide +kernel, by decide +kernel⟩ ⟨Nat.le_of_ble_eq_true rfl, Nat.le_of_ble_eq_true rfl⟩) ⟨fun _ _ _ _ q => ⟨q.1, q.2.blind⟩, vk_recv hVS hj hSA, fun U hU hW => ⟨rfl, hO.at hU hW⟩⟩ rfl rfl hl.1 rfl (lv_room (Nat.le_of_ble_eq_true rfl)) eJ0_charAt_5068e_1 ⟨Nat.zero_le _, Nat.zero_le _⟩) ?_
  refine W.eq (g2 := F0 m 4 ls [.int 1]) rfl ?_
  refine lv_if_eq (tgt := 16) hx hb eJ0_charAt_5068e_4 (by decide) (fun q => absurd q (by decide)) (fun _ => ?_)
  refine lv_aload_n hx hb eJ0_charAt_5068e_7 rfl (lv_at hl 0 rfl) ?_
  refine vk_getf (ref := "java/lang/String") hx hb hE3 hSA hown (hts _ jw1) (fun _ h9 => h9) eJ0_charAt_5068e_8 ?_
  refine lv_iload_n hx hb eJ0_charAt_5068e_11 rfl (lv_at hl 1 rfl) ?_
  refine W.callV (r := .int (nI ((m_chs j).getD i 0))) (W.runS (As := [.ref (adV j), .int (nI i)]) (rest := []) (Ts := m_tbl) ⟨hx, hb, hml, hown, hts⟩ (jm_l1c G j (adV j) i hj hi l) (va_cwS 2 hts jg_J1_charAt_3b067 rfl rfl rfl ⟨by decide +kernel, by decide +kernel, by decide +kernel⟩ ⟨Nat.le_of_ble_eq_true rfl, Nat.le_of_ble_eq_true rfl⟩) ⟨fun _ _ _ _ q => ⟨q.1, q.2.1.blind, va_T.moved (Vm.Alike.refl _) q.2.2⟩, fun U hU hW => ⟨rfl, hO.at hU hW, m_Tx.at hE4 hU hW⟩⟩ rfl rfl hl.1 rfl (lv_room (Nat.le_of_ble_eq_true rfl)) eJ0_charAt_5068e_12 ⟨Nat.zero_le _, Nat.zero_le _⟩) ?_
  refine W.zret (ty := .char) hx hb hr ?_ (fun t ht hW => ⟨rfl, ht⟩) (fun q h => by cases h) eJ0_charAt_5068e_15
  have hch := m_chs_lt j hj i hi
  generalize (m_chs j).getD i 0 = n at hch ⊢
  have : ∀ n, n < 128 → narrow .char (.int (nI n)) = .int (nI n) := by decide +kernel
  exact this n hch
set_option maxHeartbeats 4000000 in
set_option maxRecDepth 100000 in
theorem jm_can (x : Int32) (l : Launch) : Met l yJ1_canEncode_9a6ad (m_wj yJ1_canEncode_9a6ad cJ1_canEncode_9a6ad 1 (some .boolean)) (m_rj 0 0) (fun v U => v = [.int x].toArray ∧ True) (k2_QcV (.int (if x < 0 then 0 else if 255 < x then 0 else 1))) 0 0 (fun _ => False) := by
  refine va_MetF (cc := cJ1_canEncode_9a6ad) (maxL := 1) (ret := (some .boolean)) (by decide +kernel) rfl ?_
  intro p e s m args below meth c s₁ B hml hv
  obtain ⟨rfl, -⟩ := hv
  have hx := B.exec
  have hb := B.bytes
  have hr := B.returns
  have hlocks := B.notSynchronized
  have hts0 := atoms_spec (ws := m_wj yJ1_canEncode_9a6ad cJ1_canEncode_9a6ad 1 (some .boolean)) B.pre
  have hts : ∀ w ∈ m_tbl, w.before [.int x].toArray s = true := fun w hw => hts0 w (List.mem_cons_of_mem _ hw)
  have hown : s.vm.findClass RJ1 = some m.cls := findClass_of_methodNamed B.named
  have hS : va_S (fun _ => False) s.heap s.heap [] := va_S.rf
  have hl := lv_entry ([.int x]) (n := 1) (Nat.le_of_ble_eq_true rfl)
  rw [show ([.int x] : List Value).toArray = ([.int x] : List Value).toArray from rfl, lg_entry_eq]
  generalize (lg_sl ([.int x]) ++ List.replicate (1 - (lg_sl ([.int x])).length) Slot.unset).toArray = ls at hl ⊢
  have hl : lv_has ls 1 [(0, .int x)] := hl
  refine lv_iload_n hx hb eJ1_canEncode_9a6ad_0 rfl (lv_at hl 0 rfl) ?_
  refine lv_if_lt (tgt := 15) hx hb eJ1_canEncode_9a6ad_1 (by decide) (fun q => ?_) (fun q => ?_)
  · rw [if_pos q]
    refine lv_iconst (v := 0) hx hb eJ1_canEncode_9a6ad_15 (by decide) ?_
    exact W.zret (ty := .boolean) hx hb hr rfl (fun t ht hW => ⟨rfl, ht⟩) (fun q h => by cases h) eJ1_canEncode_9a6ad_16
  · rw [if_neg q]
    refine lv_iload_n hx hb eJ1_canEncode_9a6ad_4 rfl (lv_at hl 0 rfl) ?_
    refine lv_sipush (v := 255) hx hb eJ1_canEncode_9a6ad_5 (by decide) ?_
    refine lv_icmp_gt (tgt := 15) hx hb eJ1_canEncode_9a6ad_8 (by decide) (fun q2 => ?_) (fun q2 => ?_)
    · rw [if_pos q2]
      refine lv_iconst (v := 0) hx hb eJ1_canEncode_9a6ad_15 (by decide) ?_
      exact W.zret (ty := .boolean) hx hb hr rfl (fun t ht hW => ⟨rfl, ht⟩) (fun q h => by cases h) eJ1_canEncode_9a6ad_16
    · rw [if_neg q2]
      refine lv_iconst (v := 1) hx hb eJ1_canEncode_9a6ad_11 (by decide) ?_
      refine lv_goto (tgt := 16) hx hb eJ1_canEncode_9a6ad_12 (by decide) ?_
      exact W.zret (ty := .boolean) hx hb hr rfl (fun t ht hW => ⟨rfl, ht⟩) (fun q h => by cases h) eJ1_canEncode_9a6ad_16
theorem m_ix_none {c : Int32} : ∀ (l : List Nat) (k : Nat), (∀ b ∈ l, c ≠ nI b) → m_ix c l k = -1 := by
  intro l
  induction l with
  | nil => intro k _; rfl
  | cons b l ih =>
    intro k h
    rw [m_ix, if_neg (h b List.mem_cons_self)]
    exact ih (k + 1) (fun b' hb => h b' (List.mem_cons_of_mem _ hb))
theorem m_ix_drop {c : Int32} {l : List Nat} {k : Nat} (hk : k < l.length) : m_ix c (l.drop k) k = if c = nI (l.getD k 0) then nI k else m_ix c (l.drop (k + 1)) (k + 1) := by
  have h1 : l.drop k = l.getD k 0 :: l.drop (k + 1) := by
    rw [List.drop_eq_getElem_cons hk]
    congr 1
    simp [List.getD, hk]
  rw [h1, m_ix]
theorem m_i8 : ∀ n, n < 256 → ∀ b, b < 128 → ((nI n).toInt8.toInt32 = nI b ↔ n = b) := by decide +kernel
set_option maxHeartbeats 4000000 in
set_option maxRecDepth 100000 in
theorem jm_ixc (G : m_GT) (j t x : Nat) (hj : j < 2) (hx0 : x < 256) (l : Launch) : Met l yJ1_indexOfChar_4cfef (m_wj yJ1_indexOfChar_4cfef cJ1_indexOfChar_4cfef 6 (some .int)) (m_rj 0 0) (fun v U => v = [.ref t, .int (nI x), .int 0, .int (nI (m_chs j).length)].toArray ∧ m_Od G U ∧ m_Tx G j t U) (k2_QcV (.int (m_ix (nI x) (m_chs j) 0))) 0 0 (fun _ => False) := by
  refine va_MetF (cc := cJ1_indexOfChar_4cfef) (maxL := 6) (ret := (some .int)) (by decide +kernel) rfl ?_
  intro p e s m args below meth c s₁ B hml hv
  obtain ⟨rfl, hO, hT⟩ := hv
  have hx := B.exec
  have hb := B.bytes
  have hr := B.returns
  have hlocks := B.notSynchronized
  have hts0 := atoms_spec (ws := m_wj yJ1_indexOfChar_4cfef cJ1_indexOfChar_4cfef 6 (some .int)) B.pre
  have hts : ∀ w ∈ m_tbl, w.before [.ref t, .int (nI x), .int 0, .int (nI (m_chs j).length)].toArray s = true := fun w hw => hts0 w (List.mem_cons_of_mem _ hw)
  have hown : s.vm.findClass RJ1 = some m.cls := findClass_of_methodNamed B.named
  have hS : va_S (fun _ => False) s.heap s.heap [] := va_S.rf
  have hl := lv_entry ([.ref t, .int (nI x), .int 0, .int (nI (m_chs j).length)]) (n := 6) (Nat.le_of_ble_eq_true rfl)
  rw [show ([.ref t, .int (nI x), .int 0, .int (nI (m_chs j).length)] : List Value).toArray = ([.ref t, .int (nI x), .int 0, .int (nI (m_chs j).length)] : List Value).toArray from rfl, lg_entry_eq]
  generalize (lg_sl ([.ref t, .int (nI x), .int 0, .int (nI (m_chs j).length)]) ++ List.replicate (6 - (lg_sl ([.ref t, .int (nI x), .int 0, .int (nI (m_chs j).length)])).length) Slot.unset).toArray = ls at hl ⊢
  have hl : lv_has ls 6 [(0, .ref t), (1, .int (nI x)), (2, .int 0), (3, .int (nI (m_chs j).length))] := hl
  have hSA : va_S (m_A G) s.heap s.heap [] := va_S.rf
  have hlen := m_len_lt j hj
  have hT' : va_T .byte t (m_lenS.getD j 0) (fun i => .int ((m_bytS.getD j []).getD i 0)) (m_A G) s s.heap := hT
  rw [m_lenS_ok j hj] at hT'
  refine lv_iload_n hx hb eJ1_indexOfChar_4cfef_0 rfl (lv_at hl 1 rfl) ?_
  refine lv_i2b (v := (nI x).toInt8.toInt32) hx hb eJ1_indexOfChar_4cfef_1 rfl ?_
  refine lv_istore (lv' := [(4, .int (nI x).toInt8.toInt32), (0, .ref t), (1, .int (nI x)), (2, .int 0), (3, .int (nI (m_chs j).length))]) hx hb eJ1_indexOfChar_4cfef_2 hl (by decide) rfl (fun ls hl => ?_)
  refine lv_iload_n hx hb eJ1_indexOfChar_4cfef_4 rfl (lv_at hl 3 rfl) ?_
  refine lv_istore (lv' := [(5, .int 0), (4, .int (nI x).toInt8.toInt32), (0, .ref t), (1, .int (nI x)), (2, .int 0), (3, .int (nI (m_chs j).length))]) hx hb eJ1_indexOfChar_4cfef_5 hl (by decide) rfl (fun ls hl => ?_)
  have loop : ∀ (n i : Nat), i ≤ (m_chs j).length → (m_chs j).length - i < n → m_ix (nI x) (m_chs j) 0 = m_ix (nI x) ((m_chs j).drop i) i → ∀ (ls : Array Slot), lv_has ls 6 [(5, .int (nI i)), (4, .int (nI x).toInt8.toInt32), (0, .ref t), (1, .int (nI x)), (2, .int 0), (3, .int (nI (m_chs j).length))] → W p l e (headSpec (m_wj yJ1_indexOfChar_4cfef cJ1_indexOfChar_4cfef 6 (some .int)) (m_rj 0 0)).room s m ([.ref t, .int (nI x), .int 0, .int (nI (m_chs j).length)] : List Value).toArray below meth c s.heap [] 0 0 (MQ below (k2_QcV (.int (m_ix (nI x) (m_chs j) 0))) ([.ref t, .int (nI x), .int 0, .int (nI (m_chs j).length)] : List Value).toArray s 0 0 (fun _ => False)) (F0 m 7 ls []) := by
    intro n
    induction n with
    | zero => intro i h1 h2; exact absurd h2 (by omega)
    | succ n ih =>
      intro i h1 h2 h3 ls hl
      refine lv_iload hx hb eJ1_indexOfChar_4cfef_7 (lv_at hl 0 rfl) ?_
      refine lv_iload_n hx hb eJ1_indexOfChar_4cfef_9 rfl (lv_at hl 5 rfl) ?_
      refine lv_icmp_ge (tgt := 31) hx hb eJ1_indexOfChar_4cfef_10 (by decide) (fun q => ?_) (fun q => ?_)
      · have hi : i = (m_chs j).length := by
          apply Classical.byContradiction
          intro z
          exact nI_ge (show i < (m_chs j).length by omega) (by omega) q
        rw [h3, hi, List.drop_length]
        refine lv_iconst (v := -1) hx hb eJ1_indexOfChar_4cfef_31 (by decide) ?_
        exact W.iret hx hb hr (fun t ht hW => ⟨rfl, ht⟩) (fun q h => by cases h) eJ1_indexOfChar_4cfef_32
      · have hi : i < (m_chs j).length := by
          apply Classical.byContradiction
          intro z
          exact q (nI_le (show (m_chs j).length ≤ i by omega) (by omega))
        have hch := m_chs_lt j hj i hi
        have hcl : (nI i).toNatClampNeg = i := nI_clamp (by omega)
        have hv : (fun i => Value.int ((m_bytS.getD j []).getD i 0)) (nI i).toNatClampNeg = .int (nI ((m_chs j).getD i 0)) := by
          dsimp only
          rw [hcl, m_bytS_ok j hj i hi]
        refine lv_aload_n hx hb eJ1_indexOfChar_4cfef_13 rfl (lv_at hl 2 rfl) ?_
        refine lv_iload hx hb eJ1_indexOfChar_4cfef_14 (lv_at hl 0 rfl) ?_
        refine va_tb hx hb hT' hSA (vp_in_nI hi (by omega)) hv eJ1_indexOfChar_4cfef_16 ?_
        refine lv_iload hx hb eJ1_indexOfChar_4cfef_17 (lv_at hl 1 rfl) ?_
        rw [m_ix_drop hi] at h3
        refine lv_icmp_ne (tgt := 25) hx hb eJ1_indexOfChar_4cfef_19 (by decide) (fun q => ?_) (fun q => ?_)
        · have hne : ¬ nI x = nI ((m_chs j).getD i 0) := by
            intro z
            have z2 : x = (m_chs j).getD i 0 := (nI_eq (by omega) (by omega)).mp z
            exact q ((m_i8 x hx0 _ hch).mpr z2).symm
          rw [if_neg hne] at h3
          refine lv_iinc (k := 0) (v := nI (i + 1)) (lv' := [(5, .int (nI (i + 1))), (4, .int (nI x).toInt8.toInt32), (0, .ref t), (1, .int (nI x)), (2, .int 0), (3, .int (nI (m_chs j).length))]) hx hb eJ1_indexOfChar_4cfef_25 hl rfl (nI_1 i) (by decide) rfl (fun ls hl => ?_)
          refine lv_goto (tgt := 7) hx hb eJ1_indexOfChar_4cfef_28 (by decide) ?_
          exact ih (i + 1) (by omega) (by omega) h3 ls hl
        · have heq : nI x = nI ((m_chs j).getD i 0) := by
            rw [(m_i8 x hx0 _ hch).mp q.symm]
          rw [if_pos heq] at h3
          rw [h3]
          refine lv_iload hx hb eJ1_indexOfChar_4cfef_22 (lv_at hl 0 rfl) ?_
          exact W.iret hx hb hr (fun t ht hW => ⟨rfl, ht⟩) (fun q h => by cases h) eJ1_indexOfChar_4cfef_24
  exact loop ((m_chs j).length + 1) 0 (Nat.zero_le _) (by omega) rfl ls hl
theorem m_len_pos : ∀ j, j < 2 → 0 < (m_chs j).length := by decide +kernel
theorem m_ch_mem : ∀ j, j < 2 → ∀ b ∈ m_chs j, b < 128 := by decide +kernel
set_option maxHeartbeats 4000000 in
set_option maxRecDepth 100000 in
theorem jm_l1i (G : m_GT) (j t : Nat) (x : Int32) (hj : j < 2) (l : Launch) : Met l yJ1_indexOf_4cfef (m_wj yJ1_indexOf_4cfef cJ1_indexOf_4cfef 4 (some .int)) (m_rj 1 25) (fun v U => v = [.ref t, .int x, .int 0, .int (nI (m_chs j).length)].toArray ∧ m_Od G U ∧ m_Tx G j t U) (k2_QcV (.int (m_ix x (m_chs j) 0))) 0 0 (fun _ => False) := by
  refine va_MetF (cc := cJ1_indexOf_4cfef) (maxL := 4) (ret := (some .int)) (by decide +kernel) rfl ?_
  intro p e s m args below meth c s₁ B hml hv
  obtain ⟨rfl, hO, hT⟩ := hv
  have hx := B.exec
  have hb := B.bytes
  have hr := B.returns
  have hlocks := B.notSynchronized
  have hts0 := atoms_spec (ws := m_wj yJ1_indexOf_4cfef cJ1_indexOf_4cfef 4 (some .int)) B.pre
  have hts : ∀ w ∈ m_tbl, w.before [.ref t, .int x, .int 0, .int (nI (m_chs j).length)].toArray s = true := fun w hw => hts0 w (List.mem_cons_of_mem _ hw)
  have hown : s.vm.findClass RJ1 = some m.cls := findClass_of_methodNamed B.named
  have hS : va_S (fun _ => False) s.heap s.heap [] := va_S.rf
  have hl := lv_entry ([.ref t, .int x, .int 0, .int (nI (m_chs j).length)]) (n := 4) (Nat.le_of_ble_eq_true rfl)
  rw [show ([.ref t, .int x, .int 0, .int (nI (m_chs j).length)] : List Value).toArray = ([.ref t, .int x, .int 0, .int (nI (m_chs j).length)] : List Value).toArray from rfl, lg_entry_eq]
  generalize (lg_sl ([.ref t, .int x, .int 0, .int (nI (m_chs j).length)]) ++ List.replicate (4 - (lg_sl ([.ref t, .int x, .int 0, .int (nI (m_chs j).length)])).length) Slot.unset).toArray = ls at hl ⊢
  have hl : lv_has ls 4 [(0, .ref t), (1, .int x), (2, .int 0), (3, .int (nI (m_chs j).length))] := hl
  have hSA : va_S (m_A G) s.heap s.heap [] := va_S.rf
  have hlen := m_len_lt j hj
  have hpos := m_len_pos j hj
  have hT' : va_T .byte t (m_lenS.getD j 0) (fun i => .int ((m_bytS.getD j []).getD i 0)) (m_A G) s s.heap := hT
  rw [m_lenS_ok j hj] at hT'
  refine lv_iload_n hx hb eJ1_indexOf_4cfef_0 rfl (lv_at hl 1 rfl) ?_
  refine W.callV (r := .int (if x < 0 then 0 else if 255 < x then 0 else 1)) (W.runS (As := [.int x]) (rest := []) (Ts := m_tbl) ⟨hx, hb, hml, hown, hts⟩ (jm_can x l) (va_cwS 1 hts jg_J1_canEncode_9a6ad rfl rfl rfl ⟨by decide +kernel, by decide +kernel, by decide +kernel⟩ ⟨Nat.le_of_ble_eq_true rfl, Nat.le_of_ble_eq_true rfl⟩) ⟨fun _ _ _ _ q => q, fun U hU hW => ⟨rfl, trivial⟩⟩ rfl rfl hl.1 rfl (lv_room (Nat.le_of_ble_eq_true rfl)) eJ1_indexOf_4cfef_1 ⟨Nat.zero_le _, Nat.zero_le _⟩) ?_
  refine W.eq (g2 := F0 m 4 ls [.int (if x < 0 then 0 else if 255 < x then 0 else 1)]) rfl ?_
  have small : ∀ b ∈ m_chs j, x = nI b → ¬ x < 0 ∧ ¬ 255 < x := by
    intro b hb0 he
    have hb1 := m_ch_mem j hj b hb0
    rw [he]
    exact ⟨nI_pos (by omega), nI_nlt (a := 255) (b := b) (by omega) (by omega)⟩
  refine lv_if_ne (tgt := 9) hx hb eJ1_indexOf_4cfef_4 (by decide) (fun q => ?_) (fun q => ?_)
  · have hx0 : ¬ x < 0 := fun z => q (by rw [if_pos z])
    have hx1 : ¬ 255 < x := fun z => q (by rw [if_neg hx0, if_pos z])
    obtain ⟨xn, hxn, rfl⟩ := nI_of hx0
    have hxs : xn < 256 := by
      apply Classical.byContradiction
      intro z
      exact hx1 (nI_lt (a := 255) (b := xn) (by omega) (by omega))
    refine lv_iload_n hx hb eJ1_indexOf_4cfef_9 rfl (lv_at hl 2 rfl) ?_
    refine lv_iconst (v := 0) hx hb eJ1_indexOf_4cfef_10 (by decide) ?_
    refine va_mmax hx hb (by rw [hml]; exact hl.1.symm) hown (hts _ jw32) (hts _ jw33) (hts _ jw34) (hts _ jmx) (Nat.le_of_ble_eq_true rfl) (Nat.le_of_ble_eq_true rfl) (Nat.zero_le _) (Nat.zero_le _) eJ1_indexOf_4cfef_11 ?_
    refine lv_istore_n (lv' := [(2, .int 0), (0, .ref t), (1, .int (nI xn)), (3, .int (nI (m_chs j).length))]) hx hb eJ1_indexOf_4cfef_14 rfl hl (by decide) rfl (fun ls hl => ?_)
    refine lv_iload_n hx hb eJ1_indexOf_4cfef_15 rfl (lv_at hl 3 rfl) ?_
    refine lv_aload_n hx hb eJ1_indexOf_4cfef_16 rfl (lv_at hl 1 rfl) ?_
    refine va_tlen (v := nI (m_chs j).length) hx hb hT' hSA rfl eJ1_indexOf_4cfef_17 ?_
    refine va_mmin hx hb (by rw [hml]; exact hl.1.symm) hown (hts _ jw35) (hts _ jw36) (hts _ jw34) (hts _ jmn) (Nat.le_of_ble_eq_true rfl) (Nat.le_of_ble_eq_true rfl) (Nat.zero_le _) (Nat.zero_le _) eJ1_indexOf_4cfef_18 ?_
    rw [ite_self]
    refine lv_istore_n (lv' := [(3, .int (nI (m_chs j).length)), (2, .int 0), (0, .ref t), (1, .int (nI xn))]) hx hb eJ1_indexOf_4cfef_21 rfl hl (by decide) rfl (fun ls hl => ?_)
    refine lv_iload_n hx hb eJ1_indexOf_4cfef_22 rfl (lv_at hl 1 rfl) ?_
    refine lv_iload_n hx hb eJ1_indexOf_4cfef_23 rfl (lv_at hl 0 rfl) ?_
    refine lv_icmp_lt (tgt := 29) hx hb eJ1_indexOf_4cfef_24 (by decide) (fun _ => ?_) (fun z => absurd (nI_lt (a := 0) hpos (by omega)) z)
    refine lv_aload_n hx hb eJ1_indexOf_4cfef_29 rfl (lv_at hl 2 rfl) ?_
    refine lv_iload_n hx hb eJ1_indexOf_4cfef_30 rfl (lv_at hl 3 rfl) ?_
    refine lv_iload_n hx hb eJ1_indexOf_4cfef_31 rfl (lv_at hl 1 rfl) ?_
    refine lv_iload_n hx hb eJ1_indexOf_4cfef_32 rfl (lv_at hl 0 rfl) ?_
    refine W.callV (r := .int (m_ix (nI xn) (m_chs j) 0)) (W.runS (As := [.ref t, .int (nI xn), .int 0, .int (nI (m_chs j).length)]) (rest := []) (Ts := m_tbl) ⟨hx, hb, hml, hown, hts⟩ (jm_ixc G j t xn hj hxs l) (va_cwS 4 hts jg_J1_indexOfChar_4cfef rfl rfl rfl ⟨by decide +kernel, by decide +kernel, by decide +kernel⟩ ⟨Nat.le_of_ble_eq_true rfl, Nat.le_of_ble_eq_true rfl⟩) ⟨fun _ _ _ _ q => ⟨q.1, q.2.1.blind, va_T.moved (Vm.Alike.refl _) q.2.2⟩, fun U hU hW => ⟨rfl, hO.at hU hW, m_Tx.at hT hU hW⟩⟩ rfl rfl hl.1 rfl (lv_room (Nat.le_of_ble_eq_true rfl)) eJ1_indexOf_4cfef_33 ⟨Nat.zero_le _, Nat.zero_le _⟩) ?_
    exact W.iret hx hb hr (fun t ht hW => ⟨rfl, ht⟩) (fun q h => by cases h) eJ1_indexOf_4cfef_36
  · have hnone : m_ix x (m_chs j) 0 = -1 := m_ix_none _ 0 (fun b hb0 he => by
      obtain ⟨z1, z2⟩ := small b hb0 he
      rw [if_neg z1, if_neg z2] at q
      exact absurd q (by decide))
    rw [hnone]
    refine lv_iconst (v := -1) hx hb eJ1_indexOf_4cfef_7 (by decide) ?_
    exact W.iret hx hb hr (fun t ht hW => ⟨rfl, ht⟩) (fun q h => by cases h) eJ1_indexOf_4cfef_8
set_option maxHeartbeats 4000000 in
set_option maxRecDepth 100000 in
theorem jm_six (G : m_GT) (j : Nat) (x : Int32) (hj : j < 2) (l : Launch) : Met l yJ0_indexOf_7cf53 (m_wj yJ0_indexOf_7cf53 cJ0_indexOf_7cf53 3 (some .int)) (m_rj 2 48) (fun v U => v = [.ref (G.2.1 j), .int x, .int 0].toArray ∧ m_Od G U) (k2_QcV (.int (m_ix x (m_chs j) 0))) 0 0 (fun _ => False) := by
  refine va_MetF (cc := cJ0_indexOf_7cf53) (maxL := 3) (ret := (some .int)) (by decide +kernel) rfl ?_
  intro p e s m args below meth c s₁ B hml hv
  obtain ⟨rfl, hO⟩ := hv
  have hx := B.exec
  have hb := B.bytes
  have hr := B.returns
  have hlocks := B.notSynchronized
  have hts0 := atoms_spec (ws := m_wj yJ0_indexOf_7cf53 cJ0_indexOf_7cf53 3 (some .int)) B.pre
  have hts : ∀ w ∈ m_tbl, w.before [.ref (G.2.1 j), .int x, .int 0].toArray s = true := fun w hw => hts0 w (List.mem_cons_of_mem _ hw)
  have hown : s.vm.findClass RJ0 = some m.cls := findClass_of_methodNamed B.named
  have hS : va_S (fun _ => False) s.heap s.heap [] := va_S.rf
  have hl := lv_entry ([.ref (G.2.1 j), .int x, .int 0]) (n := 3) (Nat.le_of_ble_eq_true rfl)
  rw [show ([.ref (G.2.1 j), .int x, .int 0] : List Value).toArray = ([.ref (G.2.1 j), .int x, .int 0] : List Value).toArray from rfl, lg_entry_eq]
  generalize (lg_sl ([.ref (G.2.1 j), .int x, .int 0]) ++ List.replicate (3 - (lg_sl ([.ref (G.2.1 j), .int x, .int 0])).length) Slot.unset).toArray = ls at hl ⊢
  have hl : lv_has ls 3 [(0, .ref (G.2.1 j)), (1, .int x), (2, .int 0)] := hl
  have hSA : va_S (m_A G) s.heap s.heap [] := va_S.rf
  obtain ⟨adV, hVS⟩ := hO.str
  obtain ⟨hE1, hE2, hE3, hE4⟩ := hVS.1 j hj
  refine lv_aload_n hx hb eJ0_indexOf_7cf53_0 rfl (lv_at hl 0 rfl) ?_
  refine W.callV (r := .int 1) (W.runV (As := []) (b := G.2.1 j) (C := RJ0) (rest := []) (Ts := m_tbl) ⟨hx, hb, hml, hown, hts⟩ (jm_isl G j hj l) (cwV 0 hts jg_J0_isLatin1_aae02 rfl rfl rfl ⟨by decide +kernel, by decide +kernel, by decide +kernel, by decide +kernel⟩ ⟨Nat.le_of_ble_eq_true rfl, Nat.le_of_ble_eq_true rfl⟩) ⟨fun _ _ _ _ q => ⟨q.1, q.2.blind⟩, vk_recv hVS hj hSA, fun U hU hW => ⟨rfl, hO.at hU hW⟩⟩ rfl rfl hl.1 rfl (lv_room (Nat.le_of_ble_eq_true rfl)) eJ0_indexOf_7cf53_1 ⟨Nat.zero_le _, Nat.zero_le _⟩) ?_
  refine W.eq (g2 := F0 m 4 ls [.int 1]) rfl ?_
  refine lv_if_eq (tgt := 23) hx hb eJ0_indexOf_7cf53_4 (by decide) (fun q => absurd q (by decide)) (fun _ => ?_)
  refine lv_aload_n hx hb eJ0_indexOf_7cf53_7 rfl (lv_at hl 0 rfl) ?_
  refine vk_getf (ref := "java/lang/String") hx hb hE3 hSA hown (hts _ jw1) (fun _ h9 => h9) eJ0_indexOf_7cf53_8 ?_
  refine lv_iload_n hx hb eJ0_indexOf_7cf53_11 rfl (lv_at hl 1 rfl) ?_
  refine lv_iload_n hx hb eJ0_indexOf_7cf53_12 rfl (lv_at hl 2 rfl) ?_
  refine lv_aload_n hx hb eJ0_indexOf_7cf53_13 rfl (lv_at hl 0 rfl) ?_
  refine W.callV (r := .int (nI (m_chs j).length)) (W.runV (As := []) (b := G.2.1 j) (C := RJ0) (rest := [.int 0, .int x, .ref (adV j)]) (Ts := m_tbl) ⟨hx, hb, hml, hown, hts⟩ (jm_len G j hj l) (cwV 0 hts jg_J0_length_8abf5 rfl rfl rfl ⟨by decide +kernel, by decide +kernel, by decide +kernel, by decide +kernel⟩ ⟨Nat.le_of_ble_eq_true rfl, Nat.le_of_ble_eq_true rfl⟩) ⟨fun _ _ _ _ q => ⟨q.1, q.2.blind⟩, vk_recv hVS hj hSA, fun U hU hW => ⟨rfl, hO.at hU hW⟩⟩ rfl rfl hl.1 rfl (lv_room (Nat.le_of_ble_eq_true rfl)) eJ0_indexOf_7cf53_14 ⟨Nat.zero_le _, Nat.zero_le _⟩) ?_
  refine W.callV (r := .int (m_ix x (m_chs j) 0)) (W.runS (As := [.ref (adV j), .int x, .int 0, .int (nI (m_chs j).length)]) (rest := []) (Ts := m_tbl) ⟨hx, hb, hml, hown, hts⟩ (jm_l1i G j (adV j) x hj l) (va_cwS 4 hts jg_J1_indexOf_4cfef rfl rfl rfl ⟨by decide +kernel, by decide +kernel, by decide +kernel⟩ ⟨Nat.le_of_ble_eq_true rfl, Nat.le_of_ble_eq_true rfl⟩) ⟨fun _ _ _ _ q => ⟨q.1, q.2.1.blind, va_T.moved (Vm.Alike.refl _) q.2.2⟩, fun U hU hW => ⟨rfl, hO.at hU hW, m_Tx.at hE4 hU hW⟩⟩ rfl rfl hl.1 rfl (lv_room (Nat.le_of_ble_eq_true rfl)) eJ0_indexOf_7cf53_17 ⟨Nat.zero_le _, Nat.zero_le _⟩) ?_
  refine W.eq (g2 := F0 m 20 ls [.int (m_ix x (m_chs j) 0)]) rfl ?_
  refine lv_goto (tgt := 36) hx hb eJ0_indexOf_7cf53_20 (by decide) ?_
  exact W.iret hx hb hr (fun t ht hW => ⟨rfl, ht⟩) (fun q h => by cases h) eJ0_indexOf_7cf53_36
set_option maxHeartbeats 4000000 in
set_option maxRecDepth 100000 in
theorem jm_si (G : m_GT) (j : Nat) (x : Int32) (hj : j < 2) (l : Launch) : Met l yJ0_indexOf_0f7a4 (m_wj yJ0_indexOf_0f7a4 cJ0_indexOf_0f7a4 2 (some .int)) (m_rj 3 70) (fun v U => v = [.ref (G.2.1 j), .int x].toArray ∧ m_Od G U) (k2_QcV (.int (m_ix x (m_chs j) 0))) 0 0 (fun _ => False) := by
  refine va_MetF (cc := cJ0_indexOf_0f7a4) (maxL := 2) (ret := (some .int)) (by decide +kernel) rfl ?_
  intro p e s m args below meth c s₁ B hml hv
  obtain ⟨rfl, hO⟩ := hv
  have hx := B.exec
  have hb := B.bytes
  have hr := B.returns
  have hlocks := B.notSynchronized
  have hts0 := atoms_spec (ws := m_wj yJ0_indexOf_0f7a4 cJ0_indexOf_0f7a4 2 (some .int)) B.pre
  have hts : ∀ w ∈ m_tbl, w.before [.ref (G.2.1 j), .int x].toArray s = true := fun w hw => hts0 w (List.mem_cons_of_mem _ hw)
  have hown : s.vm.findClass RJ0 = some m.cls := findClass_of_methodNamed B.named
  have hS : va_S (fun _ => False) s.heap s.heap [] := va_S.rf
  have hl := lv_entry ([.ref (G.2.1 j), .int x]) (n := 2) (Nat.le_of_ble_eq_true rfl)
  rw [show ([.ref (G.2.1 j), .int x] : List Value).toArray = ([.ref (G.2.1 j), .int x] : List Value).toArray from rfl, lg_entry_eq]
  generalize (lg_sl ([.ref (G.2.1 j), .int x]) ++ List.replicate (2 - (lg_sl ([.ref (G.2.1 j), .int x])).length) Slot.unset).toArray = ls at hl ⊢
  have hl : lv_has ls 2 [(0, .ref (G.2.1 j)), (1, .int x)] := hl
  have hSA : va_S (m_A G) s.heap s.heap [] := va_S.rf
  obtain ⟨adV, hVS⟩ := hO.str
  obtain ⟨hE1, hE2, hE3, hE4⟩ := hVS.1 j hj
  refine lv_aload_n hx hb eJ0_indexOf_0f7a4_0 rfl (lv_at hl 0 rfl) ?_
  refine lv_iload_n hx hb eJ0_indexOf_0f7a4_1 rfl (lv_at hl 1 rfl) ?_
  refine lv_iconst (v := 0) hx hb eJ0_indexOf_0f7a4_2 (by decide) ?_
  refine W.callV (r := .int (m_ix x (m_chs j) 0)) (W.runV (As := [.int x, .int 0]) (b := G.2.1 j) (C := RJ0) (rest := []) (Ts := m_tbl) ⟨hx, hb, hml, hown, hts⟩ (jm_six G j x hj l) (cwV 2 hts jg_J0_indexOf_7cf53 rfl rfl rfl ⟨by decide +kernel, by decide +kernel, by decide +kernel, by decide +kernel⟩ ⟨Nat.le_of_ble_eq_true rfl, Nat.le_of_ble_eq_true rfl⟩) ⟨fun _ _ _ _ q => ⟨q.1, q.2.blind⟩, vk_recv hVS hj hSA, fun U hU hW => ⟨rfl, hO.at hU hW⟩⟩ rfl rfl hl.1 rfl (lv_room (Nat.le_of_ble_eq_true rfl)) eJ0_indexOf_0f7a4_3 ⟨Nat.zero_le _, Nat.zero_le _⟩) ?_
  exact W.iret hx hb hr (fun t ht hW => ⟨rfl, ht⟩) (fun q h => by cases h) eJ0_indexOf_0f7a4_6
theorem jw37 : Cond.instanceMethod yJ0_charAt_5068e ∈ m_tbl := m_in (List.mem_of_getElem? (i := 178) (by decide +kernel)) rfl
theorem jw38 : Cond.selects RJ0 yJ0_charAt_5068e yJ0_charAt_5068e ∈ m_tbl := m_in (List.mem_of_getElem? (i := 179) (by decide +kernel)) rfl
theorem jw39 : Cond.instanceMethod yJ0_indexOf_0f7a4 ∈ m_tbl := m_in (List.mem_of_getElem? (i := 245) (by decide +kernel)) rfl
theorem jw40 : Cond.selects RJ0 yJ0_indexOf_0f7a4 yJ0_indexOf_0f7a4 ∈ m_tbl := m_in (List.mem_of_getElem? (i := 246) (by decide +kernel)) rfl
/-- the row: a call of a String's own method on one of the two constants -/
def m_strY (z : Nat) : MethodName := bif Nat.beq z 1000 then yJ0_length_8abf5 else bif Nat.beq z 1001 then yJ0_charAt_5068e else yJ0_indexOf_0f7a4
section MSTR
variable {p : Program} {l : Launch} {e : Env} {R : Room} {s : State} {m : MethodId} {args : Array Value} {below : List Frame} {meth : Method} {c : Code} {H : Heap} {locs : List Loc} {cells slots : Nat} {Q : State → Prop} {G : m_GT} {y : Nat}
theorem m_Wst1 (F : m_Fr p G y R s m args meth c) {h : MH} {j idx pc n : Nat} {as r : List Value} {x : Int32} {lsA : Array Slot} {yy : MethodName} {bb : ByteArray} {mL : Nat} {rt : Option FieldType} {rf rl : Nat} {i0 : Nat} (hR : m_Rel G h H) (hS : va_S (m_A G) s.heap H locs) (hsz : lsA.size = m_maxL y) (hj : j < 2)
    (hM : Met l yy (m_wj yy bb mL rt) (m_rj rf rl) (fun v U => v = (.ref (G.2.1 j) :: as.map (m_tv G)).toArray ∧ m_Od G U) (k2_QcV (.int x)) 0 0 (fun _ => False)) (hold : G.2.2.2.2.size = G.1) (hcode : lw_tbl[i0]? = some (.code yy bb mL rt)) (hcls : yy.cls = RJ0) (hi : Cond.instanceMethod yy ∈ m_tbl) (hse : Cond.selects RJ0 yy yy ∈ m_tbl) (hnp : (parseMethodDescriptor yy.desc).map (fun d => d.parameters.length) = some n) (hn : as.length = n)
    (hlink : Cond.methodLink (m_own y) idx yy ∈ m_tbl) (hr : ((r.map (m_tv G)).map fun v => v.category).sum ≤ 8) (hfr : rf + 1 ≤ m_frm y) (hlo : 8 + (mL + 11) + rl ≤ m_loc y) (hd : decode (m_bytes y) pc = .ok (.invokevirtual idx, 3))
    (kk : W p l e R s m args below meth c H locs cells slots Q (F0 m (pc + 3) lsA (.int x :: r.map (m_tv G)))) (hcl : cells ≤ R.cells) (hsl : slots ≤ R.slots) : W p l e R s m args below meth c H locs cells slots Q (F0 m pc lsA ((as.map (m_tv G)).reverse ++ .ref (G.2.1 j) :: r.map (m_tv G))) := by
  obtain ⟨hx, hb, hml, hrt, hlocks, hnm, hown, hts, hK, hbase, hfr0, hlo0⟩ := F
  have hO : ∀ U : State, U.heap = H → s.WarmedH U.vm → m_Od G U := fun U hU hW => ⟨m_KS.warm hW hK, hold, by rw [hU, hR.1]; omega, by rw [hU]; exact hR.2.2⟩
  obtain ⟨adV, hVS⟩ := hK.2.2.1
  have hrecv : ∃ cell : Cell, H[G.2.1 j]? = some cell ∧ cell.vm.isStatics = false ∧ s.vm.findClass "java/lang/String" = some cell.cls := by
    obtain ⟨cell, h1, h2, h3, -⟩ := (hVS.1 j hj).1.kept (H1 := H) (fun a h1 _ => hR.2.2 a (by rw [← hold]; exact h1))
    exact ⟨cell, h1, h2, h3⟩
  refine W.callV (r := .int x) (W.runV (As := as.map (m_tv G)) (b := G.2.1 j) (C := RJ0) (rest := r.map (m_tv G)) (Ts := m_tbl) (n := n) (index := idx) ⟨hx, hb, hml, hown, hts⟩ hM (cwV n hts ?_ rfl rfl rfl ⟨hcls, by rw [hcls]; decide +kernel, by rw [hcls]; decide +kernel, hnp⟩ ⟨Nat.le_trans hfr hfr0, Nat.le_trans hlo hlo0⟩) ⟨fun _ _ _ _ q => ⟨q.1, q.2.blind⟩, hrecv, fun U hU hW => ⟨rfl, hO U hU hW⟩⟩ rfl (by rw [List.length_map]; exact hn) hsz rfl (lv_room hr) hd ⟨hcl, hsl⟩) kk
  intro w hw
  unfold wsV at hw
  rcases List.mem_append.mp hw with hw | hw
  · simp only [List.mem_cons, List.not_mem_nil, or_false] at hw
    rcases hw with rfl | rfl | rfl | rfl
    · exact ⟨hlink, Or.inl rfl⟩
    · exact ⟨hi, Or.inl rfl⟩
    · exact ⟨hse, Or.inl rfl⟩
    · exact ⟨jw8, Or.inl rfl⟩
  · exact m_good_wj hcode w hw
theorem m_str_inv {q j : Nat} {as : List Value} {x : Int32} (h : m_str q j as = some x) : (q = 0 ∧ x = nI (m_chs j).length) ∨ (q = 1 ∧ ∃ i : Nat, i < (m_chs j).length ∧ as = [.int (nI i)] ∧ x = nI ((m_chs j).getD i 0)) ∨ (q = 2 ∧ ∃ z, as = [.int z] ∧ x = m_ix z (m_chs j) 0) := by
  unfold m_str at h
  cases hb : Nat.blt j 2 with
  | false => rw [hb] at h; cases h
  | true =>
    rw [hb] at h
    simp only [cond_true] at h
    have hj : j < 2 := by rwa [Nat.blt_eq] at hb
    split at h
    · cases h; exact Or.inl ⟨rfl, rfl⟩
    · split at h
      · rename_i i
        split at h
        · cases h
        · rename_i hi
          cases h
          obtain ⟨k, hk, rfl⟩ := vp_in_of (x := i) (n := (m_chs j).length) hi (by have := m_len_lt j hj; omega)
          refine Or.inr (Or.inl ⟨rfl, k, hk, rfl, ?_⟩)
          rw [nI_clamp (by have := m_len_lt j hj; omega)]
      · cases h
    · split at h
      · rename_i z
        cases h
        exact Or.inr (Or.inr ⟨rfl, z, rfl, rfl⟩)
      · cases h
    · cases h
theorem m_Wstr (F : m_Fr p G y R s m args meth c) (hold : G.2.2.2.2.size = G.1) {h : MH} {z j idx pc : Nat} {as r : List Value} {x : Int32} {lsA : Array Slot} (hR : m_Rel G h H) (hS : va_S (m_A G) s.heap H locs) (hsz : lsA.size = m_maxL y) (hq : m_str (z - 1000) j as = some x) (hj : j < 2) (hz : 1000 ≤ z ∧ z < 1003) (hna : as.length + 1 = (bif Nat.beq z 1000 then 1 else 2)) (hlink : Cond.methodLink (m_own y) idx (m_strY z) ∈ m_tbl) (hr : ((r.map (m_tv G)).map fun v => v.category).sum ≤ 8) (hfr : 5 ≤ m_frm y) (hlo : 140 ≤ m_loc y) (hd : decode (m_bytes y) pc = .ok (.invokevirtual idx, 3))
    (kk : W p l e R s m args below meth c H locs cells slots Q (F0 m (pc + 3) lsA (.int x :: r.map (m_tv G)))) (hcl : cells ≤ R.cells) (hsl : slots ≤ R.slots) : W p l e R s m args below meth c H locs cells slots Q (F0 m pc lsA ((as.map (m_tv G)).reverse ++ .ref (G.2.1 j) :: r.map (m_tv G))) := by
  rcases m_str_inv hq with ⟨h0, rfl⟩ | ⟨h0, i, hi, rfl, rfl⟩ | ⟨h0, z0, rfl, rfl⟩
  · obtain rfl : z = 1000 := by omega
    have has : as = [] := by
      have h1 : as.length + 1 = 1 := hna
      exact List.length_eq_zero_iff.mp (by omega)
    subst has
    exact m_Wst1 F hR hS hsz hj (jm_len G j hj l) hold jc_J0_length_8abf5 rfl jw24 jw25 (n := 0) (by decide +kernel) rfl hlink hr (by omega) (by omega) hd kk hcl hsl
  · obtain rfl : z = 1001 := by omega
    exact m_Wst1 F hR hS hsz hj (jm_cha G j i hj hi l) hold jc_J0_charAt_5068e rfl jw37 jw38 (n := 1) (by decide +kernel) rfl hlink hr (by omega) (by omega) hd kk hcl hsl
  · obtain rfl : z = 1002 := by omega
    exact m_Wst1 F hR hS hsz hj (jm_si G j z0 hj l) hold jc_J0_indexOf_0f7a4 rfl jw39 jw40 (n := 1) (by decide +kernel) rfl hlink hr (by omega) (by omega) hd kk hcl hsl
end MSTR
