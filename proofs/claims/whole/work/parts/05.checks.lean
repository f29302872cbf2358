/-! what the tables say of the codes, decided by the kernel -/
def m_name (y : Nat) : MethodName := (bif Nat.blt y 82 then (bif Nat.blt y 41 then (bif Nat.blt y 20 then (bif Nat.blt y 10 then (bif Nat.blt y 5 then (bif Nat.blt y 2 then (bif Nat.blt y 1 then yX0_init else yX0_clear) else (bif Nat.blt y 3 then yX0_addWord else (bif Nat.blt y 4 then yX0_addWay else yX0_addAsker))) else (bif Nat.blt y 7 then (bif Nat.blt y 6 then yX0_hasPlace else yX0_hasWay) else (bif Nat.blt y 8 then yX0_hasAsker else (bif Nat.blt y 9 then yX0_wordAt else yX0_spotAround)))) else (bif Nat.blt y 15 then (bif Nat.blt y 12 then (bif Nat.blt y 11 then yX0_otherEnd else yX0_hoursBy) else (bif Nat.blt y 13 then yX1_init else (bif Nat.blt y 14 then yX1_start else yX1_copy))) else (bif Nat.blt y 17 then (bif Nat.blt y 16 then yX1_spotIn else yX1_uppermost) else (bif Nat.blt y 18 then yX1_goOn else (bif Nat.blt y 19 then yX1_turnOnePlace else yX1_isOnTop))))) else (bif Nat.blt y 30 then (bif Nat.blt y 25 then (bif Nat.blt y 22 then (bif Nat.blt y 21 then yX1_manyOnTop else yX1_readersOfWishes) else (bif Nat.blt y 23 then yX1_hoursToSetOut else (bif Nat.blt y 24 then yX1_leave else yX2_init))) else (bif Nat.blt y 27 then (bif Nat.blt y 26 then yX2_look else yX2_comesAgainBehind) else (bif Nat.blt y 28 then yX2_wordIn else (bif Nat.blt y 29 then yX2_soonestWord else yX2_prepare)))) else (bif Nat.blt y 35 then (bif Nat.blt y 32 then (bif Nat.blt y 31 then yX2_mark else yX2_whoIsAt) else (bif Nat.blt y 33 then yX2_spread else (bif Nat.blt y 34 then yX2_spreadByWays else yX2_onTop))) else (bif Nat.blt y 38 then (bif Nat.blt y 36 then yX2_soonestTopOfAny else (bif Nat.blt y 37 then yX3_init else yX3_copyOut)) else (bif Nat.blt y 39 then yX3_copyItem else (bif Nat.blt y 40 then yX3_copyRing else yX3_copyLaw)))))) else (bif Nat.blt y 61 then (bif Nat.blt y 51 then (bif Nat.blt y 46 then (bif Nat.blt y 43 then (bif Nat.blt y 42 then yX3_copyPlaces else yX3_copyWay) else (bif Nat.blt y 44 then yX3_copyAsker else (bif Nat.blt y 45 then yX3_takesNumbers else yX3_takeFigure))) else (bif Nat.blt y 48 then (bif Nat.blt y 47 then yX3_takes else yX3_isAtFigure) else (bif Nat.blt y 49 then yX4_init else (bif Nat.blt y 50 then yX4_clear else yX4_push)))) else (bif Nat.blt y 56 then (bif Nat.blt y 53 then (bif Nat.blt y 52 then yX4_pop else yX5_init) else (bif Nat.blt y 54 then yX5_add else (bif Nat.blt y 55 then yX5_fits else yX6_init))) else (bif Nat.blt y 58 then (bif Nat.blt y 57 then yX6_append else yX6_letterAt) else (bif Nat.blt y 59 then yX7_init else (bif Nat.blt y 60 then yX7_write else yX7_wipe))))) else (bif Nat.blt y 71 then (bif Nat.blt y 66 then (bif Nat.blt y 63 then (bif Nat.blt y 62 then yX7_fault else yX7_lay) else (bif Nat.blt y 64 then yX7_word else (bif Nat.blt y 65 then yX7_way else yX7_asker))) else (bif Nat.blt y 68 then (bif Nat.blt y 67 then yX7_pass else yX7_setOut) else (bif Nat.blt y 69 then yX7_foot else (bif Nat.blt y 70 then yX7_graze else yX7_undo)))) else (bif Nat.blt y 76 then (bif Nat.blt y 73 then (bif Nat.blt y 72 then yX7_upper else yX7_round) else (bif Nat.blt y 74 then yX7_top else (bif Nat.blt y 75 then yX7_read else yX7_both))) else (bif Nat.blt y 79 then (bif Nat.blt y 77 then yX7_hold else (bif Nat.blt y 78 then yX7_first else yX7_see)) else (bif Nat.blt y 80 then yX7_forget else (bif Nat.blt y 81 then yX7_laws else yX7_from))))))) else (bif Nat.blt y 123 then (bif Nat.blt y 102 then (bif Nat.blt y 92 then (bif Nat.blt y 87 then (bif Nat.blt y 84 then (bif Nat.blt y 83 then yX7_grazing else yX7_year) else (bif Nat.blt y 85 then yX7_keep else (bif Nat.blt y 86 then yX7_back else yX7_count))) else (bif Nat.blt y 89 then (bif Nat.blt y 88 then yX7_firstHill else yX7_isWord) else (bif Nat.blt y 90 then yX7_soonestTop else (bif Nat.blt y 91 then yX7_getsHisWish else yX7_lowestBit)))) else (bif Nat.blt y 97 then (bif Nat.blt y 94 then (bif Nat.blt y 93 then yX7_weighTurns else yX7_commonDivisor) else (bif Nat.blt y 95 then yX7_draw else (bif Nat.blt y 96 then yX7_setOutByDraw else yX8_init))) else (bif Nat.blt y 99 then (bif Nat.blt y 98 then yX8_tellsRing else yX8_tellsWay) else (bif Nat.blt y 100 then yX8_tellsAsker else (bif Nat.blt y 101 then yX8_in else yX8_has))))) else (bif Nat.blt y 112 then (bif Nat.blt y 107 then (bif Nat.blt y 104 then (bif Nat.blt y 103 then yX8_isWay else yX8_isAsker) else (bif Nat.blt y 105 then yX8_isWord else (bif Nat.blt y 106 then yX8_write else yX8_wipe))) else (bif Nat.blt y 109 then (bif Nat.blt y 108 then yX8_letterAt else yX8_isFigure) else (bif Nat.blt y 110 then yX8_readNumbers else (bif Nat.blt y 111 then yX8_isTold else yX8_clearTold)))) else (bif Nat.blt y 117 then (bif Nat.blt y 114 then (bif Nat.blt y 113 then yX8_wordOf else yX8_readRingOf) else (bif Nat.blt y 115 then yX8_readTurnOf else (bif Nat.blt y 116 then yX8_readPlacesOf else yX8_readWayOf))) else (bif Nat.blt y 120 then (bif Nat.blt y 118 then yX8_readAskerOf else (bif Nat.blt y 119 then yX8_readItem else yX8_fault)) else (bif Nat.blt y 121 then yX8_lay else (bif Nat.blt y 122 then yX8_copies else yX8_settles)))))) else (bif Nat.blt y 143 then (bif Nat.blt y 133 then (bif Nat.blt y 128 then (bif Nat.blt y 125 then (bif Nat.blt y 124 then yX8_turnsBy else yX8_findUps) else (bif Nat.blt y 126 then yX8_wordBy else (bif Nat.blt y 127 then yX8_hoursOf else yX8_word))) else (bif Nat.blt y 130 then (bif Nat.blt y 129 then yX8_way else yX8_isOnTop) else (bif Nat.blt y 131 then yX8_asker else (bif Nat.blt y 132 then yX8_remembers else yX8_goes)))) else (bif Nat.blt y 138 then (bif Nat.blt y 135 then (bif Nat.blt y 134 then yX8_pass else yX8_leadsFrom) else (bif Nat.blt y 136 then yX8_otherEnd else (bif Nat.blt y 137 then yX8_setsOut else yX8_setOut))) else (bif Nat.blt y 140 then (bif Nat.blt y 139 then yX8_foot else yX8_graze) else (bif Nat.blt y 141 then yX8_undo else (bif Nat.blt y 142 then yX8_upper else yX8_round))))) else (bif Nat.blt y 153 then (bif Nat.blt y 148 then (bif Nat.blt y 145 then (bif Nat.blt y 144 then yX8_findCan else yX8_topBy) else (bif Nat.blt y 146 then yX8_findOf else (bif Nat.blt y 147 then yX8_top else yX8_read))) else (bif Nat.blt y 150 then (bif Nat.blt y 149 then yX8_both else yX8_hold) else (bif Nat.blt y 151 then yX8_first else (bif Nat.blt y 152 then yX8_see else yX8_forget)))) else (bif Nat.blt y 158 then (bif Nat.blt y 155 then (bif Nat.blt y 154 then yX8_laws else yX8_from) else (bif Nat.blt y 156 then yX8_grazing else (bif Nat.blt y 157 then yX8_year else yX8_onTop))) else (bif Nat.blt y 161 then (bif Nat.blt y 159 then yX8_keep else (bif Nat.blt y 160 then yX8_back else yX8_count)) else (bif Nat.blt y 162 then yJ9_floorMod_7cf53 else (bif Nat.blt y 163 then yJ9_max_7cf53 else yJ9_min_7cf53))))))))
def m_bytes (y : Nat) : ByteArray := (bif Nat.blt y 82 then (bif Nat.blt y 41 then (bif Nat.blt y 20 then (bif Nat.blt y 10 then (bif Nat.blt y 5 then (bif Nat.blt y 2 then (bif Nat.blt y 1 then cX0_init else cX0_clear) else (bif Nat.blt y 3 then cX0_addWord else (bif Nat.blt y 4 then cX0_addWay else cX0_addAsker))) else (bif Nat.blt y 7 then (bif Nat.blt y 6 then cX0_hasPlace else cX0_hasWay) else (bif Nat.blt y 8 then cX0_hasAsker else (bif Nat.blt y 9 then cX0_wordAt else cX0_spotAround)))) else (bif Nat.blt y 15 then (bif Nat.blt y 12 then (bif Nat.blt y 11 then cX0_otherEnd else cX0_hoursBy) else (bif Nat.blt y 13 then cX1_init else (bif Nat.blt y 14 then cX1_start else cX1_copy))) else (bif Nat.blt y 17 then (bif Nat.blt y 16 then cX1_spotIn else cX1_uppermost) else (bif Nat.blt y 18 then cX1_goOn else (bif Nat.blt y 19 then cX1_turnOnePlace else cX1_isOnTop))))) else (bif Nat.blt y 30 then (bif Nat.blt y 25 then (bif Nat.blt y 22 then (bif Nat.blt y 21 then cX1_manyOnTop else cX1_readersOfWishes) else (bif Nat.blt y 23 then cX1_hoursToSetOut else (bif Nat.blt y 24 then cX1_leave else cX2_init))) else (bif Nat.blt y 27 then (bif Nat.blt y 26 then cX2_look else cX2_comesAgainBehind) else (bif Nat.blt y 28 then cX2_wordIn else (bif Nat.blt y 29 then cX2_soonestWord else cX2_prepare)))) else (bif Nat.blt y 35 then (bif Nat.blt y 32 then (bif Nat.blt y 31 then cX2_mark else cX2_whoIsAt) else (bif Nat.blt y 33 then cX2_spread else (bif Nat.blt y 34 then cX2_spreadByWays else cX2_onTop))) else (bif Nat.blt y 38 then (bif Nat.blt y 36 then cX2_soonestTopOfAny else (bif Nat.blt y 37 then cX3_init else cX3_copyOut)) else (bif Nat.blt y 39 then cX3_copyItem else (bif Nat.blt y 40 then cX3_copyRing else cX3_copyLaw)))))) else (bif Nat.blt y 61 then (bif Nat.blt y 51 then (bif Nat.blt y 46 then (bif Nat.blt y 43 then (bif Nat.blt y 42 then cX3_copyPlaces else cX3_copyWay) else (bif Nat.blt y 44 then cX3_copyAsker else (bif Nat.blt y 45 then cX3_takesNumbers else cX3_takeFigure))) else (bif Nat.blt y 48 then (bif Nat.blt y 47 then cX3_takes else cX3_isAtFigure) else (bif Nat.blt y 49 then cX4_init else (bif Nat.blt y 50 then cX4_clear else cX4_push)))) else (bif Nat.blt y 56 then (bif Nat.blt y 53 then (bif Nat.blt y 52 then cX4_pop else cX5_init) else (bif Nat.blt y 54 then cX5_add else (bif Nat.blt y 55 then cX5_fits else cX6_init))) else (bif Nat.blt y 58 then (bif Nat.blt y 57 then cX6_append else cX6_letterAt) else (bif Nat.blt y 59 then cX7_init else (bif Nat.blt y 60 then cX7_write else cX7_wipe))))) else (bif Nat.blt y 71 then (bif Nat.blt y 66 then (bif Nat.blt y 63 then (bif Nat.blt y 62 then cX7_fault else cX7_lay) else (bif Nat.blt y 64 then cX7_word else (bif Nat.blt y 65 then cX7_way else cX7_asker))) else (bif Nat.blt y 68 then (bif Nat.blt y 67 then cX7_pass else cX7_setOut) else (bif Nat.blt y 69 then cX7_foot else (bif Nat.blt y 70 then cX7_graze else cX7_undo)))) else (bif Nat.blt y 76 then (bif Nat.blt y 73 then (bif Nat.blt y 72 then cX7_upper else cX7_round) else (bif Nat.blt y 74 then cX7_top else (bif Nat.blt y 75 then cX7_read else cX7_both))) else (bif Nat.blt y 79 then (bif Nat.blt y 77 then cX7_hold else (bif Nat.blt y 78 then cX7_first else cX7_see)) else (bif Nat.blt y 80 then cX7_forget else (bif Nat.blt y 81 then cX7_laws else cX7_from))))))) else (bif Nat.blt y 123 then (bif Nat.blt y 102 then (bif Nat.blt y 92 then (bif Nat.blt y 87 then (bif Nat.blt y 84 then (bif Nat.blt y 83 then cX7_grazing else cX7_year) else (bif Nat.blt y 85 then cX7_keep else (bif Nat.blt y 86 then cX7_back else cX7_count))) else (bif Nat.blt y 89 then (bif Nat.blt y 88 then cX7_firstHill else cX7_isWord) else (bif Nat.blt y 90 then cX7_soonestTop else (bif Nat.blt y 91 then cX7_getsHisWish else cX7_lowestBit)))) else (bif Nat.blt y 97 then (bif Nat.blt y 94 then (bif Nat.blt y 93 then cX7_weighTurns else cX7_commonDivisor) else (bif Nat.blt y 95 then cX7_draw else (bif Nat.blt y 96 then cX7_setOutByDraw else cX8_init))) else (bif Nat.blt y 99 then (bif Nat.blt y 98 then cX8_tellsRing else cX8_tellsWay) else (bif Nat.blt y 100 then cX8_tellsAsker else (bif Nat.blt y 101 then cX8_in else cX8_has))))) else (bif Nat.blt y 112 then (bif Nat.blt y 107 then (bif Nat.blt y 104 then (bif Nat.blt y 103 then cX8_isWay else cX8_isAsker) else (bif Nat.blt y 105 then cX8_isWord else (bif Nat.blt y 106 then cX8_write else cX8_wipe))) else (bif Nat.blt y 109 then (bif Nat.blt y 108 then cX8_letterAt else cX8_isFigure) else (bif Nat.blt y 110 then cX8_readNumbers else (bif Nat.blt y 111 then cX8_isTold else cX8_clearTold)))) else (bif Nat.blt y 117 then (bif Nat.blt y 114 then (bif Nat.blt y 113 then cX8_wordOf else cX8_readRingOf) else (bif Nat.blt y 115 then cX8_readTurnOf else (bif Nat.blt y 116 then cX8_readPlacesOf else cX8_readWayOf))) else (bif Nat.blt y 120 then (bif Nat.blt y 118 then cX8_readAskerOf else (bif Nat.blt y 119 then cX8_readItem else cX8_fault)) else (bif Nat.blt y 121 then cX8_lay else (bif Nat.blt y 122 then cX8_copies else cX8_settles)))))) else (bif Nat.blt y 143 then (bif Nat.blt y 133 then (bif Nat.blt y 128 then (bif Nat.blt y 125 then (bif Nat.blt y 124 then cX8_turnsBy else cX8_findUps) else (bif Nat.blt y 126 then cX8_wordBy else (bif Nat.blt y 127 then cX8_hoursOf else cX8_word))) else (bif Nat.blt y 130 then (bif Nat.blt y 129 then cX8_way else cX8_isOnTop) else (bif Nat.blt y 131 then cX8_asker else (bif Nat.blt y 132 then cX8_remembers else cX8_goes)))) else (bif Nat.blt y 138 then (bif Nat.blt y 135 then (bif Nat.blt y 134 then cX8_pass else cX8_leadsFrom) else (bif Nat.blt y 136 then cX8_otherEnd else (bif Nat.blt y 137 then cX8_setsOut else cX8_setOut))) else (bif Nat.blt y 140 then (bif Nat.blt y 139 then cX8_foot else cX8_graze) else (bif Nat.blt y 141 then cX8_undo else (bif Nat.blt y 142 then cX8_upper else cX8_round))))) else (bif Nat.blt y 153 then (bif Nat.blt y 148 then (bif Nat.blt y 145 then (bif Nat.blt y 144 then cX8_findCan else cX8_topBy) else (bif Nat.blt y 146 then cX8_findOf else (bif Nat.blt y 147 then cX8_top else cX8_read))) else (bif Nat.blt y 150 then (bif Nat.blt y 149 then cX8_both else cX8_hold) else (bif Nat.blt y 151 then cX8_first else (bif Nat.blt y 152 then cX8_see else cX8_forget)))) else (bif Nat.blt y 158 then (bif Nat.blt y 155 then (bif Nat.blt y 154 then cX8_laws else cX8_from) else (bif Nat.blt y 156 then cX8_grazing else (bif Nat.blt y 157 then cX8_year else cX8_onTop))) else (bif Nat.blt y 161 then (bif Nat.blt y 159 then cX8_keep else (bif Nat.blt y 160 then cX8_back else cX8_count)) else (bif Nat.blt y 162 then cJ9_floorMod_7cf53 else (bif Nat.blt y 163 then cJ9_max_7cf53 else cJ9_min_7cf53))))))))
def m_retT (y : Nat) : Option FieldType := (bif Nat.blt y 82 then (bif Nat.blt y 41 then (bif Nat.blt y 20 then (bif Nat.blt y 10 then (bif Nat.blt y 5 then (bif Nat.blt y 2 then (bif Nat.blt y 1 then none else none) else (bif Nat.blt y 3 then (some .boolean) else (bif Nat.blt y 4 then (some .boolean) else (some .boolean)))) else (bif Nat.blt y 7 then (bif Nat.blt y 6 then (some .boolean) else (some .boolean)) else (bif Nat.blt y 8 then (some .boolean) else (bif Nat.blt y 9 then (some .int) else (some .int))))) else (bif Nat.blt y 15 then (bif Nat.blt y 12 then (bif Nat.blt y 11 then (some .int) else (some .int)) else (bif Nat.blt y 13 then none else (bif Nat.blt y 14 then none else none))) else (bif Nat.blt y 17 then (bif Nat.blt y 16 then (some .int) else (some .int)) else (bif Nat.blt y 18 then none else (bif Nat.blt y 19 then none else (some .boolean)))))) else (bif Nat.blt y 30 then (bif Nat.blt y 25 then (bif Nat.blt y 22 then (bif Nat.blt y 21 then (some .int) else (some .int)) else (bif Nat.blt y 23 then (some .int) else (bif Nat.blt y 24 then none else none))) else (bif Nat.blt y 27 then (bif Nat.blt y 26 then none else (some .boolean)) else (bif Nat.blt y 28 then (some .int) else (bif Nat.blt y 29 then (some .int) else none)))) else (bif Nat.blt y 35 then (bif Nat.blt y 32 then (bif Nat.blt y 31 then none else (some .int)) else (bif Nat.blt y 33 then none else (bif Nat.blt y 34 then none else (some .int)))) else (bif Nat.blt y 38 then (bif Nat.blt y 36 then (some .int) else (bif Nat.blt y 37 then none else (some .int))) else (bif Nat.blt y 39 then (some .boolean) else (bif Nat.blt y 40 then (some .boolean) else (some .boolean))))))) else (bif Nat.blt y 61 then (bif Nat.blt y 51 then (bif Nat.blt y 46 then (bif Nat.blt y 43 then (bif Nat.blt y 42 then (some .boolean) else (some .boolean)) else (bif Nat.blt y 44 then (some .boolean) else (bif Nat.blt y 45 then (some .boolean) else (some .int)))) else (bif Nat.blt y 48 then (bif Nat.blt y 47 then (some .boolean) else (some .boolean)) else (bif Nat.blt y 49 then none else (bif Nat.blt y 50 then none else none)))) else (bif Nat.blt y 56 then (bif Nat.blt y 53 then (bif Nat.blt y 52 then none else none) else (bif Nat.blt y 54 then (some .boolean) else (bif Nat.blt y 55 then (some .boolean) else none))) else (bif Nat.blt y 58 then (bif Nat.blt y 57 then (some .boolean) else (some .char)) else (bif Nat.blt y 59 then none else (bif Nat.blt y 60 then (some .int) else (some .int)))))) else (bif Nat.blt y 71 then (bif Nat.blt y 66 then (bif Nat.blt y 63 then (bif Nat.blt y 62 then (some .int) else (some .int)) else (bif Nat.blt y 64 then (some .int) else (bif Nat.blt y 65 then (some .int) else (some .int)))) else (bif Nat.blt y 68 then (bif Nat.blt y 67 then (some .int) else (some .int)) else (bif Nat.blt y 69 then (some .int) else (bif Nat.blt y 70 then (some .int) else (some .int))))) else (bif Nat.blt y 76 then (bif Nat.blt y 73 then (bif Nat.blt y 72 then (some .int) else (some .int)) else (bif Nat.blt y 74 then (some .int) else (bif Nat.blt y 75 then (some .int) else (some .int)))) else (bif Nat.blt y 79 then (bif Nat.blt y 77 then (some .int) else (bif Nat.blt y 78 then (some .int) else (some .int))) else (bif Nat.blt y 80 then (some .int) else (bif Nat.blt y 81 then (some .int) else (some .int)))))))) else (bif Nat.blt y 123 then (bif Nat.blt y 102 then (bif Nat.blt y 92 then (bif Nat.blt y 87 then (bif Nat.blt y 84 then (bif Nat.blt y 83 then (some .int) else (some .int)) else (bif Nat.blt y 85 then (some .int) else (bif Nat.blt y 86 then (some .int) else (some .int)))) else (bif Nat.blt y 89 then (bif Nat.blt y 88 then (some (.object "OracleWheel$Hill")) else (some .boolean)) else (bif Nat.blt y 90 then (some .int) else (bif Nat.blt y 91 then (some .boolean) else (some .int))))) else (bif Nat.blt y 97 then (bif Nat.blt y 94 then (bif Nat.blt y 93 then (some .int) else (some .int)) else (bif Nat.blt y 95 then (some .int) else (bif Nat.blt y 96 then none else none))) else (bif Nat.blt y 99 then (bif Nat.blt y 98 then none else none) else (bif Nat.blt y 100 then none else (bif Nat.blt y 101 then (some .boolean) else (some .boolean)))))) else (bif Nat.blt y 112 then (bif Nat.blt y 107 then (bif Nat.blt y 104 then (bif Nat.blt y 103 then (some .boolean) else (some .boolean)) else (bif Nat.blt y 105 then (some .boolean) else (bif Nat.blt y 106 then (some .int) else (some .int)))) else (bif Nat.blt y 109 then (bif Nat.blt y 108 then (some .int) else (some .boolean)) else (bif Nat.blt y 110 then (some .boolean) else (bif Nat.blt y 111 then (some .boolean) else none)))) else (bif Nat.blt y 117 then (bif Nat.blt y 114 then (bif Nat.blt y 113 then (some .int) else (some .boolean)) else (bif Nat.blt y 115 then (some .boolean) else (bif Nat.blt y 116 then (some .boolean) else (some .boolean)))) else (bif Nat.blt y 120 then (bif Nat.blt y 118 then (some .boolean) else (bif Nat.blt y 119 then (some .boolean) else (some .int))) else (bif Nat.blt y 121 then (some .int) else (bif Nat.blt y 122 then none else none)))))) else (bif Nat.blt y 143 then (bif Nat.blt y 133 then (bif Nat.blt y 128 then (bif Nat.blt y 125 then (bif Nat.blt y 124 then (some .int) else none) else (bif Nat.blt y 126 then (some .int) else (bif Nat.blt y 127 then (some .int) else (some .int)))) else (bif Nat.blt y 130 then (bif Nat.blt y 129 then (some .int) else (some .boolean)) else (bif Nat.blt y 131 then (some .int) else (bif Nat.blt y 132 then none else none)))) else (bif Nat.blt y 138 then (bif Nat.blt y 135 then (bif Nat.blt y 134 then (some .int) else (some .boolean)) else (bif Nat.blt y 136 then (some .int) else (bif Nat.blt y 137 then (some .int) else (some .int)))) else (bif Nat.blt y 140 then (bif Nat.blt y 139 then (some .int) else (some .int)) else (bif Nat.blt y 141 then (some .int) else (bif Nat.blt y 142 then (some .int) else (some .int)))))) else (bif Nat.blt y 153 then (bif Nat.blt y 148 then (bif Nat.blt y 145 then (bif Nat.blt y 144 then none else (some .int)) else (bif Nat.blt y 146 then none else (bif Nat.blt y 147 then (some .int) else (some .int)))) else (bif Nat.blt y 150 then (bif Nat.blt y 149 then (some .int) else (some .int)) else (bif Nat.blt y 151 then (some .int) else (bif Nat.blt y 152 then (some .int) else (some .int))))) else (bif Nat.blt y 158 then (bif Nat.blt y 155 then (bif Nat.blt y 154 then (some .int) else (some .int)) else (bif Nat.blt y 156 then (some .int) else (bif Nat.blt y 157 then (some .int) else (some .int)))) else (bif Nat.blt y 161 then (bif Nat.blt y 159 then (some .int) else (bif Nat.blt y 160 then (some .int) else (some .int))) else (bif Nat.blt y 162 then (some .int) else (bif Nat.blt y 163 then (some .int) else (some .int)))))))))
def m_own (y : Nat) : String := (bif Nat.blt y 82 then (bif Nat.blt y 41 then (bif Nat.blt y 20 then (bif Nat.blt y 10 then (bif Nat.blt y 5 then (bif Nat.blt y 2 then (bif Nat.blt y 1 then RX0 else RX0) else (bif Nat.blt y 3 then RX0 else (bif Nat.blt y 4 then RX0 else RX0))) else (bif Nat.blt y 7 then (bif Nat.blt y 6 then RX0 else RX0) else (bif Nat.blt y 8 then RX0 else (bif Nat.blt y 9 then RX0 else RX0)))) else (bif Nat.blt y 15 then (bif Nat.blt y 12 then (bif Nat.blt y 11 then RX0 else RX0) else (bif Nat.blt y 13 then RX1 else (bif Nat.blt y 14 then RX1 else RX1))) else (bif Nat.blt y 17 then (bif Nat.blt y 16 then RX1 else RX1) else (bif Nat.blt y 18 then RX1 else (bif Nat.blt y 19 then RX1 else RX1))))) else (bif Nat.blt y 30 then (bif Nat.blt y 25 then (bif Nat.blt y 22 then (bif Nat.blt y 21 then RX1 else RX1) else (bif Nat.blt y 23 then RX1 else (bif Nat.blt y 24 then RX1 else RX2))) else (bif Nat.blt y 27 then (bif Nat.blt y 26 then RX2 else RX2) else (bif Nat.blt y 28 then RX2 else (bif Nat.blt y 29 then RX2 else RX2)))) else (bif Nat.blt y 35 then (bif Nat.blt y 32 then (bif Nat.blt y 31 then RX2 else RX2) else (bif Nat.blt y 33 then RX2 else (bif Nat.blt y 34 then RX2 else RX2))) else (bif Nat.blt y 38 then (bif Nat.blt y 36 then RX2 else (bif Nat.blt y 37 then RX3 else RX3)) else (bif Nat.blt y 39 then RX3 else (bif Nat.blt y 40 then RX3 else RX3)))))) else (bif Nat.blt y 61 then (bif Nat.blt y 51 then (bif Nat.blt y 46 then (bif Nat.blt y 43 then (bif Nat.blt y 42 then RX3 else RX3) else (bif Nat.blt y 44 then RX3 else (bif Nat.blt y 45 then RX3 else RX3))) else (bif Nat.blt y 48 then (bif Nat.blt y 47 then RX3 else RX3) else (bif Nat.blt y 49 then RX4 else (bif Nat.blt y 50 then RX4 else RX4)))) else (bif Nat.blt y 56 then (bif Nat.blt y 53 then (bif Nat.blt y 52 then RX4 else RX5) else (bif Nat.blt y 54 then RX5 else (bif Nat.blt y 55 then RX5 else RX6))) else (bif Nat.blt y 58 then (bif Nat.blt y 57 then RX6 else RX6) else (bif Nat.blt y 59 then RX7 else (bif Nat.blt y 60 then RX7 else RX7))))) else (bif Nat.blt y 71 then (bif Nat.blt y 66 then (bif Nat.blt y 63 then (bif Nat.blt y 62 then RX7 else RX7) else (bif Nat.blt y 64 then RX7 else (bif Nat.blt y 65 then RX7 else RX7))) else (bif Nat.blt y 68 then (bif Nat.blt y 67 then RX7 else RX7) else (bif Nat.blt y 69 then RX7 else (bif Nat.blt y 70 then RX7 else RX7)))) else (bif Nat.blt y 76 then (bif Nat.blt y 73 then (bif Nat.blt y 72 then RX7 else RX7) else (bif Nat.blt y 74 then RX7 else (bif Nat.blt y 75 then RX7 else RX7))) else (bif Nat.blt y 79 then (bif Nat.blt y 77 then RX7 else (bif Nat.blt y 78 then RX7 else RX7)) else (bif Nat.blt y 80 then RX7 else (bif Nat.blt y 81 then RX7 else RX7))))))) else (bif Nat.blt y 123 then (bif Nat.blt y 102 then (bif Nat.blt y 92 then (bif Nat.blt y 87 then (bif Nat.blt y 84 then (bif Nat.blt y 83 then RX7 else RX7) else (bif Nat.blt y 85 then RX7 else (bif Nat.blt y 86 then RX7 else RX7))) else (bif Nat.blt y 89 then (bif Nat.blt y 88 then RX7 else RX7) else (bif Nat.blt y 90 then RX7 else (bif Nat.blt y 91 then RX7 else RX7)))) else (bif Nat.blt y 97 then (bif Nat.blt y 94 then (bif Nat.blt y 93 then RX7 else RX7) else (bif Nat.blt y 95 then RX7 else (bif Nat.blt y 96 then RX7 else RX8))) else (bif Nat.blt y 99 then (bif Nat.blt y 98 then RX8 else RX8) else (bif Nat.blt y 100 then RX8 else (bif Nat.blt y 101 then RX8 else RX8))))) else (bif Nat.blt y 112 then (bif Nat.blt y 107 then (bif Nat.blt y 104 then (bif Nat.blt y 103 then RX8 else RX8) else (bif Nat.blt y 105 then RX8 else (bif Nat.blt y 106 then RX8 else RX8))) else (bif Nat.blt y 109 then (bif Nat.blt y 108 then RX8 else RX8) else (bif Nat.blt y 110 then RX8 else (bif Nat.blt y 111 then RX8 else RX8)))) else (bif Nat.blt y 117 then (bif Nat.blt y 114 then (bif Nat.blt y 113 then RX8 else RX8) else (bif Nat.blt y 115 then RX8 else (bif Nat.blt y 116 then RX8 else RX8))) else (bif Nat.blt y 120 then (bif Nat.blt y 118 then RX8 else (bif Nat.blt y 119 then RX8 else RX8)) else (bif Nat.blt y 121 then RX8 else (bif Nat.blt y 122 then RX8 else RX8)))))) else (bif Nat.blt y 143 then (bif Nat.blt y 133 then (bif Nat.blt y 128 then (bif Nat.blt y 125 then (bif Nat.blt y 124 then RX8 else RX8) else (bif Nat.blt y 126 then RX8 else (bif Nat.blt y 127 then RX8 else RX8))) else (bif Nat.blt y 130 then (bif Nat.blt y 129 then RX8 else RX8) else (bif Nat.blt y 131 then RX8 else (bif Nat.blt y 132 then RX8 else RX8)))) else (bif Nat.blt y 138 then (bif Nat.blt y 135 then (bif Nat.blt y 134 then RX8 else RX8) else (bif Nat.blt y 136 then RX8 else (bif Nat.blt y 137 then RX8 else RX8))) else (bif Nat.blt y 140 then (bif Nat.blt y 139 then RX8 else RX8) else (bif Nat.blt y 141 then RX8 else (bif Nat.blt y 142 then RX8 else RX8))))) else (bif Nat.blt y 153 then (bif Nat.blt y 148 then (bif Nat.blt y 145 then (bif Nat.blt y 144 then RX8 else RX8) else (bif Nat.blt y 146 then RX8 else (bif Nat.blt y 147 then RX8 else RX8))) else (bif Nat.blt y 150 then (bif Nat.blt y 149 then RX8 else RX8) else (bif Nat.blt y 151 then RX8 else (bif Nat.blt y 152 then RX8 else RX8)))) else (bif Nat.blt y 158 then (bif Nat.blt y 155 then (bif Nat.blt y 154 then RX8 else RX8) else (bif Nat.blt y 156 then RX8 else (bif Nat.blt y 157 then RX8 else RX8))) else (bif Nat.blt y 161 then (bif Nat.blt y 159 then RX8 else (bif Nat.blt y 160 then RX8 else RX8)) else (bif Nat.blt y 162 then RJ9 else (bif Nat.blt y 163 then RJ9 else RJ9))))))))
def m_frm (y : Nat) : Nat := (bif Nat.blt y 82 then (bif Nat.blt y 41 then (bif Nat.blt y 20 then (bif Nat.blt y 10 then (bif Nat.blt y 5 then (bif Nat.blt y 2 then (bif Nat.blt y 1 then 1 else 1) else (bif Nat.blt y 3 then 0 else (bif Nat.blt y 4 then 0 else 0))) else (bif Nat.blt y 7 then (bif Nat.blt y 6 then 0 else 0) else (bif Nat.blt y 8 then 0 else (bif Nat.blt y 9 then 0 else 1)))) else (bif Nat.blt y 15 then (bif Nat.blt y 12 then (bif Nat.blt y 11 then 1 else 1) else (bif Nat.blt y 13 then 1 else (bif Nat.blt y 14 then 0 else 0))) else (bif Nat.blt y 17 then (bif Nat.blt y 16 then 1 else 2) else (bif Nat.blt y 18 then 2 else (bif Nat.blt y 19 then 2 else 0))))) else (bif Nat.blt y 30 then (bif Nat.blt y 25 then (bif Nat.blt y 22 then (bif Nat.blt y 21 then 1 else 3) else (bif Nat.blt y 23 then 3 else (bif Nat.blt y 24 then 4 else 1))) else (bif Nat.blt y 27 then (bif Nat.blt y 26 then 3 else 1) else (bif Nat.blt y 28 then 0 else (bif Nat.blt y 29 then 1 else 4)))) else (bif Nat.blt y 35 then (bif Nat.blt y 32 then (bif Nat.blt y 31 then 0 else 0) else (bif Nat.blt y 33 then 3 else (bif Nat.blt y 34 then 2 else 1))) else (bif Nat.blt y 38 then (bif Nat.blt y 36 then 2 else (bif Nat.blt y 37 then 1 else 7)) else (bif Nat.blt y 39 then 6 else (bif Nat.blt y 40 then 5 else 3)))))) else (bif Nat.blt y 61 then (bif Nat.blt y 51 then (bif Nat.blt y 46 then (bif Nat.blt y 43 then (bif Nat.blt y 42 then 3 else 3) else (bif Nat.blt y 44 then 3 else (bif Nat.blt y 45 then 2 else 1))) else (bif Nat.blt y 48 then (bif Nat.blt y 47 then 1 else 1) else (bif Nat.blt y 49 then 2 else (bif Nat.blt y 50 then 0 else 1)))) else (bif Nat.blt y 56 then (bif Nat.blt y 53 then (bif Nat.blt y 52 then 1 else 1) else (bif Nat.blt y 54 then 0 else (bif Nat.blt y 55 then 2 else 1))) else (bif Nat.blt y 58 then (bif Nat.blt y 57 then 0 else 0) else (bif Nat.blt y 59 then 9 else (bif Nat.blt y 60 then 1 else 0))))) else (bif Nat.blt y 71 then (bif Nat.blt y 66 then (bif Nat.blt y 63 then (bif Nat.blt y 62 then 8 else 8) else (bif Nat.blt y 64 then 1 else (bif Nat.blt y 65 then 3 else 3))) else (bif Nat.blt y 68 then (bif Nat.blt y 67 then 3 else 5) else (bif Nat.blt y 69 then 3 else (bif Nat.blt y 70 then 3 else 2)))) else (bif Nat.blt y 76 then (bif Nat.blt y 73 then (bif Nat.blt y 72 then 3 else 4) else (bif Nat.blt y 74 then 6 else (bif Nat.blt y 75 then 6 else 6))) else (bif Nat.blt y 79 then (bif Nat.blt y 77 then 7 else (bif Nat.blt y 78 then 5 else 1)) else (bif Nat.blt y 80 then 0 else (bif Nat.blt y 81 then 3 else 5))))))) else (bif Nat.blt y 123 then (bif Nat.blt y 102 then (bif Nat.blt y 92 then (bif Nat.blt y 87 then (bif Nat.blt y 84 then (bif Nat.blt y 83 then 2 else 6) else (bif Nat.blt y 85 then 2 else (bif Nat.blt y 86 then 2 else 2))) else (bif Nat.blt y 89 then (bif Nat.blt y 88 then 8 else 0) else (bif Nat.blt y 90 then 5 else (bif Nat.blt y 91 then 6 else 0)))) else (bif Nat.blt y 97 then (bif Nat.blt y 94 then (bif Nat.blt y 93 then 0 else 0) else (bif Nat.blt y 95 then 0 else (bif Nat.blt y 96 then 5 else 2))) else (bif Nat.blt y 99 then (bif Nat.blt y 98 then 0 else 0) else (bif Nat.blt y 100 then 0 else (bif Nat.blt y 101 then 0 else 0))))) else (bif Nat.blt y 112 then (bif Nat.blt y 107 then (bif Nat.blt y 104 then (bif Nat.blt y 103 then 1 else 1) else (bif Nat.blt y 105 then 1 else (bif Nat.blt y 106 then 1 else 0))) else (bif Nat.blt y 109 then (bif Nat.blt y 108 then 0 else 1) else (bif Nat.blt y 110 then 2 else (bif Nat.blt y 111 then 1 else 0)))) else (bif Nat.blt y 117 then (bif Nat.blt y 114 then (bif Nat.blt y 113 then 0 else 1) else (bif Nat.blt y 115 then 3 else (bif Nat.blt y 116 then 3 else 3))) else (bif Nat.blt y 120 then (bif Nat.blt y 118 then 3 else (bif Nat.blt y 119 then 4 else 5)) else (bif Nat.blt y 121 then 6 else (bif Nat.blt y 122 then 0 else 1)))))) else (bif Nat.blt y 143 then (bif Nat.blt y 133 then (bif Nat.blt y 128 then (bif Nat.blt y 125 then (bif Nat.blt y 124 then 0 else 1) else (bif Nat.blt y 126 then 0 else (bif Nat.blt y 127 then 1 else 0))) else (bif Nat.blt y 130 then (bif Nat.blt y 129 then 2 else 0) else (bif Nat.blt y 131 then 2 else (bif Nat.blt y 132 then 1 else 1)))) else (bif Nat.blt y 138 then (bif Nat.blt y 135 then (bif Nat.blt y 134 then 2 else 0) else (bif Nat.blt y 136 then 0 else (bif Nat.blt y 137 then 2 else 3))) else (bif Nat.blt y 140 then (bif Nat.blt y 139 then 2 else 2) else (bif Nat.blt y 141 then 1 else (bif Nat.blt y 142 then 2 else 2))))) else (bif Nat.blt y 153 then (bif Nat.blt y 148 then (bif Nat.blt y 145 then (bif Nat.blt y 144 then 2 else 1) else (bif Nat.blt y 146 then 3 else (bif Nat.blt y 147 then 4 else 4))) else (bif Nat.blt y 150 then (bif Nat.blt y 149 then 4 else 4) else (bif Nat.blt y 151 then 4 else (bif Nat.blt y 152 then 2 else 0)))) else (bif Nat.blt y 158 then (bif Nat.blt y 155 then (bif Nat.blt y 154 then 2 else 3) else (bif Nat.blt y 156 then 2 else (bif Nat.blt y 157 then 3 else 1))) else (bif Nat.blt y 161 then (bif Nat.blt y 159 then 1 else (bif Nat.blt y 160 then 1 else 2)) else (bif Nat.blt y 162 then 0 else (bif Nat.blt y 163 then 0 else 0))))))))
def m_loc (y : Nat) : Nat := (bif Nat.blt y 82 then (bif Nat.blt y 41 then (bif Nat.blt y 20 then (bif Nat.blt y 10 then (bif Nat.blt y 5 then (bif Nat.blt y 2 then (bif Nat.blt y 1 then 20 else 21) else (bif Nat.blt y 3 then 0 else (bif Nat.blt y 4 then 0 else 0))) else (bif Nat.blt y 7 then (bif Nat.blt y 6 then 0 else 0) else (bif Nat.blt y 8 then 0 else (bif Nat.blt y 9 then 0 else 22)))) else (bif Nat.blt y 15 then (bif Nat.blt y 12 then (bif Nat.blt y 11 then 21 else 21) else (bif Nat.blt y 13 then 20 else (bif Nat.blt y 14 then 0 else 0))) else (bif Nat.blt y 17 then (bif Nat.blt y 16 then 22 else 49) else (bif Nat.blt y 18 then 49 else (bif Nat.blt y 19 then 43 else 0))))) else (bif Nat.blt y 30 then (bif Nat.blt y 25 then (bif Nat.blt y 22 then (bif Nat.blt y 21 then 21 else 71) else (bif Nat.blt y 23 then 71 else (bif Nat.blt y 24 then 94 else 20))) else (bif Nat.blt y 27 then (bif Nat.blt y 26 then 71 else 21) else (bif Nat.blt y 28 then 0 else (bif Nat.blt y 29 then 21 else 95)))) else (bif Nat.blt y 35 then (bif Nat.blt y 32 then (bif Nat.blt y 31 then 0 else 0) else (bif Nat.blt y 33 then 72 else (bif Nat.blt y 34 then 44 else 22))) else (bif Nat.blt y 38 then (bif Nat.blt y 36 then 43 else (bif Nat.blt y 37 then 20 else 185)) else (bif Nat.blt y 39 then 163 else (bif Nat.blt y 40 then 140 else 64)))))) else (bif Nat.blt y 61 then (bif Nat.blt y 51 then (bif Nat.blt y 46 then (bif Nat.blt y 43 then (bif Nat.blt y 42 then 64 else 64) else (bif Nat.blt y 44 then 64 else (bif Nat.blt y 45 then 42 else 21))) else (bif Nat.blt y 48 then (bif Nat.blt y 47 then 21 else 21) else (bif Nat.blt y 49 then 40 else (bif Nat.blt y 50 then 0 else 22)))) else (bif Nat.blt y 56 then (bif Nat.blt y 53 then (bif Nat.blt y 52 then 22 else 20) else (bif Nat.blt y 54 then 0 else (bif Nat.blt y 55 then 49 else 20))) else (bif Nat.blt y 58 then (bif Nat.blt y 57 then 0 else 0) else (bif Nat.blt y 59 then 230 else (bif Nat.blt y 60 then 21 else 0))))) else (bif Nat.blt y 71 then (bif Nat.blt y 66 then (bif Nat.blt y 63 then (bif Nat.blt y 62 then 209 else 209) else (bif Nat.blt y 64 then 21 else (bif Nat.blt y 65 then 71 else 71))) else (bif Nat.blt y 68 then (bif Nat.blt y 67 then 72 else 118) else (bif Nat.blt y 69 then 71 else (bif Nat.blt y 70 then 71 else 44)))) else (bif Nat.blt y 76 then (bif Nat.blt y 73 then (bif Nat.blt y 72 then 71 else 95) else (bif Nat.blt y 74 then 140 else (bif Nat.blt y 75 then 140 else 140))) else (bif Nat.blt y 79 then (bif Nat.blt y 77 then 163 else (bif Nat.blt y 78 then 118 else 22)) else (bif Nat.blt y 80 then 0 else (bif Nat.blt y 81 then 74 else 118))))))) else (bif Nat.blt y 123 then (bif Nat.blt y 102 then (bif Nat.blt y 92 then (bif Nat.blt y 87 then (bif Nat.blt y 84 then (bif Nat.blt y 83 then 49 else 139) else (bif Nat.blt y 85 then 43 else (bif Nat.blt y 86 then 44 else 44))) else (bif Nat.blt y 89 then (bif Nat.blt y 88 then 209 else 0) else (bif Nat.blt y 90 then 118 else (bif Nat.blt y 91 then 140 else 0)))) else (bif Nat.blt y 97 then (bif Nat.blt y 94 then (bif Nat.blt y 93 then 0 else 0) else (bif Nat.blt y 95 then 0 else (bif Nat.blt y 96 then 118 else 46))) else (bif Nat.blt y 99 then (bif Nat.blt y 98 then 0 else 0) else (bif Nat.blt y 100 then 0 else (bif Nat.blt y 101 then 0 else 0))))) else (bif Nat.blt y 112 then (bif Nat.blt y 107 then (bif Nat.blt y 104 then (bif Nat.blt y 103 then 22 else 22) else (bif Nat.blt y 105 then 22 else (bif Nat.blt y 106 then 22 else 0))) else (bif Nat.blt y 109 then (bif Nat.blt y 108 then 0 else 22) else (bif Nat.blt y 110 then 42 else (bif Nat.blt y 111 then 22 else 0)))) else (bif Nat.blt y 117 then (bif Nat.blt y 114 then (bif Nat.blt y 113 then 0 else 21) else (bif Nat.blt y 115 then 64 else (bif Nat.blt y 116 then 64 else 64))) else (bif Nat.blt y 120 then (bif Nat.blt y 118 then 64 else (bif Nat.blt y 119 then 85 else 106)) else (bif Nat.blt y 121 then 127 else (bif Nat.blt y 122 then 0 else 25)))))) else (bif Nat.blt y 143 then (bif Nat.blt y 133 then (bif Nat.blt y 128 then (bif Nat.blt y 125 then (bif Nat.blt y 124 then 0 else 24) else (bif Nat.blt y 126 then 0 else (bif Nat.blt y 127 then 21 else 0))) else (bif Nat.blt y 130 then (bif Nat.blt y 129 then 49 else 0) else (bif Nat.blt y 131 then 43 else (bif Nat.blt y 132 then 25 else 24)))) else (bif Nat.blt y 138 then (bif Nat.blt y 135 then (bif Nat.blt y 134 then 46 else 0) else (bif Nat.blt y 136 then 0 else (bif Nat.blt y 137 then 45 else 68))) else (bif Nat.blt y 140 then (bif Nat.blt y 139 then 46 else 46) else (bif Nat.blt y 141 then 25 else (bif Nat.blt y 142 then 49 else 49))))) else (bif Nat.blt y 153 then (bif Nat.blt y 148 then (bif Nat.blt y 145 then (bif Nat.blt y 144 then 45 else 21) else (bif Nat.blt y 146 then 71 else (bif Nat.blt y 147 then 93 else 93))) else (bif Nat.blt y 150 then (bif Nat.blt y 149 then 93 else 93) else (bif Nat.blt y 151 then 93 else (bif Nat.blt y 152 then 42 else 0)))) else (bif Nat.blt y 158 then (bif Nat.blt y 155 then (bif Nat.blt y 154 then 49 else 71) else (bif Nat.blt y 156 then 49 else (bif Nat.blt y 157 then 68 else 21))) else (bif Nat.blt y 161 then (bif Nat.blt y 159 then 25 else (bif Nat.blt y 160 then 25 else 43)) else (bif Nat.blt y 162 then 0 else (bif Nat.blt y 163 then 0 else 0))))))))
def m_stat (y : Nat) : Bool := (bif Nat.blt y 82 then (bif Nat.blt y 41 then (bif Nat.blt y 20 then (bif Nat.blt y 10 then (bif Nat.blt y 5 then (bif Nat.blt y 2 then (bif Nat.blt y 1 then false else false) else (bif Nat.blt y 3 then false else (bif Nat.blt y 4 then false else false))) else (bif Nat.blt y 7 then (bif Nat.blt y 6 then false else false) else (bif Nat.blt y 8 then false else (bif Nat.blt y 9 then false else false)))) else (bif Nat.blt y 15 then (bif Nat.blt y 12 then (bif Nat.blt y 11 then false else false) else (bif Nat.blt y 13 then false else (bif Nat.blt y 14 then false else false))) else (bif Nat.blt y 17 then (bif Nat.blt y 16 then false else false) else (bif Nat.blt y 18 then false else (bif Nat.blt y 19 then false else false))))) else (bif Nat.blt y 30 then (bif Nat.blt y 25 then (bif Nat.blt y 22 then (bif Nat.blt y 21 then false else false) else (bif Nat.blt y 23 then false else (bif Nat.blt y 24 then false else false))) else (bif Nat.blt y 27 then (bif Nat.blt y 26 then false else false) else (bif Nat.blt y 28 then false else (bif Nat.blt y 29 then false else false)))) else (bif Nat.blt y 35 then (bif Nat.blt y 32 then (bif Nat.blt y 31 then false else false) else (bif Nat.blt y 33 then false else (bif Nat.blt y 34 then false else false))) else (bif Nat.blt y 38 then (bif Nat.blt y 36 then false else (bif Nat.blt y 37 then false else false)) else (bif Nat.blt y 39 then false else (bif Nat.blt y 40 then false else false)))))) else (bif Nat.blt y 61 then (bif Nat.blt y 51 then (bif Nat.blt y 46 then (bif Nat.blt y 43 then (bif Nat.blt y 42 then false else false) else (bif Nat.blt y 44 then false else (bif Nat.blt y 45 then false else false))) else (bif Nat.blt y 48 then (bif Nat.blt y 47 then false else false) else (bif Nat.blt y 49 then false else (bif Nat.blt y 50 then false else false)))) else (bif Nat.blt y 56 then (bif Nat.blt y 53 then (bif Nat.blt y 52 then false else false) else (bif Nat.blt y 54 then false else (bif Nat.blt y 55 then false else false))) else (bif Nat.blt y 58 then (bif Nat.blt y 57 then false else false) else (bif Nat.blt y 59 then false else (bif Nat.blt y 60 then false else false))))) else (bif Nat.blt y 71 then (bif Nat.blt y 66 then (bif Nat.blt y 63 then (bif Nat.blt y 62 then false else false) else (bif Nat.blt y 64 then false else (bif Nat.blt y 65 then false else false))) else (bif Nat.blt y 68 then (bif Nat.blt y 67 then false else false) else (bif Nat.blt y 69 then false else (bif Nat.blt y 70 then false else false)))) else (bif Nat.blt y 76 then (bif Nat.blt y 73 then (bif Nat.blt y 72 then false else false) else (bif Nat.blt y 74 then false else (bif Nat.blt y 75 then false else false))) else (bif Nat.blt y 79 then (bif Nat.blt y 77 then false else (bif Nat.blt y 78 then false else false)) else (bif Nat.blt y 80 then false else (bif Nat.blt y 81 then false else false))))))) else (bif Nat.blt y 123 then (bif Nat.blt y 102 then (bif Nat.blt y 92 then (bif Nat.blt y 87 then (bif Nat.blt y 84 then (bif Nat.blt y 83 then false else false) else (bif Nat.blt y 85 then false else (bif Nat.blt y 86 then false else false))) else (bif Nat.blt y 89 then (bif Nat.blt y 88 then true else true) else (bif Nat.blt y 90 then false else (bif Nat.blt y 91 then false else true)))) else (bif Nat.blt y 97 then (bif Nat.blt y 94 then (bif Nat.blt y 93 then false else true) else (bif Nat.blt y 95 then true else (bif Nat.blt y 96 then false else false))) else (bif Nat.blt y 99 then (bif Nat.blt y 98 then false else false) else (bif Nat.blt y 100 then false else (bif Nat.blt y 101 then true else true))))) else (bif Nat.blt y 112 then (bif Nat.blt y 107 then (bif Nat.blt y 104 then (bif Nat.blt y 103 then false else false) else (bif Nat.blt y 105 then true else (bif Nat.blt y 106 then false else false))) else (bif Nat.blt y 109 then (bif Nat.blt y 108 then false else true) else (bif Nat.blt y 110 then false else (bif Nat.blt y 111 then false else false)))) else (bif Nat.blt y 117 then (bif Nat.blt y 114 then (bif Nat.blt y 113 then true else false) else (bif Nat.blt y 115 then false else (bif Nat.blt y 116 then false else false))) else (bif Nat.blt y 120 then (bif Nat.blt y 118 then false else (bif Nat.blt y 119 then false else false)) else (bif Nat.blt y 121 then false else (bif Nat.blt y 122 then true else false)))))) else (bif Nat.blt y 143 then (bif Nat.blt y 133 then (bif Nat.blt y 128 then (bif Nat.blt y 125 then (bif Nat.blt y 124 then false else false) else (bif Nat.blt y 126 then false else (bif Nat.blt y 127 then false else false))) else (bif Nat.blt y 130 then (bif Nat.blt y 129 then false else false) else (bif Nat.blt y 131 then false else (bif Nat.blt y 132 then false else false)))) else (bif Nat.blt y 138 then (bif Nat.blt y 135 then (bif Nat.blt y 134 then false else false) else (bif Nat.blt y 136 then false else (bif Nat.blt y 137 then false else false))) else (bif Nat.blt y 140 then (bif Nat.blt y 139 then false else false) else (bif Nat.blt y 141 then false else (bif Nat.blt y 142 then false else false))))) else (bif Nat.blt y 153 then (bif Nat.blt y 148 then (bif Nat.blt y 145 then (bif Nat.blt y 144 then false else false) else (bif Nat.blt y 146 then false else (bif Nat.blt y 147 then false else false))) else (bif Nat.blt y 150 then (bif Nat.blt y 149 then false else false) else (bif Nat.blt y 151 then false else (bif Nat.blt y 152 then false else false)))) else (bif Nat.blt y 158 then (bif Nat.blt y 155 then (bif Nat.blt y 154 then false else false) else (bif Nat.blt y 156 then false else (bif Nat.blt y 157 then false else false))) else (bif Nat.blt y 161 then (bif Nat.blt y 159 then false else (bif Nat.blt y 160 then false else false)) else (bif Nat.blt y 162 then true else (bif Nat.blt y 163 then true else true))))))))
def m_C (c : Nat) : vw_C := (bif Nat.blt c 4 then (bif Nat.blt c 2 then (bif Nat.blt c 1 then (RX0, TX0, 14) else (RX1, TX1, 6)) else (bif Nat.blt c 3 then (RX2, TX2, 2) else (RX3, TX3, 3))) else (bif Nat.blt c 6 then (bif Nat.blt c 5 then (RX4, TX4, 3) else (RX5, TX5, 3)) else (bif Nat.blt c 7 then (RX6, TX6, 2) else (bif Nat.blt c 8 then (RX7, TX7, 11) else (RX8, TX8, 36)))))
def m_ty (c : Nat) : Nat → FieldType := (bif Nat.blt c 4 then (bif Nat.blt c 2 then (bif Nat.blt c 1 then tyX0 else tyX1) else (bif Nat.blt c 3 then tyX2 else tyX3)) else (bif Nat.blt c 6 then (bif Nat.blt c 5 then tyX4 else tyX5) else (bif Nat.blt c 7 then tyX6 else (bif Nat.blt c 8 then tyX7 else tyX8))))
def m_pCode (y : Nat) : Nat := (bif Nat.blt y 82 then (bif Nat.blt y 41 then (bif Nat.blt y 20 then (bif Nat.blt y 10 then (bif Nat.blt y 5 then (bif Nat.blt y 2 then (bif Nat.blt y 1 then 134 else 230) else (bif Nat.blt y 3 then 234 else (bif Nat.blt y 4 then 343 else 354))) else (bif Nat.blt y 7 then (bif Nat.blt y 6 then 339 else 509) else (bif Nat.blt y 8 then 535 else (bif Nat.blt y 9 then 501 else 593)))) else (bif Nat.blt y 15 then (bif Nat.blt y 12 then (bif Nat.blt y 11 then 570 else 526) else (bif Nat.blt y 13 then 359 else (bif Nat.blt y 14 then 439 else 551))) else (bif Nat.blt y 17 then (bif Nat.blt y 16 then 517 else 513) else (bif Nat.blt y 18 then 556 else (bif Nat.blt y 19 then 589 else 539))))) else (bif Nat.blt y 30 then (bif Nat.blt y 25 then (bif Nat.blt y 22 then (bif Nat.blt y 21 then 757 else 752) else (bif Nat.blt y 23 then 565 else (bif Nat.blt y 24 then 576 else 427))) else (bif Nat.blt y 27 then (bif Nat.blt y 26 then 614 else 619) else (bif Nat.blt y 28 then 623 else (bif Nat.blt y 29 then 672 else 635)))) else (bif Nat.blt y 35 then (bif Nat.blt y 32 then (bif Nat.blt y 31 then 640 else 648) else (bif Nat.blt y 33 then 644 else (bif Nat.blt y 34 then 653 else 663))) else (bif Nat.blt y 38 then (bif Nat.blt y 36 then 659 else (bif Nat.blt y 37 then 211 else 226)) else (bif Nat.blt y 39 then 242 else (bif Nat.blt y 40 then 246 else 311)))))) else (bif Nat.blt y 61 then (bif Nat.blt y 51 then (bif Nat.blt y 46 then (bif Nat.blt y 43 then (bif Nat.blt y 42 then 331 else 335) else (bif Nat.blt y 44 then 347 else (bif Nat.blt y 45 then 315 else 327))) else (bif Nat.blt y 48 then (bif Nat.blt y 47 then 319 else 323) else (bif Nat.blt y 49 then 389 else (bif Nat.blt y 50 then 493 else 547)))) else (bif Nat.blt y 56 then (bif Nat.blt y 53 then (bif Nat.blt y 52 then 602 else 410) else (bif Nat.blt y 54 then 703 else (bif Nat.blt y 55 then 715 else 65))) else (bif Nat.blt y 58 then (bif Nat.blt y 57 then 129 else 238) else (bif Nat.blt y 59 then 54 else (bif Nat.blt y 60 then 477 else 481))))) else (bif Nat.blt y 71 then (bif Nat.blt y 66 then (bif Nat.blt y 63 then (bif Nat.blt y 62 then 485 else 489) else (bif Nat.blt y 64 then 497 else (bif Nat.blt y 65 then 505 else 531))) else (bif Nat.blt y 68 then (bif Nat.blt y 67 then 543 else 561) else (bif Nat.blt y 69 then 581 else (bif Nat.blt y 70 then 585 else 598)))) else (bif Nat.blt y 76 then (bif Nat.blt y 73 then (bif Nat.blt y 72 then 606 else 610) else (bif Nat.blt y 74 then 627 else (bif Nat.blt y 75 then 667 else 676))) else (bif Nat.blt y 79 then (bif Nat.blt y 77 then 681 else (bif Nat.blt y 78 then 690 else 699)) else (bif Nat.blt y 80 then 707 else (bif Nat.blt y 81 then 711 else 721))))))) else (bif Nat.blt y 123 then (bif Nat.blt y 102 then (bif Nat.blt y 92 then (bif Nat.blt y 87 then (bif Nat.blt y 84 then (bif Nat.blt y 83 then 725 else 738) else (bif Nat.blt y 85 then 761 else (bif Nat.blt y 86 then 765 else 769))) else (bif Nat.blt y 89 then (bif Nat.blt y 88 then 60 else 350) else (bif Nat.blt y 90 then 631 else (bif Nat.blt y 91 then 685 else 695)))) else (bif Nat.blt y 97 then (bif Nat.blt y 94 then (bif Nat.blt y 93 then 729 else 734) else (bif Nat.blt y 95 then 741 else (bif Nat.blt y 96 then 748 else 774))) else (bif Nat.blt y 99 then (bif Nat.blt y 98 then 783 else 787) else (bif Nat.blt y 100 then 791 else (bif Nat.blt y 101 then 914 else 1072))))) else (bif Nat.blt y 112 then (bif Nat.blt y 107 then (bif Nat.blt y 104 then (bif Nat.blt y 103 then 981 else 1005) else (bif Nat.blt y 105 then 1083 else (bif Nat.blt y 106 then 911 else 918))) else (bif Nat.blt y 109 then (bif Nat.blt y 108 then 930 else 948) else (bif Nat.blt y 110 then 945 else (bif Nat.blt y 111 then 952 else 779)))) else (bif Nat.blt y 117 then (bif Nat.blt y 114 then (bif Nat.blt y 113 then 937 else 934) else (bif Nat.blt y 115 then 941 else (bif Nat.blt y 116 then 956 else 960))) else (bif Nat.blt y 120 then (bif Nat.blt y 118 then 964 else (bif Nat.blt y 119 then 926 else 922)) else (bif Nat.blt y 121 then 968 else (bif Nat.blt y 122 then 798 else 795)))))) else (bif Nat.blt y 143 then (bif Nat.blt y 133 then (bif Nat.blt y 128 then (bif Nat.blt y 125 then (bif Nat.blt y 124 then 989 else 985) else (bif Nat.blt y 126 then 997 else (bif Nat.blt y 127 then 993 else 973))) else (bif Nat.blt y 130 then (bif Nat.blt y 129 then 977 else 1009) else (bif Nat.blt y 131 then 1001 else (bif Nat.blt y 132 then 1017 else 1021)))) else (bif Nat.blt y 138 then (bif Nat.blt y 135 then (bif Nat.blt y 134 then 1013 else 1029) else (bif Nat.blt y 136 then 1037 else (bif Nat.blt y 137 then 1033 else 1025))) else (bif Nat.blt y 140 then (bif Nat.blt y 139 then 1041 else 1045) else (bif Nat.blt y 141 then 1049 else (bif Nat.blt y 142 then 1053 else 1057))))) else (bif Nat.blt y 153 then (bif Nat.blt y 148 then (bif Nat.blt y 145 then (bif Nat.blt y 144 then 1069 else 1076) else (bif Nat.blt y 146 then 1065 else (bif Nat.blt y 147 then 1061 else 1080))) else (bif Nat.blt y 150 then (bif Nat.blt y 149 then 1087 else 1091) else (bif Nat.blt y 151 then 1095 else (bif Nat.blt y 152 then 1099 else 1103)))) else (bif Nat.blt y 158 then (bif Nat.blt y 155 then (bif Nat.blt y 154 then 1107 else 1111) else (bif Nat.blt y 156 then 1115 else (bif Nat.blt y 157 then 1119 else 1126))) else (bif Nat.blt y 161 then (bif Nat.blt y 159 then 1130 else (bif Nat.blt y 160 then 1134 else 1138)) else (bif Nat.blt y 162 then 521 else (bif Nat.blt y 163 then 265 else 268))))))))
def m_pInst (y : Nat) : Nat := (bif Nat.blt y 82 then (bif Nat.blt y 41 then (bif Nat.blt y 20 then (bif Nat.blt y 10 then (bif Nat.blt y 5 then (bif Nat.blt y 2 then (bif Nat.blt y 1 then 133 else 228) else (bif Nat.blt y 3 then 232 else (bif Nat.blt y 4 then 341 else 352))) else (bif Nat.blt y 7 then (bif Nat.blt y 6 then 337 else 507) else (bif Nat.blt y 8 then 533 else (bif Nat.blt y 9 then 499 else 591)))) else (bif Nat.blt y 15 then (bif Nat.blt y 12 then (bif Nat.blt y 11 then 568 else 524) else (bif Nat.blt y 13 then 358 else (bif Nat.blt y 14 then 437 else 549))) else (bif Nat.blt y 17 then (bif Nat.blt y 16 then 515 else 511) else (bif Nat.blt y 18 then 554 else (bif Nat.blt y 19 then 587 else 537))))) else (bif Nat.blt y 30 then (bif Nat.blt y 25 then (bif Nat.blt y 22 then (bif Nat.blt y 21 then 755 else 750) else (bif Nat.blt y 23 then 563 else (bif Nat.blt y 24 then 574 else 426))) else (bif Nat.blt y 27 then (bif Nat.blt y 26 then 612 else 617) else (bif Nat.blt y 28 then 621 else (bif Nat.blt y 29 then 670 else 633)))) else (bif Nat.blt y 35 then (bif Nat.blt y 32 then (bif Nat.blt y 31 then 638 else 646) else (bif Nat.blt y 33 then 642 else (bif Nat.blt y 34 then 651 else 661))) else (bif Nat.blt y 38 then (bif Nat.blt y 36 then 657 else (bif Nat.blt y 37 then 210 else 224)) else (bif Nat.blt y 39 then 240 else (bif Nat.blt y 40 then 244 else 309)))))) else (bif Nat.blt y 61 then (bif Nat.blt y 51 then (bif Nat.blt y 46 then (bif Nat.blt y 43 then (bif Nat.blt y 42 then 329 else 333) else (bif Nat.blt y 44 then 345 else (bif Nat.blt y 45 then 313 else 325))) else (bif Nat.blt y 48 then (bif Nat.blt y 47 then 317 else 321) else (bif Nat.blt y 49 then 388 else (bif Nat.blt y 50 then 491 else 545)))) else (bif Nat.blt y 56 then (bif Nat.blt y 53 then (bif Nat.blt y 52 then 600 else 409) else (bif Nat.blt y 54 then 701 else (bif Nat.blt y 55 then 713 else 64))) else (bif Nat.blt y 58 then (bif Nat.blt y 57 then 127 else 236) else (bif Nat.blt y 59 then 53 else (bif Nat.blt y 60 then 475 else 479))))) else (bif Nat.blt y 71 then (bif Nat.blt y 66 then (bif Nat.blt y 63 then (bif Nat.blt y 62 then 483 else 487) else (bif Nat.blt y 64 then 495 else (bif Nat.blt y 65 then 503 else 529))) else (bif Nat.blt y 68 then (bif Nat.blt y 67 then 541 else 559) else (bif Nat.blt y 69 then 579 else (bif Nat.blt y 70 then 583 else 596)))) else (bif Nat.blt y 76 then (bif Nat.blt y 73 then (bif Nat.blt y 72 then 604 else 608) else (bif Nat.blt y 74 then 625 else (bif Nat.blt y 75 then 665 else 674))) else (bif Nat.blt y 79 then (bif Nat.blt y 77 then 679 else (bif Nat.blt y 78 then 688 else 697)) else (bif Nat.blt y 80 then 705 else (bif Nat.blt y 81 then 709 else 719))))))) else (bif Nat.blt y 123 then (bif Nat.blt y 102 then (bif Nat.blt y 92 then (bif Nat.blt y 87 then (bif Nat.blt y 84 then (bif Nat.blt y 83 then 723 else 736) else (bif Nat.blt y 85 then 759 else (bif Nat.blt y 86 then 763 else 767))) else (bif Nat.blt y 89 then (bif Nat.blt y 88 then 59 else 349) else (bif Nat.blt y 90 then 630 else (bif Nat.blt y 91 then 684 else 694)))) else (bif Nat.blt y 97 then (bif Nat.blt y 94 then (bif Nat.blt y 93 then 728 else 733) else (bif Nat.blt y 95 then 740 else (bif Nat.blt y 96 then 747 else 773))) else (bif Nat.blt y 99 then (bif Nat.blt y 98 then 782 else 786) else (bif Nat.blt y 100 then 790 else (bif Nat.blt y 101 then 913 else 1071))))) else (bif Nat.blt y 112 then (bif Nat.blt y 107 then (bif Nat.blt y 104 then (bif Nat.blt y 103 then 980 else 1004) else (bif Nat.blt y 105 then 1082 else (bif Nat.blt y 106 then 909 else 916))) else (bif Nat.blt y 109 then (bif Nat.blt y 108 then 929 else 947) else (bif Nat.blt y 110 then 944 else (bif Nat.blt y 111 then 951 else 778)))) else (bif Nat.blt y 117 then (bif Nat.blt y 114 then (bif Nat.blt y 113 then 936 else 933) else (bif Nat.blt y 115 then 940 else (bif Nat.blt y 116 then 955 else 959))) else (bif Nat.blt y 120 then (bif Nat.blt y 118 then 963 else (bif Nat.blt y 119 then 925 else 920)) else (bif Nat.blt y 121 then 966 else (bif Nat.blt y 122 then 797 else 794)))))) else (bif Nat.blt y 143 then (bif Nat.blt y 133 then (bif Nat.blt y 128 then (bif Nat.blt y 125 then (bif Nat.blt y 124 then 988 else 984) else (bif Nat.blt y 126 then 996 else (bif Nat.blt y 127 then 992 else 971))) else (bif Nat.blt y 130 then (bif Nat.blt y 129 then 975 else 1008) else (bif Nat.blt y 131 then 999 else (bif Nat.blt y 132 then 1016 else 1020)))) else (bif Nat.blt y 138 then (bif Nat.blt y 135 then (bif Nat.blt y 134 then 1011 else 1028) else (bif Nat.blt y 136 then 1036 else (bif Nat.blt y 137 then 1032 else 1023))) else (bif Nat.blt y 140 then (bif Nat.blt y 139 then 1039 else 1043) else (bif Nat.blt y 141 then 1047 else (bif Nat.blt y 142 then 1051 else 1055))))) else (bif Nat.blt y 153 then (bif Nat.blt y 148 then (bif Nat.blt y 145 then (bif Nat.blt y 144 then 1068 else 1075) else (bif Nat.blt y 146 then 1064 else (bif Nat.blt y 147 then 1059 else 1078))) else (bif Nat.blt y 150 then (bif Nat.blt y 149 then 1085 else 1089) else (bif Nat.blt y 151 then 1093 else (bif Nat.blt y 152 then 1097 else 1101)))) else (bif Nat.blt y 158 then (bif Nat.blt y 155 then (bif Nat.blt y 154 then 1105 else 1109) else (bif Nat.blt y 156 then 1113 else (bif Nat.blt y 157 then 1117 else 1125))) else (bif Nat.blt y 161 then (bif Nat.blt y 159 then 1128 else (bif Nat.blt y 160 then 1132 else 1136)) else (bif Nat.blt y 162 then 520 else (bif Nat.blt y 163 then 264 else 267))))))))
def m_pSel (y : Nat) : Nat := (bif Nat.blt y 82 then (bif Nat.blt y 41 then (bif Nat.blt y 20 then (bif Nat.blt y 10 then (bif Nat.blt y 5 then (bif Nat.blt y 2 then (bif Nat.blt y 1 then 0 else 229) else (bif Nat.blt y 3 then 233 else (bif Nat.blt y 4 then 342 else 353))) else (bif Nat.blt y 7 then (bif Nat.blt y 6 then 338 else 508) else (bif Nat.blt y 8 then 534 else (bif Nat.blt y 9 then 500 else 592)))) else (bif Nat.blt y 15 then (bif Nat.blt y 12 then (bif Nat.blt y 11 then 569 else 525) else (bif Nat.blt y 13 then 0 else (bif Nat.blt y 14 then 438 else 550))) else (bif Nat.blt y 17 then (bif Nat.blt y 16 then 516 else 512) else (bif Nat.blt y 18 then 555 else (bif Nat.blt y 19 then 588 else 538))))) else (bif Nat.blt y 30 then (bif Nat.blt y 25 then (bif Nat.blt y 22 then (bif Nat.blt y 21 then 756 else 751) else (bif Nat.blt y 23 then 564 else (bif Nat.blt y 24 then 575 else 0))) else (bif Nat.blt y 27 then (bif Nat.blt y 26 then 613 else 618) else (bif Nat.blt y 28 then 622 else (bif Nat.blt y 29 then 671 else 634)))) else (bif Nat.blt y 35 then (bif Nat.blt y 32 then (bif Nat.blt y 31 then 639 else 647) else (bif Nat.blt y 33 then 643 else (bif Nat.blt y 34 then 652 else 662))) else (bif Nat.blt y 38 then (bif Nat.blt y 36 then 658 else (bif Nat.blt y 37 then 0 else 225)) else (bif Nat.blt y 39 then 241 else (bif Nat.blt y 40 then 245 else 310)))))) else (bif Nat.blt y 61 then (bif Nat.blt y 51 then (bif Nat.blt y 46 then (bif Nat.blt y 43 then (bif Nat.blt y 42 then 330 else 334) else (bif Nat.blt y 44 then 346 else (bif Nat.blt y 45 then 314 else 326))) else (bif Nat.blt y 48 then (bif Nat.blt y 47 then 318 else 322) else (bif Nat.blt y 49 then 0 else (bif Nat.blt y 50 then 492 else 546)))) else (bif Nat.blt y 56 then (bif Nat.blt y 53 then (bif Nat.blt y 52 then 601 else 0) else (bif Nat.blt y 54 then 702 else (bif Nat.blt y 55 then 714 else 0))) else (bif Nat.blt y 58 then (bif Nat.blt y 57 then 128 else 237) else (bif Nat.blt y 59 then 0 else (bif Nat.blt y 60 then 476 else 480))))) else (bif Nat.blt y 71 then (bif Nat.blt y 66 then (bif Nat.blt y 63 then (bif Nat.blt y 62 then 484 else 488) else (bif Nat.blt y 64 then 496 else (bif Nat.blt y 65 then 504 else 530))) else (bif Nat.blt y 68 then (bif Nat.blt y 67 then 542 else 560) else (bif Nat.blt y 69 then 580 else (bif Nat.blt y 70 then 584 else 597)))) else (bif Nat.blt y 76 then (bif Nat.blt y 73 then (bif Nat.blt y 72 then 605 else 609) else (bif Nat.blt y 74 then 626 else (bif Nat.blt y 75 then 666 else 675))) else (bif Nat.blt y 79 then (bif Nat.blt y 77 then 680 else (bif Nat.blt y 78 then 689 else 698)) else (bif Nat.blt y 80 then 706 else (bif Nat.blt y 81 then 710 else 720))))))) else (bif Nat.blt y 123 then (bif Nat.blt y 102 then (bif Nat.blt y 92 then (bif Nat.blt y 87 then (bif Nat.blt y 84 then (bif Nat.blt y 83 then 724 else 737) else (bif Nat.blt y 85 then 760 else (bif Nat.blt y 86 then 764 else 768))) else (bif Nat.blt y 89 then (bif Nat.blt y 88 then 0 else 0) else (bif Nat.blt y 90 then 0 else (bif Nat.blt y 91 then 1 else 0)))) else (bif Nat.blt y 97 then (bif Nat.blt y 94 then (bif Nat.blt y 93 then 2 else 0) else (bif Nat.blt y 95 then 0 else (bif Nat.blt y 96 then 3 else 0))) else (bif Nat.blt y 99 then (bif Nat.blt y 98 then 5 else 6) else (bif Nat.blt y 100 then 7 else (bif Nat.blt y 101 then 0 else 0))))) else (bif Nat.blt y 112 then (bif Nat.blt y 107 then (bif Nat.blt y 104 then (bif Nat.blt y 103 then 18 else 23) else (bif Nat.blt y 105 then 0 else (bif Nat.blt y 106 then 910 else 917))) else (bif Nat.blt y 109 then (bif Nat.blt y 108 then 10 else 0) else (bif Nat.blt y 110 then 13 else (bif Nat.blt y 111 then 14 else 4)))) else (bif Nat.blt y 117 then (bif Nat.blt y 114 then (bif Nat.blt y 113 then 0 else 11) else (bif Nat.blt y 115 then 12 else (bif Nat.blt y 116 then 15 else 16))) else (bif Nat.blt y 120 then (bif Nat.blt y 118 then 17 else (bif Nat.blt y 119 then 9 else 921)) else (bif Nat.blt y 121 then 967 else (bif Nat.blt y 122 then 0 else 8)))))) else (bif Nat.blt y 143 then (bif Nat.blt y 133 then (bif Nat.blt y 128 then (bif Nat.blt y 125 then (bif Nat.blt y 124 then 20 else 19) else (bif Nat.blt y 126 then 22 else (bif Nat.blt y 127 then 21 else 972))) else (bif Nat.blt y 130 then (bif Nat.blt y 129 then 976 else 24) else (bif Nat.blt y 131 then 1000 else (bif Nat.blt y 132 then 25 else 26)))) else (bif Nat.blt y 138 then (bif Nat.blt y 135 then (bif Nat.blt y 134 then 1012 else 27) else (bif Nat.blt y 136 then 29 else (bif Nat.blt y 137 then 28 else 1024))) else (bif Nat.blt y 140 then (bif Nat.blt y 139 then 1040 else 1044) else (bif Nat.blt y 141 then 1048 else (bif Nat.blt y 142 then 1052 else 1056))))) else (bif Nat.blt y 153 then (bif Nat.blt y 148 then (bif Nat.blt y 145 then (bif Nat.blt y 144 then 31 else 32) else (bif Nat.blt y 146 then 30 else (bif Nat.blt y 147 then 1060 else 1079))) else (bif Nat.blt y 150 then (bif Nat.blt y 149 then 1086 else 1090) else (bif Nat.blt y 151 then 1094 else (bif Nat.blt y 152 then 1098 else 1102)))) else (bif Nat.blt y 158 then (bif Nat.blt y 155 then (bif Nat.blt y 154 then 1106 else 1110) else (bif Nat.blt y 156 then 1114 else (bif Nat.blt y 157 then 1118 else 33))) else (bif Nat.blt y 161 then (bif Nat.blt y 159 then 1129 else (bif Nat.blt y 160 then 1133 else 1137)) else (bif Nat.blt y 162 then 0 else (bif Nat.blt y 163 then 0 else 0))))))))
def m_pIni (y : Nat) : Nat := (bif Nat.blt y 82 then (bif Nat.blt y 41 then (bif Nat.blt y 20 then (bif Nat.blt y 10 then (bif Nat.blt y 5 then (bif Nat.blt y 2 then (bif Nat.blt y 1 then 41 else 41) else (bif Nat.blt y 3 then 41 else (bif Nat.blt y 4 then 41 else 41))) else (bif Nat.blt y 7 then (bif Nat.blt y 6 then 41 else 41) else (bif Nat.blt y 8 then 41 else (bif Nat.blt y 9 then 41 else 41)))) else (bif Nat.blt y 15 then (bif Nat.blt y 12 then (bif Nat.blt y 11 then 41 else 41) else (bif Nat.blt y 13 then 45 else (bif Nat.blt y 14 then 45 else 45))) else (bif Nat.blt y 17 then (bif Nat.blt y 16 then 45 else 45) else (bif Nat.blt y 18 then 45 else (bif Nat.blt y 19 then 45 else 45))))) else (bif Nat.blt y 30 then (bif Nat.blt y 25 then (bif Nat.blt y 22 then (bif Nat.blt y 21 then 45 else 45) else (bif Nat.blt y 23 then 45 else (bif Nat.blt y 24 then 45 else 48))) else (bif Nat.blt y 27 then (bif Nat.blt y 26 then 48 else 48) else (bif Nat.blt y 28 then 48 else (bif Nat.blt y 29 then 48 else 48)))) else (bif Nat.blt y 35 then (bif Nat.blt y 32 then (bif Nat.blt y 31 then 48 else 48) else (bif Nat.blt y 33 then 48 else (bif Nat.blt y 34 then 48 else 48))) else (bif Nat.blt y 38 then (bif Nat.blt y 36 then 48 else (bif Nat.blt y 37 then 42 else 42)) else (bif Nat.blt y 39 then 42 else (bif Nat.blt y 40 then 42 else 42)))))) else (bif Nat.blt y 61 then (bif Nat.blt y 51 then (bif Nat.blt y 46 then (bif Nat.blt y 43 then (bif Nat.blt y 42 then 42 else 42) else (bif Nat.blt y 44 then 42 else (bif Nat.blt y 45 then 42 else 42))) else (bif Nat.blt y 48 then (bif Nat.blt y 47 then 42 else 42) else (bif Nat.blt y 49 then 46 else (bif Nat.blt y 50 then 46 else 46)))) else (bif Nat.blt y 56 then (bif Nat.blt y 53 then (bif Nat.blt y 52 then 46 else 47) else (bif Nat.blt y 54 then 47 else (bif Nat.blt y 55 then 47 else 36))) else (bif Nat.blt y 58 then (bif Nat.blt y 57 then 36 else 36) else (bif Nat.blt y 59 then 35 else (bif Nat.blt y 60 then 35 else 35))))) else (bif Nat.blt y 71 then (bif Nat.blt y 66 then (bif Nat.blt y 63 then (bif Nat.blt y 62 then 35 else 35) else (bif Nat.blt y 64 then 35 else (bif Nat.blt y 65 then 35 else 35))) else (bif Nat.blt y 68 then (bif Nat.blt y 67 then 35 else 35) else (bif Nat.blt y 69 then 35 else (bif Nat.blt y 70 then 35 else 35)))) else (bif Nat.blt y 76 then (bif Nat.blt y 73 then (bif Nat.blt y 72 then 35 else 35) else (bif Nat.blt y 74 then 35 else (bif Nat.blt y 75 then 35 else 35))) else (bif Nat.blt y 79 then (bif Nat.blt y 77 then 35 else (bif Nat.blt y 78 then 35 else 35)) else (bif Nat.blt y 80 then 35 else (bif Nat.blt y 81 then 35 else 35))))))) else (bif Nat.blt y 123 then (bif Nat.blt y 102 then (bif Nat.blt y 92 then (bif Nat.blt y 87 then (bif Nat.blt y 84 then (bif Nat.blt y 83 then 35 else 35) else (bif Nat.blt y 85 then 35 else (bif Nat.blt y 86 then 35 else 35))) else (bif Nat.blt y 89 then (bif Nat.blt y 88 then 35 else 35) else (bif Nat.blt y 90 then 35 else (bif Nat.blt y 91 then 35 else 35)))) else (bif Nat.blt y 97 then (bif Nat.blt y 94 then (bif Nat.blt y 93 then 35 else 35) else (bif Nat.blt y 95 then 35 else (bif Nat.blt y 96 then 35 else 49))) else (bif Nat.blt y 99 then (bif Nat.blt y 98 then 49 else 49) else (bif Nat.blt y 100 then 49 else (bif Nat.blt y 101 then 49 else 49))))) else (bif Nat.blt y 112 then (bif Nat.blt y 107 then (bif Nat.blt y 104 then (bif Nat.blt y 103 then 49 else 49) else (bif Nat.blt y 105 then 49 else (bif Nat.blt y 106 then 49 else 49))) else (bif Nat.blt y 109 then (bif Nat.blt y 108 then 49 else 49) else (bif Nat.blt y 110 then 49 else (bif Nat.blt y 111 then 49 else 49)))) else (bif Nat.blt y 117 then (bif Nat.blt y 114 then (bif Nat.blt y 113 then 49 else 49) else (bif Nat.blt y 115 then 49 else (bif Nat.blt y 116 then 49 else 49))) else (bif Nat.blt y 120 then (bif Nat.blt y 118 then 49 else (bif Nat.blt y 119 then 49 else 49)) else (bif Nat.blt y 121 then 49 else (bif Nat.blt y 122 then 49 else 49)))))) else (bif Nat.blt y 143 then (bif Nat.blt y 133 then (bif Nat.blt y 128 then (bif Nat.blt y 125 then (bif Nat.blt y 124 then 49 else 49) else (bif Nat.blt y 126 then 49 else (bif Nat.blt y 127 then 49 else 49))) else (bif Nat.blt y 130 then (bif Nat.blt y 129 then 49 else 49) else (bif Nat.blt y 131 then 49 else (bif Nat.blt y 132 then 49 else 49)))) else (bif Nat.blt y 138 then (bif Nat.blt y 135 then (bif Nat.blt y 134 then 49 else 49) else (bif Nat.blt y 136 then 49 else (bif Nat.blt y 137 then 49 else 49))) else (bif Nat.blt y 140 then (bif Nat.blt y 139 then 49 else 49) else (bif Nat.blt y 141 then 49 else (bif Nat.blt y 142 then 49 else 49))))) else (bif Nat.blt y 153 then (bif Nat.blt y 148 then (bif Nat.blt y 145 then (bif Nat.blt y 144 then 49 else 49) else (bif Nat.blt y 146 then 49 else (bif Nat.blt y 147 then 49 else 49))) else (bif Nat.blt y 150 then (bif Nat.blt y 149 then 49 else 49) else (bif Nat.blt y 151 then 49 else (bif Nat.blt y 152 then 49 else 49)))) else (bif Nat.blt y 158 then (bif Nat.blt y 155 then (bif Nat.blt y 154 then 49 else 49) else (bif Nat.blt y 156 then 49 else (bif Nat.blt y 157 then 49 else 49))) else (bif Nat.blt y 161 then (bif Nat.blt y 159 then 49 else (bif Nat.blt y 160 then 49 else 49)) else (bif Nat.blt y 162 then 43 else (bif Nat.blt y 163 then 43 else 43))))))))
def m_pLn (c k : Nat) : Nat := (bif Nat.blt c 4 then (bif Nat.blt c 2 then (bif Nat.blt c 1 then (bif Nat.blt k 37 then (bif Nat.blt k 21 then (bif Nat.blt k 15 then (bif Nat.blt k 9 then 135 else 136) else (bif Nat.blt k 18 then 137 else 139)) else (bif Nat.blt k 27 then (bif Nat.blt k 24 then 141 else 143) else (bif Nat.blt k 30 then 144 else (bif Nat.blt k 33 then 146 else 149)))) else (bif Nat.blt k 50 then (bif Nat.blt k 44 then (bif Nat.blt k 41 then 231 else 153) else (bif Nat.blt k 47 then 157 else 161)) else (bif Nat.blt k 56 then (bif Nat.blt k 53 then 164 else 168) else (bif Nat.blt k 59 then 172 else (bif Nat.blt k 65 then 594 else 527))))) else (bif Nat.blt k 55 then (bif Nat.blt k 28 then (bif Nat.blt k 18 then (bif Nat.blt k 9 then 360 else (bif Nat.blt k 15 then 361 else 363)) else (bif Nat.blt k 22 then 365 else (bif Nat.blt k 25 then 367 else 368))) else (bif Nat.blt k 43 then (bif Nat.blt k 32 then 370 else (bif Nat.blt k 37 then 145 else 518)) else (bif Nat.blt k 49 then (bif Nat.blt k 46 then 162 else 151) else (bif Nat.blt k 52 then 519 else 154)))) else (bif Nat.blt k 75 then (bif Nat.blt k 66 then (bif Nat.blt k 58 then 158 else (bif Nat.blt k 62 then 514 else 522)) else (bif Nat.blt k 69 then 557 else (bif Nat.blt k 72 then 590 else 175))) else (bif Nat.blt k 86 then (bif Nat.blt k 79 then 753 else (bif Nat.blt k 83 then 571 else 148)) else (bif Nat.blt k 92 then (bif Nat.blt k 89 then 566 else 567) else (bif Nat.blt k 96 then 572 else 577)))))) else (bif Nat.blt c 3 then (bif Nat.blt k 38 then (bif Nat.blt k 18 then (bif Nat.blt k 9 then 428 else (bif Nat.blt k 15 then 429 else 430)) else (bif Nat.blt k 28 then (bif Nat.blt k 24 then 615 else 620) else (bif Nat.blt k 32 then 636 else 167))) else (bif Nat.blt k 50 then (bif Nat.blt k 42 then 645 else (bif Nat.blt k 46 then 649 else 650)) else (bif Nat.blt k 56 then (bif Nat.blt k 53 then 170 else 654) else (bif Nat.blt k 60 then 655 else 660)))) else (bif Nat.blt k 64 then (bif Nat.blt k 37 then (bif Nat.blt k 19 then (bif Nat.blt k 9 then 212 else (bif Nat.blt k 15 then 213 else 214)) else (bif Nat.blt k 28 then (bif Nat.blt k 23 then 215 else 227) else (bif Nat.blt k 33 then 69 else 235))) else (bif Nat.blt k 52 then (bif Nat.blt k 45 then (bif Nat.blt k 41 then 239 else 316) else (bif Nat.blt k 49 then 243 else 308)) else (bif Nat.blt k 58 then (bif Nat.blt k 55 then 328 else 332) else (bif Nat.blt k 61 then 344 else 150)))) else (bif Nat.blt k 91 then (bif Nat.blt k 79 then (bif Nat.blt k 72 then (bif Nat.blt k 66 then 247 else 248) else (bif Nat.blt k 76 then 307 else 312)) else (bif Nat.blt k 85 then (bif Nat.blt k 82 then 155 else 159) else (bif Nat.blt k 88 then 163 else 169))) else (bif Nat.blt k 104 then (bif Nat.blt k 97 then (bif Nat.blt k 94 then 174 else 166) else (bif Nat.blt k 100 then 336 else 340)) else (bif Nat.blt k 111 then (bif Nat.blt k 107 then 348 else 351) else (bif Nat.blt k 115 then 320 else 324))))))) else (bif Nat.blt c 6 then (bif Nat.blt c 5 then (bif Nat.blt k 21 then (bif Nat.blt k 13 then (bif Nat.blt k 7 then 390 else 391) else (bif Nat.blt k 15 then 392 else 395)) else (bif Nat.blt k 26 then (bif Nat.blt k 22 then 394 else 397) else (bif Nat.blt k 29 then 396 else (bif Nat.blt k 33 then 548 else 552)))) else (bif Nat.blt k 18 then (bif Nat.blt k 9 then 411 else (bif Nat.blt k 15 then 412 else 413)) else (bif Nat.blt k 22 then 414 else (bif Nat.blt k 28 then 716 else 717)))) else (bif Nat.blt c 7 then (bif Nat.blt k 9 then 66 else (bif Nat.blt k 15 then 67 else 68)) else (bif Nat.blt c 8 then (bif Nat.blt k 144 then (bif Nat.blt k 68 then (bif Nat.blt k 35 then (bif Nat.blt k 20 then (bif Nat.blt k 13 then (bif Nat.blt k 7 then 55 else 58) else (bif Nat.blt k 17 then 449 else (bif Nat.blt k 19 then 130 else 132))) else (bif Nat.blt k 26 then (bif Nat.blt k 23 then 450 else (bif Nat.blt k 25 then 61 else 63)) else (bif Nat.blt k 30 then 440 else (bif Nat.blt k 32 then 207 else 209)))) else (bif Nat.blt k 51 then (bif Nat.blt k 42 then (bif Nat.blt k 39 then 441 else (bif Nat.blt k 41 then 355 else 357)) else (bif Nat.blt k 46 then 442 else (bif Nat.blt k 49 then 443 else 385))) else (bif Nat.blt k 61 then (bif Nat.blt k 54 then 387 else (bif Nat.blt k 58 then 444 else 445)) else (bif Nat.blt k 63 then 406 else (bif Nat.blt k 64 then 408 else 446))))) else (bif Nat.blt k 104 then (bif Nat.blt k 83 then (bif Nat.blt k 71 then (bif Nat.blt k 70 then 423 else 425) else (bif Nat.blt k 75 then 447 else (bif Nat.blt k 79 then 448 else 436))) else (bif Nat.blt k 95 then (bif Nat.blt k 87 then 126 else (bif Nat.blt k 91 then 70 else 223)) else (bif Nat.blt k 98 then 173 else (bif Nat.blt k 101 then 415 else 490)))) else (bif Nat.blt k 124 then (bif Nat.blt k 115 then (bif Nat.blt k 107 then 165 else (bif Nat.blt k 111 then 498 else 506)) else (bif Nat.blt k 118 then 138 else (bif Nat.blt k 121 then 140 else 142))) else (bif Nat.blt k 135 then (bif Nat.blt k 127 then 366 else (bif Nat.blt k 131 then 510 else 523)) else (bif Nat.blt k 138 then 532 else (bif Nat.blt k 141 then 362 else 147)))))) else (bif Nat.blt k 224 then (bif Nat.blt k 180 then (bif Nat.blt k 162 then (bif Nat.blt k 150 then (bif Nat.blt k 147 then 364 else 536) else (bif Nat.blt k 154 then 544 else (bif Nat.blt k 158 then 553 else 562))) else (bif Nat.blt k 173 then (bif Nat.blt k 166 then 573 else (bif Nat.blt k 170 then 371 else 369)) else (bif Nat.blt k 176 then 586 else (bif Nat.blt k 177 then 398 else 599)))) else (bif Nat.blt k 203 then (bif Nat.blt k 191 then (bif Nat.blt k 184 then 611 else (bif Nat.blt k 187 then 616 else 628)) else (bif Nat.blt k 194 then 668 else (bif Nat.blt k 198 then 669 else 677))) else (bif Nat.blt k 214 then (bif Nat.blt k 207 then 682 else (bif Nat.blt k 210 then 686 else 632)) else (bif Nat.blt k 218 then 637 else (bif Nat.blt k 221 then 171 else 691))))) else (bif Nat.blt k 261 then (bif Nat.blt k 241 then (bif Nat.blt k 231 then (bif Nat.blt k 227 then 641 else 656) else (bif Nat.blt k 234 then 692 else (bif Nat.blt k 237 then 693 else 700))) else (bif Nat.blt k 251 then (bif Nat.blt k 245 then 712 else (bif Nat.blt k 248 then 726 else 156)) else (bif Nat.blt k 254 then 160 else (bif Nat.blt k 258 then 730 else 731)))) else (bif Nat.blt k 279 then (bif Nat.blt k 270 then (bif Nat.blt k 264 then 732 else (bif Nat.blt k 267 then 739 else 745)) else (bif Nat.blt k 273 then 749 else (bif Nat.blt k 276 then 754 else 152))) else (bif Nat.blt k 289 then (bif Nat.blt k 281 then 77 else (bif Nat.blt k 285 then 78 else 88)) else (bif Nat.blt k 291 then 742 else (bif Nat.blt k 293 then 743 else 744))))))) else (bif Nat.blt k 128 then (bif Nat.blt k 64 then (bif Nat.blt k 34 then (bif Nat.blt k 19 then (bif Nat.blt k 13 then (bif Nat.blt k 7 then 775 else 800) else (bif Nat.blt k 16 then 806 else 808)) else (bif Nat.blt k 25 then (bif Nat.blt k 22 then 809 else 811) else (bif Nat.blt k 28 then 813 else (bif Nat.blt k 31 then 815 else 816)))) else (bif Nat.blt k 49 then (bif Nat.blt k 40 then (bif Nat.blt k 37 then 819 else 822) else (bif Nat.blt k 43 then 828 else (bif Nat.blt k 46 then 830 else 831))) else (bif Nat.blt k 55 then (bif Nat.blt k 52 then 832 else 833) else (bif Nat.blt k 58 then 834 else (bif Nat.blt k 61 then 776 else 780))))) else (bif Nat.blt k 94 then (bif Nat.blt k 77 then (bif Nat.blt k 71 then (bif Nat.blt k 68 then 823 else 824) else (bif Nat.blt k 74 then 825 else 826)) else (bif Nat.blt k 85 then (bif Nat.blt k 81 then 784 else 788) else (bif Nat.blt k 88 then 792 else (bif Nat.blt k 91 then 821 else 827)))) else (bif Nat.blt k 110 then (bif Nat.blt k 100 then (bif Nat.blt k 97 then 829 else 805) else (bif Nat.blt k 104 then 912 else (bif Nat.blt k 107 then 807 else 817))) else (bif Nat.blt k 117 then (bif Nat.blt k 113 then 818 else 927) else (bif Nat.blt k 121 then 946 else (bif Nat.blt k 125 then 820 else 935)))))) else (bif Nat.blt k 189 then (bif Nat.blt k 157 then (bif Nat.blt k 141 then (bif Nat.blt k 134 then (bif Nat.blt k 131 then 942 else 949) else (bif Nat.blt k 138 then 931 else 938)) else (bif Nat.blt k 147 then (bif Nat.blt k 144 then 953 else 957) else (bif Nat.blt k 150 then 961 else (bif Nat.blt k 153 then 923 else 969)))) else (bif Nat.blt k 173 then (bif Nat.blt k 163 then (bif Nat.blt k 160 then 804 else 799) else (bif Nat.blt k 167 then 796 else (bif Nat.blt k 170 then 801 else 802))) else (bif Nat.blt k 179 then (bif Nat.blt k 176 then 803 else 810) else (bif Nat.blt k 182 then 812 else (bif Nat.blt k 185 then 814 else 986))))) else (bif Nat.blt k 221 then (bif Nat.blt k 205 then (bif Nat.blt k 195 then (bif Nat.blt k 192 then 994 else 978) else (bif Nat.blt k 198 then 982 else (bif Nat.blt k 202 then 990 else 1002))) else (bif Nat.blt k 211 then (bif Nat.blt k 208 then 1006 else 1014) else (bif Nat.blt k 214 then 1018 else (bif Nat.blt k 218 then 1026 else 1034)))) else (bif Nat.blt k 236 then (bif Nat.blt k 227 then (bif Nat.blt k 224 then 1030 else 1070) else (bif Nat.blt k 230 then 1066 else (bif Nat.blt k 233 then 1062 else 1073))) else (bif Nat.blt k 241 then (bif Nat.blt k 239 then 1081 else 1120) else (bif Nat.blt k 243 then 1121 else (bif Nat.blt k 245 then 1122 else 1123)))))))))))
def m_w (i : Nat) (w : Cond) : Bool := decide (lw_tbl[i]? = some w)
theorem m_w_mem {i : Nat} {w : Cond} (h : m_w i w = true) : w ∈ lw_tbl := List.mem_of_getElem? (of_decide_eq_true h)
def m_pcAt (y k : Nat) (pc : Nat) : Bool := match m_code y k with
  | some e => Nat.beq e.1 pc
  | none => false
def m_pcZ (y k : Nat) (z : Int) : Bool := match m_code y k with
  | some e => decide ((e.1 : Int) = z)
  | none => false
def m_lenOf (i : Instr) : Nat := match i with
  | .bipush _ => 2
  | .iload _ => 2
  | .aload _ => 2
  | .lload _ => 2
  | .istore _ => 2
  | .astore _ => 2
  | .lstore _ => 2
  | .newarray _ => 2
  | .ldc _ => 2
  | .sipush _ => 3
  | .ldc_w _ => 3
  | .ldc2_w _ => 3
  | .getfield _ => 3
  | .putfield _ => 3
  | .invokevirtual _ => 3
  | .invokestatic _ => 3
  | .invokespecial _ => 3
  | .new _ => 3
  | .anewarray _ => 3
  | .iinc _ _ => 3
  | .ifCond _ _ => 3
  | .if_icmp _ _ => 3
  | .goto _ => 3
  | _ => 1
/-- is there an instruction behind it -/
def m_on (i : Instr) : Bool := match i with
  | .goto _ => false
  | .ireturn => false
  | .areturn => false
  | .return_ => false
  | .tableswitch _ _ _ _ => false
  | .lookupswitch _ _ => false
  | _ => true
def m_sws (i : Instr) : Bool := match i with
  | .tableswitch _ _ _ _ => true
  | .lookupswitch _ _ => true
  | _ => false
/-- a table switch's numbers from lo on, and where they go -/
def m_swT (y pc : Nat) (lo : Int) : Nat → List Int → List Nat → Bool
  | _, [], [] => true
  | j, o :: os, v :: t :: r => decide ((v : Int) = lo + (j : Int)) && m_pcZ y t ((pc : Int) + o) && m_swT y pc lo (j + 1) os r
  | _, _, _ => false
def m_swL (y pc : Nat) : List (Int × Int) → List Nat → Bool
  | [], [] => true
  | o :: os, v :: t :: r => decide ((v : Int) = o.1) && decide (v < 2147483648) && m_pcZ y t ((pc : Int) + o.2) && m_swL y pc os r
  | _, _ => false
def m_fty (t : Nat) (f : FieldType) : Bool := match t, f with
  | 0, .int => true
  | 1, .boolean => true
  | 2, .object _ => true
  | 2, .array _ => true
  | _, _ => false
def m_okI (y pc : Nat) (i : Instr) (a : List Nat) (c : Int32) : Bool := match i, a with
  | .iconst n, _ => decide (Int32.ofInt n = c)
  | .bipush n, _ => decide ((Int8.ofInt n).toInt32 = c)
  | .sipush n, _ => decide ((Int16.ofInt n).toInt32 = c)
  | .lconst n, [v] => decide ((n : Nat) = v)
  | .iload_n n, [v] => decide ((n : Nat) = v)
  | .aload_n n, [v] => decide ((n : Nat) = v)
  | .lload_n n, [v] => decide ((n : Nat) = v)
  | .istore_n n, [v] => decide ((n : Nat) = v)
  | .astore_n n, [v] => decide ((n : Nat) = v)
  | .lstore_n n, [v] => decide ((n : Nat) = v)
  | .iload n, [v] => decide (n = v)
  | .aload n, [v] => decide (n = v)
  | .lload n, [v] => decide (n = v)
  | .istore n, [v] => decide (n = v)
  | .astore n, [v] => decide (n = v)
  | .lstore n, [v] => decide (n = v)
  | .iinc n d, [v] => decide (n = v) && decide (Int32.ofInt d = c)
  | .ldc2_w k, [v] => m_w (m_pLn (m_rc y) k) (.constantLong (m_own y) k (Int64.ofNat v))
  | .ldc k, [v] => Nat.beq y 39 && Nat.beq k 64 && Nat.beq v 1
  | .ldc_w k, [v] => Nat.beq y 87 && Nat.beq k 279 && Nat.beq v 0
  | .ifCond _ o, [t] => m_pcZ y t ((pc : Int) + o)
  | .if_icmp _ o, [t] => m_pcZ y t ((pc : Int) + o)
  | .goto o, [t] => m_pcZ y t ((pc : Int) + o)
  | .tableswitch d lo hi os, t :: r => m_pcZ y t ((pc : Int) + d) && decide (0 ≤ lo) && decide (hi < 1000) && decide (hi + 1 = lo + (os.size : Int)) && m_swT y pc lo 0 os.toList r
  | .lookupswitch d ps, t :: r => m_pcZ y t ((pc : Int) + d) && ((ps.toList.zip (ps.toList.drop 1)).all (fun (a, next) => a.1 < next.1)) && m_swL y pc ps.toList r
  | .getfield k, [ci, f, t] => Nat.blt ci 9 && Nat.blt f (m_C ci).2.2 && m_w (m_pLn (m_rc y) k) (.fieldLink (m_own y) k ((m_C ci).2.1 f).1 ((m_C ci).2.1 f).2.1 ((m_C ci).2.1 f).2.2.1)
  | .putfield k, [ci, f, t] => Nat.blt ci 9 && Nat.blt f (m_C ci).2.2 && m_w (m_pLn (m_rc y) k) (.fieldLink (m_own y) k ((m_C ci).2.1 f).1 ((m_C ci).2.1 f).2.1 ((m_C ci).2.1 f).2.2.1) && m_fty t (m_ty ci f) && (!((m_C ci).2.1 f).2.2.2 || (decide ((m_name y).name = "<init>") && decide (((m_C ci).2.1 f).1 = m_own y)))
  | .invokevirtual k, [z, _] => bif Nat.blt z 900 then (Nat.blt z 164 && !m_stat z && m_w (m_pLn (m_rc y) k) (.methodLink (m_own y) k (m_name z)) && m_w (m_pSel z) (.selects (m_own z) (m_name z) (m_name z)) && Nat.blt (m_rc z) 9 && Nat.ble (m_frm z + 1) (m_frm y) && Nat.ble (m_loc z + m_maxL z + 19) (m_loc y)) else (m_w (m_pLn (m_rc y) k) (.methodLink (m_own y) k (bif Nat.beq z 1000 then yJ0_length_8abf5 else bif Nat.beq z 1001 then yJ0_charAt_5068e else yJ0_indexOf_0f7a4)) && Nat.blt z 1003 && Nat.ble 5 (m_frm y) && Nat.ble 140 (m_loc y))
  | .invokestatic k, [z, _] => Nat.blt z 164 && m_stat z && (m_w (m_pLn (m_rc y) k) (.methodLink (m_own y) k (m_name z)) || (m_w (m_pLn (m_rc y) k) (.methodLinkNest (m_own y) k (m_name z) RX7))) && Nat.ble (m_frm z + 1) (m_frm y) && Nat.ble (m_loc z + m_maxL z + 19) (m_loc y)
  | .invokespecial k, [_] => m_w (m_pLn (m_rc y) k) (.methodLink (m_own y) k objectInit) && Nat.ble 1 (m_frm y) && Nat.ble 20 (m_loc y)
  | .invokespecial k, [z, _] => Nat.blt z 164 && !m_stat z && m_w (m_pLn (m_rc y) k) (.methodLink (m_own y) k (m_name z)) && decide ((m_name z).name = "<init>") && decide (m_retT z = none) && Nat.ble (m_frm z + 1) (m_frm y) && Nat.ble (m_loc z + m_maxL z + 19) (m_loc y)
  | .new k, [ci] => Nat.blt ci 9 && m_w (m_pLn (m_rc y) k) (.classLink (m_own y) k (m_C ci).1)
  | .newarray .int, [t] => Nat.beq t 0
  | .newarray .char, [t] => Nat.beq t 1
  | .newarray _, _ => false
  | .anewarray k, _ => m_w (m_pLn (m_rc y) k) (.classLink (m_own y) k RX1)
  | .ireturn, _ => decide (m_retT y = some (bif Nat.beq (m_rt y) 0 then .int else bif Nat.beq (m_rt y) 1 then .boolean else .char)) 
  | .return_, _ => decide (m_retT y = none)
  | .areturn, _ => decide (m_retT y = some (.object RX0))
  | .lconst _, _ => false
  | .iload_n _, _ => false
  | .aload_n _, _ => false
  | .lload_n _, _ => false
  | .istore_n _, _ => false
  | .astore_n _, _ => false
  | .lstore_n _, _ => false
  | .iload _, _ => false
  | .aload _, _ => false
  | .lload _, _ => false
  | .istore _, _ => false
  | .astore _, _ => false
  | .lstore _, _ => false
  | .iinc _ _, _ => false
  | .ldc2_w _, _ => false
  | .ldc _, _ => false
  | .ldc_w _, _ => false
  | .ifCond _ _, _ => false
  | .if_icmp _ _, _ => false
  | .goto _, _ => false
  | .tableswitch _ _ _ _, _ => false
  | .lookupswitch _ _, _ => false
  | .getfield _, _ => false
  | .putfield _, _ => false
  | .invokevirtual _, _ => false
  | .invokestatic _, _ => false
  | .invokespecial _, _ => false
  | .new _, _ => false
  | _, _ => true
def m_okE (y k : Nat) (e : ME) : Bool := decide (decode (m_bytes y) e.1 = .ok (e.2.1, e.2.2.1)) && (m_sws e.2.1 || Nat.beq e.2.2.1 (m_lenOf e.2.1)) && (!m_on e.2.1 || m_pcAt y (k + 1) (e.1 + e.2.2.1)) && m_okI y e.1 e.2.1 e.2.2.2.1 e.2.2.2.2
def m_okP (y k : Nat) : Bool := match m_code y k with
  | some e => m_okE y k e
  | none => true
/-- a method's own words -/
def m_okM (y : Nat) : Bool := m_w (m_pInst y) (bif m_stat y then .static (m_name y) else .instanceMethod (m_name y)) && m_w (m_pIni y) (.initialized (m_own y)) && decide ((m_name y).cls = m_own y) && (Nat.beq (m_rc y) 9 || decide (m_own y = (m_C (m_rc y)).1)) && m_pcAt y 0 0

set_option maxRecDepth 100000 in
theorem m_okP_0 : ∀ y, y < 164 → m_okM y = true := by decide +kernel
set_option maxRecDepth 100000 in
theorem m_cd_0 : lw_tbl[134]? = some (.code (m_name 0) (m_bytes 0) (m_maxL 0) (m_retT 0)) := rfl
set_option maxRecDepth 100000 in
theorem m_cd_1 : lw_tbl[230]? = some (.code (m_name 1) (m_bytes 1) (m_maxL 1) (m_retT 1)) := rfl
set_option maxRecDepth 100000 in
theorem m_cd_2 : lw_tbl[234]? = some (.code (m_name 2) (m_bytes 2) (m_maxL 2) (m_retT 2)) := rfl
set_option maxRecDepth 100000 in
theorem m_cd_3 : lw_tbl[343]? = some (.code (m_name 3) (m_bytes 3) (m_maxL 3) (m_retT 3)) := rfl
set_option maxRecDepth 100000 in
theorem m_cd_4 : lw_tbl[354]? = some (.code (m_name 4) (m_bytes 4) (m_maxL 4) (m_retT 4)) := rfl
set_option maxRecDepth 100000 in
theorem m_cd_5 : lw_tbl[339]? = some (.code (m_name 5) (m_bytes 5) (m_maxL 5) (m_retT 5)) := rfl
set_option maxRecDepth 100000 in
theorem m_cd_6 : lw_tbl[509]? = some (.code (m_name 6) (m_bytes 6) (m_maxL 6) (m_retT 6)) := rfl
set_option maxRecDepth 100000 in
theorem m_cd_7 : lw_tbl[535]? = some (.code (m_name 7) (m_bytes 7) (m_maxL 7) (m_retT 7)) := rfl
set_option maxRecDepth 100000 in
theorem m_cd_8 : lw_tbl[501]? = some (.code (m_name 8) (m_bytes 8) (m_maxL 8) (m_retT 8)) := rfl
set_option maxRecDepth 100000 in
theorem m_cd_9 : lw_tbl[593]? = some (.code (m_name 9) (m_bytes 9) (m_maxL 9) (m_retT 9)) := rfl
set_option maxRecDepth 100000 in
theorem m_cd_10 : lw_tbl[570]? = some (.code (m_name 10) (m_bytes 10) (m_maxL 10) (m_retT 10)) := rfl
set_option maxRecDepth 100000 in
theorem m_cd_11 : lw_tbl[526]? = some (.code (m_name 11) (m_bytes 11) (m_maxL 11) (m_retT 11)) := rfl
set_option maxRecDepth 100000 in
theorem m_cd_12 : lw_tbl[359]? = some (.code (m_name 12) (m_bytes 12) (m_maxL 12) (m_retT 12)) := rfl
set_option maxRecDepth 100000 in
theorem m_cd_13 : lw_tbl[439]? = some (.code (m_name 13) (m_bytes 13) (m_maxL 13) (m_retT 13)) := rfl
set_option maxRecDepth 100000 in
theorem m_cd_14 : lw_tbl[551]? = some (.code (m_name 14) (m_bytes 14) (m_maxL 14) (m_retT 14)) := rfl
set_option maxRecDepth 100000 in
theorem m_cd_15 : lw_tbl[517]? = some (.code (m_name 15) (m_bytes 15) (m_maxL 15) (m_retT 15)) := rfl
set_option maxRecDepth 100000 in
theorem m_cd_16 : lw_tbl[513]? = some (.code (m_name 16) (m_bytes 16) (m_maxL 16) (m_retT 16)) := rfl
set_option maxRecDepth 100000 in
theorem m_cd_17 : lw_tbl[556]? = some (.code (m_name 17) (m_bytes 17) (m_maxL 17) (m_retT 17)) := rfl
set_option maxRecDepth 100000 in
theorem m_cd_18 : lw_tbl[589]? = some (.code (m_name 18) (m_bytes 18) (m_maxL 18) (m_retT 18)) := rfl
set_option maxRecDepth 100000 in
theorem m_cd_19 : lw_tbl[539]? = some (.code (m_name 19) (m_bytes 19) (m_maxL 19) (m_retT 19)) := rfl
set_option maxRecDepth 100000 in
theorem m_cd_20 : lw_tbl[757]? = some (.code (m_name 20) (m_bytes 20) (m_maxL 20) (m_retT 20)) := rfl
set_option maxRecDepth 100000 in
theorem m_cd_21 : lw_tbl[752]? = some (.code (m_name 21) (m_bytes 21) (m_maxL 21) (m_retT 21)) := rfl
set_option maxRecDepth 100000 in
theorem m_cd_22 : lw_tbl[565]? = some (.code (m_name 22) (m_bytes 22) (m_maxL 22) (m_retT 22)) := rfl
set_option maxRecDepth 100000 in
theorem m_cd_23 : lw_tbl[576]? = some (.code (m_name 23) (m_bytes 23) (m_maxL 23) (m_retT 23)) := rfl
set_option maxRecDepth 100000 in
theorem m_cd_24 : lw_tbl[427]? = some (.code (m_name 24) (m_bytes 24) (m_maxL 24) (m_retT 24)) := rfl
set_option maxRecDepth 100000 in
theorem m_cd_25 : lw_tbl[614]? = some (.code (m_name 25) (m_bytes 25) (m_maxL 25) (m_retT 25)) := rfl
set_option maxRecDepth 100000 in
theorem m_cd_26 : lw_tbl[619]? = some (.code (m_name 26) (m_bytes 26) (m_maxL 26) (m_retT 26)) := rfl
set_option maxRecDepth 100000 in
theorem m_cd_27 : lw_tbl[623]? = some (.code (m_name 27) (m_bytes 27) (m_maxL 27) (m_retT 27)) := rfl
set_option maxRecDepth 100000 in
theorem m_cd_28 : lw_tbl[672]? = some (.code (m_name 28) (m_bytes 28) (m_maxL 28) (m_retT 28)) := rfl
set_option maxRecDepth 100000 in
theorem m_cd_29 : lw_tbl[635]? = some (.code (m_name 29) (m_bytes 29) (m_maxL 29) (m_retT 29)) := rfl
set_option maxRecDepth 100000 in
theorem m_cd_30 : lw_tbl[640]? = some (.code (m_name 30) (m_bytes 30) (m_maxL 30) (m_retT 30)) := rfl
set_option maxRecDepth 100000 in
theorem m_cd_31 : lw_tbl[648]? = some (.code (m_name 31) (m_bytes 31) (m_maxL 31) (m_retT 31)) := rfl
set_option maxRecDepth 100000 in
theorem m_cd_32 : lw_tbl[644]? = some (.code (m_name 32) (m_bytes 32) (m_maxL 32) (m_retT 32)) := rfl
set_option maxRecDepth 100000 in
theorem m_cd_33 : lw_tbl[653]? = some (.code (m_name 33) (m_bytes 33) (m_maxL 33) (m_retT 33)) := rfl
set_option maxRecDepth 100000 in
theorem m_cd_34 : lw_tbl[663]? = some (.code (m_name 34) (m_bytes 34) (m_maxL 34) (m_retT 34)) := rfl
set_option maxRecDepth 100000 in
theorem m_cd_35 : lw_tbl[659]? = some (.code (m_name 35) (m_bytes 35) (m_maxL 35) (m_retT 35)) := rfl
set_option maxRecDepth 100000 in
theorem m_cd_36 : lw_tbl[211]? = some (.code (m_name 36) (m_bytes 36) (m_maxL 36) (m_retT 36)) := rfl
set_option maxRecDepth 100000 in
theorem m_cd_37 : lw_tbl[226]? = some (.code (m_name 37) (m_bytes 37) (m_maxL 37) (m_retT 37)) := rfl
set_option maxRecDepth 100000 in
theorem m_cd_38 : lw_tbl[242]? = some (.code (m_name 38) (m_bytes 38) (m_maxL 38) (m_retT 38)) := rfl
set_option maxRecDepth 100000 in
theorem m_cd_39 : lw_tbl[246]? = some (.code (m_name 39) (m_bytes 39) (m_maxL 39) (m_retT 39)) := rfl
set_option maxRecDepth 100000 in
theorem m_cd_40 : lw_tbl[311]? = some (.code (m_name 40) (m_bytes 40) (m_maxL 40) (m_retT 40)) := rfl
set_option maxRecDepth 100000 in
theorem m_cd_41 : lw_tbl[331]? = some (.code (m_name 41) (m_bytes 41) (m_maxL 41) (m_retT 41)) := rfl
set_option maxRecDepth 100000 in
theorem m_cd_42 : lw_tbl[335]? = some (.code (m_name 42) (m_bytes 42) (m_maxL 42) (m_retT 42)) := rfl
set_option maxRecDepth 100000 in
theorem m_cd_43 : lw_tbl[347]? = some (.code (m_name 43) (m_bytes 43) (m_maxL 43) (m_retT 43)) := rfl
set_option maxRecDepth 100000 in
theorem m_cd_44 : lw_tbl[315]? = some (.code (m_name 44) (m_bytes 44) (m_maxL 44) (m_retT 44)) := rfl
set_option maxRecDepth 100000 in
theorem m_cd_45 : lw_tbl[327]? = some (.code (m_name 45) (m_bytes 45) (m_maxL 45) (m_retT 45)) := rfl
set_option maxRecDepth 100000 in
theorem m_cd_46 : lw_tbl[319]? = some (.code (m_name 46) (m_bytes 46) (m_maxL 46) (m_retT 46)) := rfl
set_option maxRecDepth 100000 in
theorem m_cd_47 : lw_tbl[323]? = some (.code (m_name 47) (m_bytes 47) (m_maxL 47) (m_retT 47)) := rfl
set_option maxRecDepth 100000 in
theorem m_cd_48 : lw_tbl[389]? = some (.code (m_name 48) (m_bytes 48) (m_maxL 48) (m_retT 48)) := rfl
set_option maxRecDepth 100000 in
theorem m_cd_49 : lw_tbl[493]? = some (.code (m_name 49) (m_bytes 49) (m_maxL 49) (m_retT 49)) := rfl
set_option maxRecDepth 100000 in
theorem m_cd_50 : lw_tbl[547]? = some (.code (m_name 50) (m_bytes 50) (m_maxL 50) (m_retT 50)) := rfl
set_option maxRecDepth 100000 in
theorem m_cd_51 : lw_tbl[602]? = some (.code (m_name 51) (m_bytes 51) (m_maxL 51) (m_retT 51)) := rfl
set_option maxRecDepth 100000 in
theorem m_cd_52 : lw_tbl[410]? = some (.code (m_name 52) (m_bytes 52) (m_maxL 52) (m_retT 52)) := rfl
set_option maxRecDepth 100000 in
theorem m_cd_53 : lw_tbl[703]? = some (.code (m_name 53) (m_bytes 53) (m_maxL 53) (m_retT 53)) := rfl
set_option maxRecDepth 100000 in
theorem m_cd_54 : lw_tbl[715]? = some (.code (m_name 54) (m_bytes 54) (m_maxL 54) (m_retT 54)) := rfl
set_option maxRecDepth 100000 in
theorem m_cd_55 : lw_tbl[65]? = some (.code (m_name 55) (m_bytes 55) (m_maxL 55) (m_retT 55)) := rfl
set_option maxRecDepth 100000 in
theorem m_cd_56 : lw_tbl[129]? = some (.code (m_name 56) (m_bytes 56) (m_maxL 56) (m_retT 56)) := rfl
set_option maxRecDepth 100000 in
theorem m_cd_57 : lw_tbl[238]? = some (.code (m_name 57) (m_bytes 57) (m_maxL 57) (m_retT 57)) := rfl
set_option maxRecDepth 100000 in
theorem m_cd_58 : lw_tbl[54]? = some (.code (m_name 58) (m_bytes 58) (m_maxL 58) (m_retT 58)) := rfl
set_option maxRecDepth 100000 in
theorem m_cd_59 : lw_tbl[477]? = some (.code (m_name 59) (m_bytes 59) (m_maxL 59) (m_retT 59)) := rfl
set_option maxRecDepth 100000 in
theorem m_cd_60 : lw_tbl[481]? = some (.code (m_name 60) (m_bytes 60) (m_maxL 60) (m_retT 60)) := rfl
set_option maxRecDepth 100000 in
theorem m_cd_61 : lw_tbl[485]? = some (.code (m_name 61) (m_bytes 61) (m_maxL 61) (m_retT 61)) := rfl
set_option maxRecDepth 100000 in
theorem m_cd_62 : lw_tbl[489]? = some (.code (m_name 62) (m_bytes 62) (m_maxL 62) (m_retT 62)) := rfl
set_option maxRecDepth 100000 in
theorem m_cd_63 : lw_tbl[497]? = some (.code (m_name 63) (m_bytes 63) (m_maxL 63) (m_retT 63)) := rfl
set_option maxRecDepth 100000 in
theorem m_cd_64 : lw_tbl[505]? = some (.code (m_name 64) (m_bytes 64) (m_maxL 64) (m_retT 64)) := rfl
set_option maxRecDepth 100000 in
theorem m_cd_65 : lw_tbl[531]? = some (.code (m_name 65) (m_bytes 65) (m_maxL 65) (m_retT 65)) := rfl
set_option maxRecDepth 100000 in
theorem m_cd_66 : lw_tbl[543]? = some (.code (m_name 66) (m_bytes 66) (m_maxL 66) (m_retT 66)) := rfl
set_option maxRecDepth 100000 in
theorem m_cd_67 : lw_tbl[561]? = some (.code (m_name 67) (m_bytes 67) (m_maxL 67) (m_retT 67)) := rfl
set_option maxRecDepth 100000 in
theorem m_cd_68 : lw_tbl[581]? = some (.code (m_name 68) (m_bytes 68) (m_maxL 68) (m_retT 68)) := rfl
set_option maxRecDepth 100000 in
theorem m_cd_69 : lw_tbl[585]? = some (.code (m_name 69) (m_bytes 69) (m_maxL 69) (m_retT 69)) := rfl
set_option maxRecDepth 100000 in
theorem m_cd_70 : lw_tbl[598]? = some (.code (m_name 70) (m_bytes 70) (m_maxL 70) (m_retT 70)) := rfl
set_option maxRecDepth 100000 in
theorem m_cd_71 : lw_tbl[606]? = some (.code (m_name 71) (m_bytes 71) (m_maxL 71) (m_retT 71)) := rfl
set_option maxRecDepth 100000 in
theorem m_cd_72 : lw_tbl[610]? = some (.code (m_name 72) (m_bytes 72) (m_maxL 72) (m_retT 72)) := rfl
set_option maxRecDepth 100000 in
theorem m_cd_73 : lw_tbl[627]? = some (.code (m_name 73) (m_bytes 73) (m_maxL 73) (m_retT 73)) := rfl
set_option maxRecDepth 100000 in
theorem m_cd_74 : lw_tbl[667]? = some (.code (m_name 74) (m_bytes 74) (m_maxL 74) (m_retT 74)) := rfl
set_option maxRecDepth 100000 in
theorem m_cd_75 : lw_tbl[676]? = some (.code (m_name 75) (m_bytes 75) (m_maxL 75) (m_retT 75)) := rfl
set_option maxRecDepth 100000 in
theorem m_cd_76 : lw_tbl[681]? = some (.code (m_name 76) (m_bytes 76) (m_maxL 76) (m_retT 76)) := rfl
set_option maxRecDepth 100000 in
theorem m_cd_77 : lw_tbl[690]? = some (.code (m_name 77) (m_bytes 77) (m_maxL 77) (m_retT 77)) := rfl
set_option maxRecDepth 100000 in
theorem m_cd_78 : lw_tbl[699]? = some (.code (m_name 78) (m_bytes 78) (m_maxL 78) (m_retT 78)) := rfl
set_option maxRecDepth 100000 in
theorem m_cd_79 : lw_tbl[707]? = some (.code (m_name 79) (m_bytes 79) (m_maxL 79) (m_retT 79)) := rfl
set_option maxRecDepth 100000 in
theorem m_cd_80 : lw_tbl[711]? = some (.code (m_name 80) (m_bytes 80) (m_maxL 80) (m_retT 80)) := rfl
set_option maxRecDepth 100000 in
theorem m_cd_81 : lw_tbl[721]? = some (.code (m_name 81) (m_bytes 81) (m_maxL 81) (m_retT 81)) := rfl
set_option maxRecDepth 100000 in
theorem m_cd_82 : lw_tbl[725]? = some (.code (m_name 82) (m_bytes 82) (m_maxL 82) (m_retT 82)) := rfl
set_option maxRecDepth 100000 in
theorem m_cd_83 : lw_tbl[738]? = some (.code (m_name 83) (m_bytes 83) (m_maxL 83) (m_retT 83)) := rfl
set_option maxRecDepth 100000 in
theorem m_cd_84 : lw_tbl[761]? = some (.code (m_name 84) (m_bytes 84) (m_maxL 84) (m_retT 84)) := rfl
set_option maxRecDepth 100000 in
theorem m_cd_85 : lw_tbl[765]? = some (.code (m_name 85) (m_bytes 85) (m_maxL 85) (m_retT 85)) := rfl
set_option maxRecDepth 100000 in
theorem m_cd_86 : lw_tbl[769]? = some (.code (m_name 86) (m_bytes 86) (m_maxL 86) (m_retT 86)) := rfl
set_option maxRecDepth 100000 in
theorem m_cd_87 : lw_tbl[60]? = some (.code (m_name 87) (m_bytes 87) (m_maxL 87) (m_retT 87)) := rfl
set_option maxRecDepth 100000 in
theorem m_cd_88 : lw_tbl[350]? = some (.code (m_name 88) (m_bytes 88) (m_maxL 88) (m_retT 88)) := rfl
set_option maxRecDepth 100000 in
theorem m_cd_89 : lw_tbl[631]? = some (.code (m_name 89) (m_bytes 89) (m_maxL 89) (m_retT 89)) := rfl
set_option maxRecDepth 100000 in
theorem m_cd_90 : lw_tbl[685]? = some (.code (m_name 90) (m_bytes 90) (m_maxL 90) (m_retT 90)) := rfl
set_option maxRecDepth 100000 in
theorem m_cd_91 : lw_tbl[695]? = some (.code (m_name 91) (m_bytes 91) (m_maxL 91) (m_retT 91)) := rfl
set_option maxRecDepth 100000 in
theorem m_cd_92 : lw_tbl[729]? = some (.code (m_name 92) (m_bytes 92) (m_maxL 92) (m_retT 92)) := rfl
set_option maxRecDepth 100000 in
theorem m_cd_93 : lw_tbl[734]? = some (.code (m_name 93) (m_bytes 93) (m_maxL 93) (m_retT 93)) := rfl
set_option maxRecDepth 100000 in
theorem m_cd_94 : lw_tbl[741]? = some (.code (m_name 94) (m_bytes 94) (m_maxL 94) (m_retT 94)) := rfl
set_option maxRecDepth 100000 in
theorem m_cd_95 : lw_tbl[748]? = some (.code (m_name 95) (m_bytes 95) (m_maxL 95) (m_retT 95)) := rfl
set_option maxRecDepth 100000 in
theorem m_cd_96 : lw_tbl[774]? = some (.code (m_name 96) (m_bytes 96) (m_maxL 96) (m_retT 96)) := rfl
set_option maxRecDepth 100000 in
theorem m_cd_97 : lw_tbl[783]? = some (.code (m_name 97) (m_bytes 97) (m_maxL 97) (m_retT 97)) := rfl
set_option maxRecDepth 100000 in
theorem m_cd_98 : lw_tbl[787]? = some (.code (m_name 98) (m_bytes 98) (m_maxL 98) (m_retT 98)) := rfl
set_option maxRecDepth 100000 in
theorem m_cd_99 : lw_tbl[791]? = some (.code (m_name 99) (m_bytes 99) (m_maxL 99) (m_retT 99)) := rfl
set_option maxRecDepth 100000 in
theorem m_cd_100 : lw_tbl[914]? = some (.code (m_name 100) (m_bytes 100) (m_maxL 100) (m_retT 100)) := rfl
set_option maxRecDepth 100000 in
theorem m_cd_101 : lw_tbl[1072]? = some (.code (m_name 101) (m_bytes 101) (m_maxL 101) (m_retT 101)) := rfl
set_option maxRecDepth 100000 in
theorem m_cd_102 : lw_tbl[981]? = some (.code (m_name 102) (m_bytes 102) (m_maxL 102) (m_retT 102)) := rfl
set_option maxRecDepth 100000 in
theorem m_cd_103 : lw_tbl[1005]? = some (.code (m_name 103) (m_bytes 103) (m_maxL 103) (m_retT 103)) := rfl
set_option maxRecDepth 100000 in
theorem m_cd_104 : lw_tbl[1083]? = some (.code (m_name 104) (m_bytes 104) (m_maxL 104) (m_retT 104)) := rfl
set_option maxRecDepth 100000 in
theorem m_cd_105 : lw_tbl[911]? = some (.code (m_name 105) (m_bytes 105) (m_maxL 105) (m_retT 105)) := rfl
set_option maxRecDepth 100000 in
theorem m_cd_106 : lw_tbl[918]? = some (.code (m_name 106) (m_bytes 106) (m_maxL 106) (m_retT 106)) := rfl
set_option maxRecDepth 100000 in
theorem m_cd_107 : lw_tbl[930]? = some (.code (m_name 107) (m_bytes 107) (m_maxL 107) (m_retT 107)) := rfl
set_option maxRecDepth 100000 in
theorem m_cd_108 : lw_tbl[948]? = some (.code (m_name 108) (m_bytes 108) (m_maxL 108) (m_retT 108)) := rfl
set_option maxRecDepth 100000 in
theorem m_cd_109 : lw_tbl[945]? = some (.code (m_name 109) (m_bytes 109) (m_maxL 109) (m_retT 109)) := rfl
set_option maxRecDepth 100000 in
theorem m_cd_110 : lw_tbl[952]? = some (.code (m_name 110) (m_bytes 110) (m_maxL 110) (m_retT 110)) := rfl
set_option maxRecDepth 100000 in
theorem m_cd_111 : lw_tbl[779]? = some (.code (m_name 111) (m_bytes 111) (m_maxL 111) (m_retT 111)) := rfl
set_option maxRecDepth 100000 in
theorem m_cd_112 : lw_tbl[937]? = some (.code (m_name 112) (m_bytes 112) (m_maxL 112) (m_retT 112)) := rfl
set_option maxRecDepth 100000 in
theorem m_cd_113 : lw_tbl[934]? = some (.code (m_name 113) (m_bytes 113) (m_maxL 113) (m_retT 113)) := rfl
set_option maxRecDepth 100000 in
theorem m_cd_114 : lw_tbl[941]? = some (.code (m_name 114) (m_bytes 114) (m_maxL 114) (m_retT 114)) := rfl
set_option maxRecDepth 100000 in
theorem m_cd_115 : lw_tbl[956]? = some (.code (m_name 115) (m_bytes 115) (m_maxL 115) (m_retT 115)) := rfl
set_option maxRecDepth 100000 in
theorem m_cd_116 : lw_tbl[960]? = some (.code (m_name 116) (m_bytes 116) (m_maxL 116) (m_retT 116)) := rfl
set_option maxRecDepth 100000 in
theorem m_cd_117 : lw_tbl[964]? = some (.code (m_name 117) (m_bytes 117) (m_maxL 117) (m_retT 117)) := rfl
set_option maxRecDepth 100000 in
theorem m_cd_118 : lw_tbl[926]? = some (.code (m_name 118) (m_bytes 118) (m_maxL 118) (m_retT 118)) := rfl
set_option maxRecDepth 100000 in
theorem m_cd_119 : lw_tbl[922]? = some (.code (m_name 119) (m_bytes 119) (m_maxL 119) (m_retT 119)) := rfl
set_option maxRecDepth 100000 in
theorem m_cd_120 : lw_tbl[968]? = some (.code (m_name 120) (m_bytes 120) (m_maxL 120) (m_retT 120)) := rfl
set_option maxRecDepth 100000 in
theorem m_cd_121 : lw_tbl[798]? = some (.code (m_name 121) (m_bytes 121) (m_maxL 121) (m_retT 121)) := rfl
set_option maxRecDepth 100000 in
theorem m_cd_122 : lw_tbl[795]? = some (.code (m_name 122) (m_bytes 122) (m_maxL 122) (m_retT 122)) := rfl
set_option maxRecDepth 100000 in
theorem m_cd_123 : lw_tbl[989]? = some (.code (m_name 123) (m_bytes 123) (m_maxL 123) (m_retT 123)) := rfl
set_option maxRecDepth 100000 in
theorem m_cd_124 : lw_tbl[985]? = some (.code (m_name 124) (m_bytes 124) (m_maxL 124) (m_retT 124)) := rfl
set_option maxRecDepth 100000 in
theorem m_cd_125 : lw_tbl[997]? = some (.code (m_name 125) (m_bytes 125) (m_maxL 125) (m_retT 125)) := rfl
set_option maxRecDepth 100000 in
theorem m_cd_126 : lw_tbl[993]? = some (.code (m_name 126) (m_bytes 126) (m_maxL 126) (m_retT 126)) := rfl
set_option maxRecDepth 100000 in
theorem m_cd_127 : lw_tbl[973]? = some (.code (m_name 127) (m_bytes 127) (m_maxL 127) (m_retT 127)) := rfl
set_option maxRecDepth 100000 in
theorem m_cd_128 : lw_tbl[977]? = some (.code (m_name 128) (m_bytes 128) (m_maxL 128) (m_retT 128)) := rfl
set_option maxRecDepth 100000 in
theorem m_cd_129 : lw_tbl[1009]? = some (.code (m_name 129) (m_bytes 129) (m_maxL 129) (m_retT 129)) := rfl
set_option maxRecDepth 100000 in
theorem m_cd_130 : lw_tbl[1001]? = some (.code (m_name 130) (m_bytes 130) (m_maxL 130) (m_retT 130)) := rfl
set_option maxRecDepth 100000 in
theorem m_cd_131 : lw_tbl[1017]? = some (.code (m_name 131) (m_bytes 131) (m_maxL 131) (m_retT 131)) := rfl
set_option maxRecDepth 100000 in
theorem m_cd_132 : lw_tbl[1021]? = some (.code (m_name 132) (m_bytes 132) (m_maxL 132) (m_retT 132)) := rfl
set_option maxRecDepth 100000 in
theorem m_cd_133 : lw_tbl[1013]? = some (.code (m_name 133) (m_bytes 133) (m_maxL 133) (m_retT 133)) := rfl
set_option maxRecDepth 100000 in
theorem m_cd_134 : lw_tbl[1029]? = some (.code (m_name 134) (m_bytes 134) (m_maxL 134) (m_retT 134)) := rfl
set_option maxRecDepth 100000 in
theorem m_cd_135 : lw_tbl[1037]? = some (.code (m_name 135) (m_bytes 135) (m_maxL 135) (m_retT 135)) := rfl
set_option maxRecDepth 100000 in
theorem m_cd_136 : lw_tbl[1033]? = some (.code (m_name 136) (m_bytes 136) (m_maxL 136) (m_retT 136)) := rfl
set_option maxRecDepth 100000 in
theorem m_cd_137 : lw_tbl[1025]? = some (.code (m_name 137) (m_bytes 137) (m_maxL 137) (m_retT 137)) := rfl
set_option maxRecDepth 100000 in
theorem m_cd_138 : lw_tbl[1041]? = some (.code (m_name 138) (m_bytes 138) (m_maxL 138) (m_retT 138)) := rfl
set_option maxRecDepth 100000 in
theorem m_cd_139 : lw_tbl[1045]? = some (.code (m_name 139) (m_bytes 139) (m_maxL 139) (m_retT 139)) := rfl
set_option maxRecDepth 100000 in
theorem m_cd_140 : lw_tbl[1049]? = some (.code (m_name 140) (m_bytes 140) (m_maxL 140) (m_retT 140)) := rfl
set_option maxRecDepth 100000 in
theorem m_cd_141 : lw_tbl[1053]? = some (.code (m_name 141) (m_bytes 141) (m_maxL 141) (m_retT 141)) := rfl
set_option maxRecDepth 100000 in
theorem m_cd_142 : lw_tbl[1057]? = some (.code (m_name 142) (m_bytes 142) (m_maxL 142) (m_retT 142)) := rfl
set_option maxRecDepth 100000 in
theorem m_cd_143 : lw_tbl[1069]? = some (.code (m_name 143) (m_bytes 143) (m_maxL 143) (m_retT 143)) := rfl
set_option maxRecDepth 100000 in
theorem m_cd_144 : lw_tbl[1076]? = some (.code (m_name 144) (m_bytes 144) (m_maxL 144) (m_retT 144)) := rfl
set_option maxRecDepth 100000 in
theorem m_cd_145 : lw_tbl[1065]? = some (.code (m_name 145) (m_bytes 145) (m_maxL 145) (m_retT 145)) := rfl
set_option maxRecDepth 100000 in
theorem m_cd_146 : lw_tbl[1061]? = some (.code (m_name 146) (m_bytes 146) (m_maxL 146) (m_retT 146)) := rfl
set_option maxRecDepth 100000 in
theorem m_cd_147 : lw_tbl[1080]? = some (.code (m_name 147) (m_bytes 147) (m_maxL 147) (m_retT 147)) := rfl
set_option maxRecDepth 100000 in
theorem m_cd_148 : lw_tbl[1087]? = some (.code (m_name 148) (m_bytes 148) (m_maxL 148) (m_retT 148)) := rfl
set_option maxRecDepth 100000 in
theorem m_cd_149 : lw_tbl[1091]? = some (.code (m_name 149) (m_bytes 149) (m_maxL 149) (m_retT 149)) := rfl
set_option maxRecDepth 100000 in
theorem m_cd_150 : lw_tbl[1095]? = some (.code (m_name 150) (m_bytes 150) (m_maxL 150) (m_retT 150)) := rfl
set_option maxRecDepth 100000 in
theorem m_cd_151 : lw_tbl[1099]? = some (.code (m_name 151) (m_bytes 151) (m_maxL 151) (m_retT 151)) := rfl
set_option maxRecDepth 100000 in
theorem m_cd_152 : lw_tbl[1103]? = some (.code (m_name 152) (m_bytes 152) (m_maxL 152) (m_retT 152)) := rfl
set_option maxRecDepth 100000 in
theorem m_cd_153 : lw_tbl[1107]? = some (.code (m_name 153) (m_bytes 153) (m_maxL 153) (m_retT 153)) := rfl
set_option maxRecDepth 100000 in
theorem m_cd_154 : lw_tbl[1111]? = some (.code (m_name 154) (m_bytes 154) (m_maxL 154) (m_retT 154)) := rfl
set_option maxRecDepth 100000 in
theorem m_cd_155 : lw_tbl[1115]? = some (.code (m_name 155) (m_bytes 155) (m_maxL 155) (m_retT 155)) := rfl
set_option maxRecDepth 100000 in
theorem m_cd_156 : lw_tbl[1119]? = some (.code (m_name 156) (m_bytes 156) (m_maxL 156) (m_retT 156)) := rfl
set_option maxRecDepth 100000 in
theorem m_cd_157 : lw_tbl[1126]? = some (.code (m_name 157) (m_bytes 157) (m_maxL 157) (m_retT 157)) := rfl
set_option maxRecDepth 100000 in
theorem m_cd_158 : lw_tbl[1130]? = some (.code (m_name 158) (m_bytes 158) (m_maxL 158) (m_retT 158)) := rfl
set_option maxRecDepth 100000 in
theorem m_cd_159 : lw_tbl[1134]? = some (.code (m_name 159) (m_bytes 159) (m_maxL 159) (m_retT 159)) := rfl
set_option maxRecDepth 100000 in
theorem m_cd_160 : lw_tbl[1138]? = some (.code (m_name 160) (m_bytes 160) (m_maxL 160) (m_retT 160)) := rfl
set_option maxRecDepth 100000 in
theorem m_cd_161 : lw_tbl[521]? = some (.code (m_name 161) (m_bytes 161) (m_maxL 161) (m_retT 161)) := rfl
set_option maxRecDepth 100000 in
theorem m_cd_162 : lw_tbl[265]? = some (.code (m_name 162) (m_bytes 162) (m_maxL 162) (m_retT 162)) := rfl
set_option maxRecDepth 100000 in
theorem m_cd_163 : lw_tbl[268]? = some (.code (m_name 163) (m_bytes 163) (m_maxL 163) (m_retT 163)) := rfl
theorem m_cd (y : Nat) (hy : y < 164) : Cond.code (m_name y) (m_bytes y) (m_maxL y) (m_retT y) ∈ lw_tbl := match y, hy with
  | 0, _ => List.mem_of_getElem? m_cd_0
  | 1, _ => List.mem_of_getElem? m_cd_1
  | 2, _ => List.mem_of_getElem? m_cd_2
  | 3, _ => List.mem_of_getElem? m_cd_3
  | 4, _ => List.mem_of_getElem? m_cd_4
  | 5, _ => List.mem_of_getElem? m_cd_5
  | 6, _ => List.mem_of_getElem? m_cd_6
  | 7, _ => List.mem_of_getElem? m_cd_7
  | 8, _ => List.mem_of_getElem? m_cd_8
  | 9, _ => List.mem_of_getElem? m_cd_9
  | 10, _ => List.mem_of_getElem? m_cd_10
  | 11, _ => List.mem_of_getElem? m_cd_11
  | 12, _ => List.mem_of_getElem? m_cd_12
  | 13, _ => List.mem_of_getElem? m_cd_13
  | 14, _ => List.mem_of_getElem? m_cd_14
  | 15, _ => List.mem_of_getElem? m_cd_15
  | 16, _ => List.mem_of_getElem? m_cd_16
  | 17, _ => List.mem_of_getElem? m_cd_17
  | 18, _ => List.mem_of_getElem? m_cd_18
  | 19, _ => List.mem_of_getElem? m_cd_19
  | 20, _ => List.mem_of_getElem? m_cd_20
  | 21, _ => List.mem_of_getElem? m_cd_21
  | 22, _ => List.mem_of_getElem? m_cd_22
  | 23, _ => List.mem_of_getElem? m_cd_23
  | 24, _ => List.mem_of_getElem? m_cd_24
  | 25, _ => List.mem_of_getElem? m_cd_25
  | 26, _ => List.mem_of_getElem? m_cd_26
  | 27, _ => List.mem_of_getElem? m_cd_27
  | 28, _ => List.mem_of_getElem? m_cd_28
  | 29, _ => List.mem_of_getElem? m_cd_29
  | 30, _ => List.mem_of_getElem? m_cd_30
  | 31, _ => List.mem_of_getElem? m_cd_31
  | 32, _ => List.mem_of_getElem? m_cd_32
  | 33, _ => List.mem_of_getElem? m_cd_33
  | 34, _ => List.mem_of_getElem? m_cd_34
  | 35, _ => List.mem_of_getElem? m_cd_35
  | 36, _ => List.mem_of_getElem? m_cd_36
  | 37, _ => List.mem_of_getElem? m_cd_37
  | 38, _ => List.mem_of_getElem? m_cd_38
  | 39, _ => List.mem_of_getElem? m_cd_39
  | 40, _ => List.mem_of_getElem? m_cd_40
  | 41, _ => List.mem_of_getElem? m_cd_41
  | 42, _ => List.mem_of_getElem? m_cd_42
  | 43, _ => List.mem_of_getElem? m_cd_43
  | 44, _ => List.mem_of_getElem? m_cd_44
  | 45, _ => List.mem_of_getElem? m_cd_45
  | 46, _ => List.mem_of_getElem? m_cd_46
  | 47, _ => List.mem_of_getElem? m_cd_47
  | 48, _ => List.mem_of_getElem? m_cd_48
  | 49, _ => List.mem_of_getElem? m_cd_49
  | 50, _ => List.mem_of_getElem? m_cd_50
  | 51, _ => List.mem_of_getElem? m_cd_51
  | 52, _ => List.mem_of_getElem? m_cd_52
  | 53, _ => List.mem_of_getElem? m_cd_53
  | 54, _ => List.mem_of_getElem? m_cd_54
  | 55, _ => List.mem_of_getElem? m_cd_55
  | 56, _ => List.mem_of_getElem? m_cd_56
  | 57, _ => List.mem_of_getElem? m_cd_57
  | 58, _ => List.mem_of_getElem? m_cd_58
  | 59, _ => List.mem_of_getElem? m_cd_59
  | 60, _ => List.mem_of_getElem? m_cd_60
  | 61, _ => List.mem_of_getElem? m_cd_61
  | 62, _ => List.mem_of_getElem? m_cd_62
  | 63, _ => List.mem_of_getElem? m_cd_63
  | 64, _ => List.mem_of_getElem? m_cd_64
  | 65, _ => List.mem_of_getElem? m_cd_65
  | 66, _ => List.mem_of_getElem? m_cd_66
  | 67, _ => List.mem_of_getElem? m_cd_67
  | 68, _ => List.mem_of_getElem? m_cd_68
  | 69, _ => List.mem_of_getElem? m_cd_69
  | 70, _ => List.mem_of_getElem? m_cd_70
  | 71, _ => List.mem_of_getElem? m_cd_71
  | 72, _ => List.mem_of_getElem? m_cd_72
  | 73, _ => List.mem_of_getElem? m_cd_73
  | 74, _ => List.mem_of_getElem? m_cd_74
  | 75, _ => List.mem_of_getElem? m_cd_75
  | 76, _ => List.mem_of_getElem? m_cd_76
  | 77, _ => List.mem_of_getElem? m_cd_77
  | 78, _ => List.mem_of_getElem? m_cd_78
  | 79, _ => List.mem_of_getElem? m_cd_79
  | 80, _ => List.mem_of_getElem? m_cd_80
  | 81, _ => List.mem_of_getElem? m_cd_81
  | 82, _ => List.mem_of_getElem? m_cd_82
  | 83, _ => List.mem_of_getElem? m_cd_83
  | 84, _ => List.mem_of_getElem? m_cd_84
  | 85, _ => List.mem_of_getElem? m_cd_85
  | 86, _ => List.mem_of_getElem? m_cd_86
  | 87, _ => List.mem_of_getElem? m_cd_87
  | 88, _ => List.mem_of_getElem? m_cd_88
  | 89, _ => List.mem_of_getElem? m_cd_89
  | 90, _ => List.mem_of_getElem? m_cd_90
  | 91, _ => List.mem_of_getElem? m_cd_91
  | 92, _ => List.mem_of_getElem? m_cd_92
  | 93, _ => List.mem_of_getElem? m_cd_93
  | 94, _ => List.mem_of_getElem? m_cd_94
  | 95, _ => List.mem_of_getElem? m_cd_95
  | 96, _ => List.mem_of_getElem? m_cd_96
  | 97, _ => List.mem_of_getElem? m_cd_97
  | 98, _ => List.mem_of_getElem? m_cd_98
  | 99, _ => List.mem_of_getElem? m_cd_99
  | 100, _ => List.mem_of_getElem? m_cd_100
  | 101, _ => List.mem_of_getElem? m_cd_101
  | 102, _ => List.mem_of_getElem? m_cd_102
  | 103, _ => List.mem_of_getElem? m_cd_103
  | 104, _ => List.mem_of_getElem? m_cd_104
  | 105, _ => List.mem_of_getElem? m_cd_105
  | 106, _ => List.mem_of_getElem? m_cd_106
  | 107, _ => List.mem_of_getElem? m_cd_107
  | 108, _ => List.mem_of_getElem? m_cd_108
  | 109, _ => List.mem_of_getElem? m_cd_109
  | 110, _ => List.mem_of_getElem? m_cd_110
  | 111, _ => List.mem_of_getElem? m_cd_111
  | 112, _ => List.mem_of_getElem? m_cd_112
  | 113, _ => List.mem_of_getElem? m_cd_113
  | 114, _ => List.mem_of_getElem? m_cd_114
  | 115, _ => List.mem_of_getElem? m_cd_115
  | 116, _ => List.mem_of_getElem? m_cd_116
  | 117, _ => List.mem_of_getElem? m_cd_117
  | 118, _ => List.mem_of_getElem? m_cd_118
  | 119, _ => List.mem_of_getElem? m_cd_119
  | 120, _ => List.mem_of_getElem? m_cd_120
  | 121, _ => List.mem_of_getElem? m_cd_121
  | 122, _ => List.mem_of_getElem? m_cd_122
  | 123, _ => List.mem_of_getElem? m_cd_123
  | 124, _ => List.mem_of_getElem? m_cd_124
  | 125, _ => List.mem_of_getElem? m_cd_125
  | 126, _ => List.mem_of_getElem? m_cd_126
  | 127, _ => List.mem_of_getElem? m_cd_127
  | 128, _ => List.mem_of_getElem? m_cd_128
  | 129, _ => List.mem_of_getElem? m_cd_129
  | 130, _ => List.mem_of_getElem? m_cd_130
  | 131, _ => List.mem_of_getElem? m_cd_131
  | 132, _ => List.mem_of_getElem? m_cd_132
  | 133, _ => List.mem_of_getElem? m_cd_133
  | 134, _ => List.mem_of_getElem? m_cd_134
  | 135, _ => List.mem_of_getElem? m_cd_135
  | 136, _ => List.mem_of_getElem? m_cd_136
  | 137, _ => List.mem_of_getElem? m_cd_137
  | 138, _ => List.mem_of_getElem? m_cd_138
  | 139, _ => List.mem_of_getElem? m_cd_139
  | 140, _ => List.mem_of_getElem? m_cd_140
  | 141, _ => List.mem_of_getElem? m_cd_141
  | 142, _ => List.mem_of_getElem? m_cd_142
  | 143, _ => List.mem_of_getElem? m_cd_143
  | 144, _ => List.mem_of_getElem? m_cd_144
  | 145, _ => List.mem_of_getElem? m_cd_145
  | 146, _ => List.mem_of_getElem? m_cd_146
  | 147, _ => List.mem_of_getElem? m_cd_147
  | 148, _ => List.mem_of_getElem? m_cd_148
  | 149, _ => List.mem_of_getElem? m_cd_149
  | 150, _ => List.mem_of_getElem? m_cd_150
  | 151, _ => List.mem_of_getElem? m_cd_151
  | 152, _ => List.mem_of_getElem? m_cd_152
  | 153, _ => List.mem_of_getElem? m_cd_153
  | 154, _ => List.mem_of_getElem? m_cd_154
  | 155, _ => List.mem_of_getElem? m_cd_155
  | 156, _ => List.mem_of_getElem? m_cd_156
  | 157, _ => List.mem_of_getElem? m_cd_157
  | 158, _ => List.mem_of_getElem? m_cd_158
  | 159, _ => List.mem_of_getElem? m_cd_159
  | 160, _ => List.mem_of_getElem? m_cd_160
  | 161, _ => List.mem_of_getElem? m_cd_161
  | 162, _ => List.mem_of_getElem? m_cd_162
  | 163, _ => List.mem_of_getElem? m_cd_163
  | n + 164, h => absurd h (by omega)
set_option maxRecDepth 100000 in
theorem m_okQ_0 : (List.range 12).all (fun y => (List.range (m_len (y + 0))).all (fun k => m_okP (y + 0) k)) = true := by decide +kernel
set_option maxRecDepth 100000 in
theorem m_okQ_1 : (List.range 12).all (fun y => (List.range (m_len (y + 12))).all (fun k => m_okP (y + 12) k)) = true := by decide +kernel
set_option maxRecDepth 100000 in
theorem m_okQ_2 : (List.range 12).all (fun y => (List.range (m_len (y + 24))).all (fun k => m_okP (y + 24) k)) = true := by decide +kernel
set_option maxRecDepth 100000 in
theorem m_okQ_3 : (List.range 12).all (fun y => (List.range (m_len (y + 36))).all (fun k => m_okP (y + 36) k)) = true := by decide +kernel
set_option maxRecDepth 100000 in
theorem m_okQ_4 : (List.range 12).all (fun y => (List.range (m_len (y + 48))).all (fun k => m_okP (y + 48) k)) = true := by decide +kernel
set_option maxRecDepth 100000 in
theorem m_okQ_5 : (List.range 12).all (fun y => (List.range (m_len (y + 60))).all (fun k => m_okP (y + 60) k)) = true := by decide +kernel
set_option maxRecDepth 100000 in
theorem m_okQ_6 : (List.range 12).all (fun y => (List.range (m_len (y + 72))).all (fun k => m_okP (y + 72) k)) = true := by decide +kernel
set_option maxRecDepth 100000 in
theorem m_okQ_7 : (List.range 12).all (fun y => (List.range (m_len (y + 84))).all (fun k => m_okP (y + 84) k)) = true := by decide +kernel
set_option maxRecDepth 100000 in
theorem m_okQ_8 : (List.range 12).all (fun y => (List.range (m_len (y + 96))).all (fun k => m_okP (y + 96) k)) = true := by decide +kernel
set_option maxRecDepth 100000 in
theorem m_okQ_9 : (List.range 12).all (fun y => (List.range (m_len (y + 108))).all (fun k => m_okP (y + 108) k)) = true := by decide +kernel
set_option maxRecDepth 100000 in
theorem m_okQ_10 : (List.range 12).all (fun y => (List.range (m_len (y + 120))).all (fun k => m_okP (y + 120) k)) = true := by decide +kernel
set_option maxRecDepth 100000 in
theorem m_okQ_11 : (List.range 12).all (fun y => (List.range (m_len (y + 132))).all (fun k => m_okP (y + 132) k)) = true := by decide +kernel
set_option maxRecDepth 100000 in
theorem m_okQ_12 : (List.range 12).all (fun y => (List.range (m_len (y + 144))).all (fun k => m_okP (y + 144) k)) = true := by decide +kernel
set_option maxRecDepth 100000 in
theorem m_okQ_13 : (List.range 8).all (fun y => (List.range (m_len (y + 156))).all (fun k => m_okP (y + 156) k)) = true := by decide +kernel
theorem m_okP_all (y k : Nat) : m_okP y k = true := by
  by_cases hk : k < m_len y
  · have hy : y < 164 := by
      apply Classical.byContradiction
      intro q
      have h1 : Nat.blt y 164 = false := Bool.eq_false_iff.mpr (fun z => q (by rwa [Nat.blt_eq] at z))
      unfold m_len at hk
      rw [h1] at hk
      simp at hk
    by_cases q0 : y < 12
    · exact List.all_eq_true.mp (List.all_eq_true.mp m_okQ_0 y (List.mem_range.mpr q0)) k (List.mem_range.mpr hk)
    by_cases q12 : y < 24
    · have h1 := List.all_eq_true.mp m_okQ_1 (y - 12) (List.mem_range.mpr (by omega))
      rw [show y - 12 + 12 = y by omega] at h1
      exact List.all_eq_true.mp h1 k (List.mem_range.mpr hk)
    by_cases q24 : y < 36
    · have h1 := List.all_eq_true.mp m_okQ_2 (y - 24) (List.mem_range.mpr (by omega))
      rw [show y - 24 + 24 = y by omega] at h1
      exact List.all_eq_true.mp h1 k (List.mem_range.mpr hk)
    by_cases q36 : y < 48
    · have h1 := List.all_eq_true.mp m_okQ_3 (y - 36) (List.mem_range.mpr (by omega))
      rw [show y - 36 + 36 = y by omega] at h1
      exact List.all_eq_true.mp h1 k (List.mem_range.mpr hk)
    by_cases q48 : y < 60
    · have h1 := List.all_eq_true.mp m_okQ_4 (y - 48) (List.mem_range.mpr (by omega))
      rw [show y - 48 + 48 = y by omega] at h1
      exact List.all_eq_true.mp h1 k (List.mem_range.mpr hk)
    by_cases q60 : y < 72
    · have h1 := List.all_eq_true.mp m_okQ_5 (y - 60) (List.mem_range.mpr (by omega))
      rw [show y - 60 + 60 = y by omega] at h1
      exact List.all_eq_true.mp h1 k (List.mem_range.mpr hk)
    by_cases q72 : y < 84
    · have h1 := List.all_eq_true.mp m_okQ_6 (y - 72) (List.mem_range.mpr (by omega))
      rw [show y - 72 + 72 = y by omega] at h1
      exact List.all_eq_true.mp h1 k (List.mem_range.mpr hk)
    by_cases q84 : y < 96
    · have h1 := List.all_eq_true.mp m_okQ_7 (y - 84) (List.mem_range.mpr (by omega))
      rw [show y - 84 + 84 = y by omega] at h1
      exact List.all_eq_true.mp h1 k (List.mem_range.mpr hk)
    by_cases q96 : y < 108
    · have h1 := List.all_eq_true.mp m_okQ_8 (y - 96) (List.mem_range.mpr (by omega))
      rw [show y - 96 + 96 = y by omega] at h1
      exact List.all_eq_true.mp h1 k (List.mem_range.mpr hk)
    by_cases q108 : y < 120
    · have h1 := List.all_eq_true.mp m_okQ_9 (y - 108) (List.mem_range.mpr (by omega))
      rw [show y - 108 + 108 = y by omega] at h1
      exact List.all_eq_true.mp h1 k (List.mem_range.mpr hk)
    by_cases q120 : y < 132
    · have h1 := List.all_eq_true.mp m_okQ_10 (y - 120) (List.mem_range.mpr (by omega))
      rw [show y - 120 + 120 = y by omega] at h1
      exact List.all_eq_true.mp h1 k (List.mem_range.mpr hk)
    by_cases q132 : y < 144
    · have h1 := List.all_eq_true.mp m_okQ_11 (y - 132) (List.mem_range.mpr (by omega))
      rw [show y - 132 + 132 = y by omega] at h1
      exact List.all_eq_true.mp h1 k (List.mem_range.mpr hk)
    by_cases q144 : y < 156
    · have h1 := List.all_eq_true.mp m_okQ_12 (y - 144) (List.mem_range.mpr (by omega))
      rw [show y - 144 + 144 = y by omega] at h1
      exact List.all_eq_true.mp h1 k (List.mem_range.mpr hk)
    by_cases q156 : y < 164
    · have h1 := List.all_eq_true.mp m_okQ_13 (y - 156) (List.mem_range.mpr (by omega))
      rw [show y - 156 + 156 = y by omega] at h1
      exact List.all_eq_true.mp h1 k (List.mem_range.mpr hk)
    exact absurd hy (by omega)
  · have h1 : Nat.blt k (m_len y) = false := Bool.eq_false_iff.mpr (fun z => hk (by rwa [Nat.blt_eq] at z))
    unfold m_okP m_code
    rw [h1]
    rfl
theorem m_okE_of {y k : Nat} {e : ME} (h : m_code y k = some e) : m_okE y k e = true := by
  have h1 := m_okP_all y k
  unfold m_okP at h1
  rw [h] at h1
  exact h1
theorem m_okM_of {y k : Nat} {e : ME} (h : m_code y k = some e) : y < 164 ∧ m_okM y = true := by
  have hy : y < 164 := by
    apply Classical.byContradiction
    intro q
    have h1 : Nat.blt y 164 = false := Bool.eq_false_iff.mpr (fun z => q (by rwa [Nat.blt_eq] at z))
    unfold m_code m_len at h
    rw [h1] at h
    have h2 : Nat.blt k 0 = false := rfl
    simp only [cond_false] at h
    rw [h2] at h
    cases h
  exact ⟨hy, m_okP_0 y hy⟩
def m_tbl : List Cond := lw_tbl.filter goodWord
theorem m_in {w : Cond} (h : w ∈ lw_tbl) (g : goodWord w = true) : w ∈ m_tbl := List.mem_filter.mpr ⟨h, g⟩
theorem m_tblIn : GoodIn m_tbl m_tbl := fun w hw => ⟨hw, good_of_word (List.mem_filter.mp hw).2⟩
theorem m_tbl_lw {w : Cond} (h : w ∈ m_tbl) : w ∈ lw_tbl := (List.mem_filter.mp h).1
set_option maxRecDepth 100000 in
theorem m_fldIn0 : ∀ c, c < 9 → ∀ w ∈ u_ws (m_C c).1 (m_C c).2.1 (m_C c).2.2, w ∈ lw_tbl ∧ goodWord w = true := by decide +kernel
theorem m_fldIn (c : Nat) (hc : c < 9) : ∀ w ∈ u_ws (m_C c).1 (m_C c).2.1 (m_C c).2.2, w ∈ m_tbl := fun w h => m_in (m_fldIn0 c hc w h).1 (m_fldIn0 c hc w h).2
theorem m_clAt : ∀ c, c < 9 → vwCl[c]? = some (m_C c) := fun c hc => match c, hc with
  | 0, _ => rfl
  | 1, _ => rfl
  | 2, _ => rfl
  | 3, _ => rfl
  | 4, _ => rfl
  | 5, _ => rfl
  | 6, _ => rfl
  | 7, _ => rfl
  | 8, _ => rfl
  | n + 9, h => absurd h (by omega)
theorem m_tyAt : ∀ c, c < 9 → ∀ k, k < (m_C c).2.2 → parseFieldDescriptor ((m_C c).2.1 k).2.2.1 = some (m_ty c k) := fun c hc => match c, hc with
  | 0, _ => tyX0_ok
  | 1, _ => tyX1_ok
  | 2, _ => tyX2_ok
  | 3, _ => tyX3_ok
  | 4, _ => tyX4_ok
  | 5, _ => tyX5_ok
  | 6, _ => tyX6_ok
  | 7, _ => tyX7_ok
  | 8, _ => tyX8_ok
  | n + 9, h => absurd h (by omega)
theorem m_nmAt : ∀ c, c < 9 → ∀ a, a < (m_C c).2.2 → ∀ b, b < (m_C c).2.2 → a ≠ b → ((m_C c).2.1 a).2.1 ≠ ((m_C c).2.1 b).2.1 := fun c hc => match c, hc with
  | 0, _ => nmX0
  | 1, _ => nmX1
  | 2, _ => nmX2
  | 3, _ => nmX3
  | 4, _ => nmX4
  | 5, _ => nmX5
  | 6, _ => nmX6
  | 7, _ => nmX7
  | 8, _ => nmX8
  | n + 9, h => absurd h (by omega)
def m_pNew (c : Nat) : Nat := (bif Nat.blt c 4 then (bif Nat.blt c 2 then (bif Nat.blt c 1 then 131 else 356) else (bif Nat.blt c 3 then 424 else 208)) else (bif Nat.blt c 6 then (bif Nat.blt c 5 then 386 else 407) else (bif Nat.blt c 7 then 62 else (bif Nat.blt c 8 then 51 else 771))))
def m_pIn2 (c : Nat) : Nat := (bif Nat.blt c 4 then (bif Nat.blt c 2 then (bif Nat.blt c 1 then 41 else 45) else (bif Nat.blt c 3 then 48 else 42)) else (bif Nat.blt c 6 then (bif Nat.blt c 5 then 46 else 47) else (bif Nat.blt c 7 then 36 else (bif Nat.blt c 8 then 35 else 49))))
set_option maxRecDepth 100000 in
theorem m_newAt : ∀ c, c < 9 → (m_w (m_pNew c) (.instantiable (m_C c).1 (m_C c).2.2) && m_w (m_pIn2 c) (.initialized (m_C c).1)) = true := by decide +kernel
theorem m_mem_int : Cond.arrayClass .int ∈ lw_tbl := List.mem_of_getElem? (i := 206) (by decide +kernel)
theorem m_mem_char : Cond.arrayClass .char ∈ lw_tbl := List.mem_of_getElem? (i := 76) (by decide +kernel)
theorem m_mem_mom : Cond.arrayOver (.object "OracleWheel$Moment") ∈ lw_tbl := List.mem_of_getElem? (i := 393) (by decide +kernel)
theorem m_mem_oc : Cond.code objectInit ⟨#[0xb1]⟩ 1 none ∈ lw_tbl := List.mem_of_getElem? (i := 57) (by decide +kernel)
theorem m_mem_oi : Cond.instanceMethod objectInit ∈ lw_tbl := List.mem_of_getElem? (i := 56) (by decide +kernel)
