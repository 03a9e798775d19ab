/-! the methods, numbered; their code in blocks, each instruction with what its numbers mean -/
abbrev zIns : Type := Instr × List Nat
abbrev m_be_init : Nat := 0
abbrev m_be_arrange : Nat := 1
abbrev m_be_turnToBeTaken : Nat := 2
abbrev m_be_sameKind : Nat := 3
abbrev m_be_layBlocks : Nat := 4
abbrev m_be_takeBeginning : Nat := 5
abbrev m_be_takeCommon : Nat := 6
abbrev m_be_takeRoot : Nat := 7
abbrev m_be_isPower : Nat := 8
abbrev m_be_takeShare : Nat := 9
abbrev m_hi_init : Nat := 10
abbrev m_hi_size : Nat := 11
abbrev m_hi_clear : Nat := 12
abbrev m_hi_remember : Nat := 13
abbrev m_hi_takeBack : Nat := 14
abbrev m_la_init : Nat := 15
abbrev m_la_passedBy : Nat := 16
abbrev m_la_rankOf : Nat := 17
abbrev m_la_letPass : Nat := 18
abbrev m_la_flip : Nat := 19
abbrev m_la_swapRanks : Nat := 20
abbrev m_la_copy : Nat := 21
abbrev m_la_same : Nat := 22
abbrev m_la_howManyPairs : Nat := 23
abbrev m_la_readyLetters : Nat := 24
abbrev m_la_howManyLow : Nat := 25
abbrev m_la_howManyTied : Nat := 26
abbrev m_la_partOf : Nat := 27
abbrev m_la_howManyParts : Nat := 28
abbrev m_la_isFree : Nat := 29
abbrev m_la_howManyFree : Nat := 30
abbrev m_la_drawLots : Nat := 31
abbrev m_nu_init : Nat := 32
abbrev m_nu_lacks : Nat := 33
abbrev m_nu_row : Nat := 34
abbrev m_nu_begin : Nat := 35
abbrev m_pa_init : Nat := 36
abbrev m_pa_told : Nat := 37
abbrev m_pa_readWord : Nat := 38
abbrev m_pa_takeSign : Nat := 39
abbrev m_pa_takeOpening : Nat := 40
abbrev m_pa_takeClosing : Nat := 41
abbrev m_pa_takeTimes : Nat := 42
abbrev m_pa_readRules : Nat := 43
abbrev m_pa_change : Nat := 44
abbrev m_pa_isLetter : Nat := 45
abbrev m_ro_init : Nat := 46
abbrev m_ro_size : Nat := 47
abbrev m_ro_get : Nat := 48
abbrev m_ro_set : Nat := 49
abbrev m_ro_has : Nat := 50
abbrev m_ro_clear : Nat := 51
abbrev m_ro_shorten : Nat := 52
abbrev m_ro_add : Nat := 53
abbrev m_ro_insert : Nat := 54
abbrev m_ro_addTimes : Nat := 55
abbrev m_ro_append : Nat := 56
abbrev m_ro_appendPiece : Nat := 57
abbrev m_ro_appendTimes : Nat := 58
abbrev m_ro_appendOnly : Nat := 59
abbrev m_ro_copy : Nat := 60
abbrev m_ro_overwrite : Nat := 61
abbrev m_ro_swapWithNext : Nat := 62
abbrev m_ro_removeFirst : Nat := 63
abbrev m_ro_placeOfTime : Nat := 64
abbrev m_ro_timesOf : Nat := 65
abbrev m_ro_letters : Nat := 66
abbrev m_ro_isWord : Nat := 67
abbrev m_ro_same : Nat := 68
abbrev m_ro_firstOther : Nat := 69
abbrev m_ro_howManyOther : Nat := 70
abbrev m_sh_init : Nat := 71
abbrev m_sh_size : Nat := 72
abbrev m_sh_isFull : Nat := 73
abbrev m_sh_row : Nat := 74
abbrev m_sh_place : Nat := 75
abbrev m_sh_removeLast : Nat := 76
abbrev m_sh_copy : Nat := 77
abbrev m_sh_allLetters : Nat := 78
abbrev m_ta_init : Nat := 79
abbrev m_ta_countAlike : Nat := 80
abbrev m_ta_prepare : Nat := 81
abbrev m_ta_goOn : Nat := 82
abbrev m_ta_countUnlike : Nat := 83
abbrev m_tu_init : Nat := 84
abbrev m_tu_found : Nat := 85
abbrev m_tu_explore : Nat := 86
abbrev m_tu_moveAll : Nat := 87
abbrev m_tu_note : Nat := 88
abbrev m_tu_find : Nat := 89
abbrev m_tu_sortCodes : Nat := 90
abbrev m_tu_letterOf : Nat := 91
abbrev m_tu_movesTo : Nat := 92
abbrev m_tu_codeOf : Nat := 93
abbrev m_tu_decode : Nat := 94
abbrev m_lt_init : Nat := 95
abbrev m_lt_letter : Nat := 96
abbrev m_lt_passes : Nat := 97
abbrev m_lt_ranks : Nat := 98
abbrev m_lt_of : Nat := 99
abbrev m_lt_rules : Nat := 100
abbrev m_lt_word : Nat := 101
abbrev m_lt_at : Nat := 102
abbrev m_lt_drop : Nat := 103
abbrev m_lt_alike : Nat := 104
abbrev m_lt_blocks : Nat := 105
abbrev m_lt_least : Nat := 106
abbrev m_lt_copies : Nat := 107
abbrev m_lt_seen : Nat := 108
abbrev m_lt_spread : Nat := 109
abbrev m_lt_odds : Nat := 110
abbrev m_lt_begins : Nat := 111
abbrev m_lt_common : Nat := 112
abbrev m_lt_product : Nat := 113
abbrev m_lt_power : Nat := 114
abbrev m_lt_changes : Nat := 115
abbrev m_lt_root : Nat := 116
abbrev m_lt_parts : Nat := 117
abbrev m_lt_turned : Nat := 118
abbrev m_lt_turn : Nat := 119
abbrev m_lt_apart : Nat := 120
abbrev m_lt_unlike : Nat := 121
abbrev m_lt_free : Nat := 122
abbrev m_lt_lots : Nat := 123
abbrev m_lt_list : Nat := 124
abbrev m_lt_put : Nat := 125
abbrev m_lt_look : Nat := 126
abbrev m_lt_from : Nat := 127
abbrev m_lt_lays : Nat := 128
abbrev m_lt_judge : Nat := 129
abbrev m_lt_undo : Nat := 130
abbrev m_lt_image : Nat := 131
abbrev m_lt_on : Nat := 132
abbrev m_lt_count : Nat := 133
abbrev m_lt_refuse : Nat := 134
abbrev m_lt_refuseFar : Nat := 135
abbrev m_lt_noWord : Nat := 136
abbrev m_lt_tooLongToTurn : Nat := 137
abbrev m_lt_noLetter : Nat := 138
abbrev m_lt_notTwoLetters : Nat := 139
abbrev m_lt_noList : Nat := 140
abbrev m_lt_noSuch : Nat := 141
abbrev m_lt_answer : Nat := 142
abbrev m_lt_sizeOrCell : Nat := 143
abbrev m_lt_commonDivisor : Nat := 144
abbrev m_mo_init : Nat := 145
abbrev m_mo_isIn : Nat := 146
abbrev m_mo_no : Nat := 147
abbrev m_mo_noLong : Nat := 148
abbrev m_mo_isLetter : Nat := 149
abbrev m_mo_isWord : Nat := 150
abbrev m_mo_passes_ : Nat := 151
abbrev m_mo_letter : Nat := 152
abbrev m_mo_remembers : Nat := 153
abbrev m_mo_turns : Nat := 154
abbrev m_mo_swaps : Nat := 155
abbrev m_mo_areTwo : Nat := 156
abbrev m_mo_passes : Nat := 157
abbrev m_mo_ranks : Nat := 158
abbrev m_mo_of : Nat := 159
abbrev m_mo_here : Nat := 160
abbrev m_mo_fails : Nat := 161
abbrev m_mo_isSign : Nat := 162
abbrev m_mo_rule : Nat := 163
abbrev m_mo_rules : Nat := 164
abbrev m_mo_makes : Nat := 165
abbrev m_mo_times : Nat := 166
abbrev m_mo_reads : Nat := 167
abbrev m_mo_comes : Nat := 168
abbrev m_mo_word : Nat := 169
abbrev m_mo_at : Nat := 170
abbrev m_mo_drop : Nat := 171
abbrev m_mo_loads : Nat := 172
abbrev m_mo_isReady : Nat := 173
abbrev m_mo_goes : Nat := 174
abbrev m_mo_takes : Nat := 175
abbrev m_mo_areAlike : Nat := 176
abbrev m_mo_alike : Nat := 177
abbrev m_mo_block : Nat := 178
abbrev m_mo_blocks : Nat := 179
abbrev m_mo_least : Nat := 180
abbrev m_mo_orders : Nat := 181
abbrev m_mo_copies : Nat := 182
abbrev m_mo_seen : Nat := 183
abbrev m_mo_spread : Nat := 184
abbrev m_mo_common_ : Nat := 185
abbrev m_mo_odds : Nat := 186
abbrev m_mo_placeOf : Nat := 187
abbrev m_mo_begins : Nat := 188
abbrev m_mo_common : Nat := 189
abbrev m_mo_product : Nat := 190
abbrev m_mo_power : Nat := 191
abbrev m_mo_changes : Nat := 192
abbrev m_mo_rootBy : Nat := 193
abbrev m_mo_isRoot : Nat := 194
abbrev m_mo_root : Nat := 195
abbrev m_mo_stands : Nat := 196
abbrev m_mo_partOf : Nat := 197
abbrev m_mo_parts : Nat := 198
abbrev m_mo_numberOf : Nat := 199
abbrev m_mo_lays_ : Nat := 200
abbrev m_mo_finds : Nat := 201
abbrev m_mo_turnsAll : Nat := 202
abbrev m_mo_turned : Nat := 203
abbrev m_mo_turn : Nat := 204
abbrev m_mo_apart : Nat := 205
abbrev m_mo_isFree : Nat := 206
abbrev m_mo_unlike : Nat := 207
abbrev m_mo_free : Nat := 208
abbrev m_mo_lots : Nat := 209
abbrev m_mo_isList : Nat := 210
abbrev m_mo_list : Nat := 211
abbrev m_mo_put : Nat := 212
abbrev m_mo_look : Nat := 213
abbrev m_mo_areThere : Nat := 214
abbrev m_mo_from : Nat := 215
abbrev m_mo_lays : Nat := 216
abbrev m_mo_judge : Nat := 217
abbrev m_mo_undo : Nat := 218
abbrev m_mo_copies_ : Nat := 219
abbrev m_mo_image : Nat := 220
abbrev m_mo_on : Nat := 221
abbrev m_mo_count : Nat := 222
abbrev m_jd_numberOfTrailingZeros : Nat := 223
abbrev m_jd_bitCount : Nat := 224
def zc_be_init : List (Nat × List zIns) := [
  (0, [(.aload_n 0, []), (.invokespecial 3, [999, 184, 5]), (.aload_n 0, []), (.new 9, [5, 185, 2]), (.dup, []), (.bipush 28, []), (.invokespecial 11, [46, 186, 2, 2, 0, 5])]),
  (14, [(.putfield 14, [0, 1, 188, 2]), (.aload_n 0, []), (.new 9, [5, 185, 2]), (.dup, []), (.bipush 28, []), (.invokespecial 11, [46, 186, 2, 2, 0, 5])]),
  (27, [(.putfield 20, [0, 2, 189, 2]), (.aload_n 0, []), (.new 9, [5, 185, 2]), (.dup, []), (.bipush 28, []), (.invokespecial 11, [46, 186, 2, 2, 0, 5])]),
  (40, [(.putfield 23, [0, 3, 190, 2]), (.aload_n 0, []), (.aload_n 1, []), (.putfield 26, [0, 0, 187, 2]), (.return_, [])])]
def zc_be_arrange : List (Nat × List zIns) := [
  (0, [(.aload_n 0, []), (.getfield 14, [0, 1, 188, 2]), (.aload_n 1, []), (.invokevirtual 30, [60, 518, 0, 2, 0, 5])]),
  (8, [(.aload_n 3, []), (.invokevirtual 34, [51, 519, 0, 1, 0, 5])]),
  (12, [(.iconst 0, []), (.istore 4, [])]),
  (15, [(.iload 4, []), (.aload_n 0, []), (.getfield 14, [0, 1, 188, 2]), (.invokevirtual 37, [47, 513, 0, 1, 1, 5])]),
  (24, [(.if_icmp .ge 34, [58]), (.aload_n 0, []), (.getfield 14, [0, 1, 188, 2]), (.iload 4, []), (.invokevirtual 41, [48, 520, 0, 2, 1, 5])]),
  (36, [(.istore 5, []), (.aload_n 3, []), (.aload_n 0, []), (.aload_n 3, []), (.iload 5, []), (.iload_n 2, []), (.invokevirtual 45, [2, 521, 0, 4, 1, 0])]),
  (47, [(.iload 5, []), (.invokevirtual 49, [54, 527, 0, 3, 0, 5])]),
  (52, [(.iinc 4 1, []), (.goto (-40), [15])]),
  (58, [(.return_, [])])]
def zc_be_turnToBeTaken : List (Nat × List zIns) := [
  (0, [(.aload_n 1, []), (.invokevirtual 37, [47, 513, 0, 1, 1, 5])]),
  (4, [(.istore 4, []), (.aload_n 1, []), (.invokevirtual 37, [47, 513, 0, 1, 1, 5])]),
  (10, [(.iconst 1, []), (.isub, []), (.istore 5, [])]),
  (14, [(.iload 5, []), (.ifCond .lt 67, [83]), (.aload_n 0, []), (.getfield 26, [0, 0, 187, 2]), (.iload_n 2, []), (.aload_n 1, []), (.iload 5, []), (.invokevirtual 41, [48, 520, 0, 2, 1, 5])]),
  (30, [(.invokevirtual 53, [18, 525, 0, 3, 4, 2])]),
  (33, [(.ifCond .eq 50, [83]), (.aload_n 0, []), (.getfield 26, [0, 0, 187, 2]), (.iload_n 2, []), (.invokevirtual 59, [17, 526, 0, 2, 1, 2])]),
  (44, [(.aload_n 0, []), (.getfield 26, [0, 0, 187, 2]), (.aload_n 1, []), (.iload 5, []), (.invokevirtual 41, [48, 520, 0, 2, 1, 5])]),
  (54, [(.invokevirtual 59, [17, 526, 0, 2, 1, 2])]),
  (57, [(.if_icmp .le 7, [64]), (.iconst 1, []), (.goto 4, [65])]),
  (64, [(.iconst 0, [])]),
  (65, [(.istore 6, []), (.iload 6, []), (.iload_n 3, []), (.if_icmp .ne 7, [77]), (.iload 5, []), (.istore 4, [])]),
  (77, [(.iinc 5 (-1), []), (.goto (-66), [14])]),
  (83, [(.iload 4, []), (.ireturn, [])])]
def zc_be_sameKind : List (Nat × List zIns) := [
  (0, [(.aload_n 1, []), (.invokevirtual 37, [47, 513, 0, 1, 1, 5])]),
  (4, [(.aload_n 2, []), (.invokevirtual 37, [47, 513, 0, 1, 1, 5])]),
  (8, [(.if_icmp .eq 5, [13]), (.iconst 0, []), (.ireturn, [])]),
  (13, [(.aload_n 0, []), (.aload_n 1, []), (.iconst 0, []), (.aload_n 0, []), (.getfield 20, [0, 2, 189, 2]), (.invokevirtual 62, [1, 514, 0, 4, 0, 0])]),
  (23, [(.aload_n 0, []), (.aload_n 2, []), (.iconst 0, []), (.aload_n 0, []), (.getfield 23, [0, 3, 190, 2]), (.invokevirtual 62, [1, 514, 0, 4, 0, 0])]),
  (33, [(.aload_n 0, []), (.getfield 20, [0, 2, 189, 2]), (.aload_n 0, []), (.getfield 23, [0, 3, 190, 2]), (.invokevirtual 66, [68, 531, 0, 2, 4, 5])]),
  (44, [(.ireturn, [])])]
def zc_be_layBlocks : List (Nat × List zIns) := [
  (0, [(.aload_n 0, []), (.getfield 14, [0, 1, 188, 2]), (.aload_n 1, []), (.invokevirtual 30, [60, 518, 0, 2, 0, 5])]),
  (8, [(.aload_n 2, []), (.invokevirtual 34, [51, 519, 0, 1, 0, 5])]),
  (12, [(.aload_n 1, []), (.invokevirtual 37, [47, 513, 0, 1, 1, 5])]),
  (16, [(.istore_n 3, [])]),
  (17, [(.iload_n 3, []), (.ifCond .le 74, [92]), (.aload_n 0, []), (.getfield 14, [0, 1, 188, 2]), (.invokevirtual 37, [47, 513, 0, 1, 1, 5])]),
  (28, [(.ifCond .le 64, [92]), (.aload_n 0, []), (.getfield 26, [0, 0, 187, 2]), (.aload_n 0, []), (.getfield 14, [0, 1, 188, 2]), (.invokevirtual 70, [24, 548, 0, 2, 1, 2])]),
  (42, [(.istore 4, []), (.iconst 0, []), (.istore 5, [])]),
  (47, [(.iload 5, []), (.bipush 6, []), (.if_icmp .ge 29, [80]), (.iload 4, []), (.iload 5, []), (.ishr, []), (.iconst 1, []), (.iand, []), (.iconst 1, []), (.if_icmp .ne 12, [74]), (.aload_n 0, []), (.getfield 14, [0, 1, 188, 2]), (.iload 5, []), (.invokevirtual 74, [63, 554, 0, 2, 0, 5])]),
  (74, [(.iinc 5 1, []), (.goto (-30), [47])]),
  (80, [(.aload_n 2, []), (.iload 4, []), (.invokevirtual 77, [53, 562, 0, 2, 0, 5])]),
  (86, [(.iinc 3 (-1), []), (.goto (-72), [17])]),
  (92, [(.return_, [])])]
def zc_be_takeBeginning : List (Nat × List zIns) := [
  (0, [(.aload_n 3, []), (.aload_n 1, []), (.invokevirtual 30, [60, 518, 0, 2, 0, 5])]),
  (5, [(.iconst 0, []), (.istore 4, [])]),
  (8, [(.iload 4, []), (.aload_n 2, []), (.invokevirtual 37, [47, 513, 0, 1, 1, 5])]),
  (14, [(.if_icmp .ge 41, [55]), (.aload_n 2, []), (.iload 4, []), (.invokevirtual 41, [48, 520, 0, 2, 1, 5])]),
  (23, [(.istore 5, []), (.aload_n 0, []), (.getfield 26, [0, 0, 187, 2]), (.aload_n 3, []), (.invokevirtual 70, [24, 548, 0, 2, 1, 2])]),
  (33, [(.iload 5, []), (.ishr, []), (.iconst 1, []), (.iand, []), (.ifCond .ne 5, [43]), (.iconst 0, []), (.ireturn, [])]),
  (43, [(.aload_n 3, []), (.iload 5, []), (.invokevirtual 74, [63, 554, 0, 2, 0, 5])]),
  (49, [(.iinc 4 1, []), (.goto (-44), [8])]),
  (55, [(.aload_n 0, []), (.aload_n 3, []), (.iconst 0, []), (.aload_n 3, []), (.invokevirtual 62, [1, 514, 0, 4, 0, 0])]),
  (62, [(.iconst 1, []), (.ireturn, [])])]
def zc_be_takeCommon : List (Nat × List zIns) := [
  (0, [(.aload_n 0, []), (.getfield 20, [0, 2, 189, 2]), (.aload_n 1, []), (.invokevirtual 30, [60, 518, 0, 2, 0, 5])]),
  (8, [(.aload_n 0, []), (.getfield 23, [0, 3, 190, 2]), (.aload_n 2, []), (.invokevirtual 30, [60, 518, 0, 2, 0, 5])]),
  (16, [(.aload_n 3, []), (.invokevirtual 34, [51, 519, 0, 1, 0, 5])]),
  (20, [(.aload_n 1, []), (.invokevirtual 37, [47, 513, 0, 1, 1, 5])]),
  (24, [(.istore 4, [])]),
  (26, [(.iload 4, []), (.ifCond .le 73, [101]), (.aload_n 0, []), (.getfield 26, [0, 0, 187, 2]), (.aload_n 0, []), (.getfield 20, [0, 2, 189, 2]), (.invokevirtual 70, [24, 548, 0, 2, 1, 2])]),
  (42, [(.aload_n 0, []), (.getfield 26, [0, 0, 187, 2]), (.aload_n 0, []), (.getfield 23, [0, 3, 190, 2]), (.invokevirtual 70, [24, 548, 0, 2, 1, 2])]),
  (53, [(.iand, []), (.istore 5, []), (.iload 5, []), (.ifCond .ne 6, [64]), (.goto 40, [101])]),
  (64, [(.iload 5, []), (.invokestatic 80, [223, 650, 1, 1, 1, 99])]),
  (69, [(.istore 6, []), (.aload_n 0, []), (.getfield 20, [0, 2, 189, 2]), (.iload 6, []), (.invokevirtual 74, [63, 554, 0, 2, 0, 5])]),
  (80, [(.aload_n 0, []), (.getfield 23, [0, 3, 190, 2]), (.iload 6, []), (.invokevirtual 74, [63, 554, 0, 2, 0, 5])]),
  (89, [(.aload_n 3, []), (.iload 6, []), (.invokevirtual 77, [53, 562, 0, 2, 0, 5])]),
  (95, [(.iinc 4 (-1), []), (.goto (-72), [26])]),
  (101, [(.aload_n 0, []), (.aload_n 3, []), (.iconst 0, []), (.aload_n 3, []), (.invokevirtual 62, [1, 514, 0, 4, 0, 0])]),
  (108, [(.return_, [])])]
def zc_be_takeRoot : List (Nat × List zIns) := [
  (0, [(.iconst 1, []), (.istore_n 3, []), (.aload_n 1, []), (.invokevirtual 37, [47, 513, 0, 1, 1, 5])]),
  (6, [(.istore 4, [])]),
  (8, [(.iload 4, []), (.iconst 1, []), (.if_icmp .le 26, [37]), (.aload_n 0, []), (.aload_n 1, []), (.iload 4, []), (.aload_n 2, []), (.invokevirtual 85, [8, 682, 0, 4, 4, 0])]),
  (22, [(.ifCond .eq 9, [31]), (.iload 4, []), (.istore_n 3, []), (.goto 9, [37])]),
  (31, [(.iinc 4 (-1), []), (.goto (-26), [8])]),
  (37, [(.aload_n 1, []), (.iload_n 3, []), (.aload_n 2, []), (.invokestatic 89, [9, 690, 1, 3, 0, 0])]),
  (43, [(.aload_n 0, []), (.aload_n 2, []), (.iconst 0, []), (.aload_n 2, []), (.invokevirtual 62, [1, 514, 0, 4, 0, 0])]),
  (50, [(.iload_n 3, []), (.ireturn, [])])]
def zc_be_isPower : List (Nat × List zIns) := [
  (0, [(.iload_n 2, []), (.iconst 1, []), (.if_icmp .ge 5, [7]), (.iconst 0, []), (.ireturn, [])]),
  (7, [(.iconst 0, []), (.istore 4, [])]),
  (10, [(.iload 4, []), (.bipush 6, []), (.if_icmp .ge 22, [36]), (.aload_n 1, []), (.iload 4, []), (.invokevirtual 93, [65, 686, 0, 2, 1, 5])]),
  (23, [(.iload_n 2, []), (.irem, []), (.ifCond .eq 5, [30]), (.iconst 0, []), (.ireturn, [])]),
  (30, [(.iinc 4 1, []), (.goto (-23), [10])]),
  (36, [(.aload_n 1, []), (.iload_n 2, []), (.aload_n 3, []), (.invokestatic 89, [9, 690, 1, 3, 0, 0])]),
  (42, [(.aload_n 0, []), (.getfield 20, [0, 2, 189, 2]), (.invokevirtual 34, [51, 519, 0, 1, 0, 5])]),
  (49, [(.aload_n 0, []), (.getfield 20, [0, 2, 189, 2]), (.aload_n 3, []), (.iload_n 2, []), (.invokevirtual 96, [58, 693, 0, 3, 0, 5])]),
  (58, [(.aload_n 0, []), (.aload_n 0, []), (.getfield 20, [0, 2, 189, 2]), (.iconst 0, []), (.aload_n 0, []), (.getfield 20, [0, 2, 189, 2]), (.invokevirtual 62, [1, 514, 0, 4, 0, 0])]),
  (71, [(.aload_n 0, []), (.aload_n 1, []), (.iconst 0, []), (.aload_n 0, []), (.getfield 23, [0, 3, 190, 2]), (.invokevirtual 62, [1, 514, 0, 4, 0, 0])]),
  (81, [(.aload_n 0, []), (.getfield 20, [0, 2, 189, 2]), (.aload_n 0, []), (.getfield 23, [0, 3, 190, 2]), (.invokevirtual 66, [68, 531, 0, 2, 4, 5])]),
  (92, [(.ireturn, [])])]
def zc_be_takeShare : List (Nat × List zIns) := [
  (0, [(.aload_n 2, []), (.invokevirtual 34, [51, 519, 0, 1, 0, 5])]),
  (4, [(.iload_n 1, []), (.iconst 1, []), (.if_icmp .ge 4, [10]), (.return_, [])]),
  (10, [(.iconst 0, []), (.istore_n 3, [])]),
  (12, [(.iload_n 3, []), (.aload_n 0, []), (.invokevirtual 37, [47, 513, 0, 1, 1, 5])]),
  (17, [(.if_icmp .ge 39, [56]), (.aload_n 0, []), (.iload_n 3, []), (.invokevirtual 41, [48, 520, 0, 2, 1, 5])]),
  (25, [(.istore 4, []), (.aload_n 2, []), (.iload 4, []), (.invokevirtual 93, [65, 686, 0, 2, 1, 5])]),
  (33, [(.aload_n 0, []), (.iload 4, []), (.invokevirtual 93, [65, 686, 0, 2, 1, 5])]),
  (39, [(.iload_n 1, []), (.idiv, []), (.if_icmp .ge 9, [50]), (.aload_n 2, []), (.iload 4, []), (.invokevirtual 77, [53, 562, 0, 2, 0, 5])]),
  (50, [(.iinc 3 1, []), (.goto (-41), [12])]),
  (56, [(.return_, [])])]
def zc_hi_init : List (Nat × List zIns) := [
  (0, [(.aload_n 0, []), (.invokespecial 3, [999, 123, 5]), (.aload_n 0, []), (.bipush 8, []), (.anewarray 9, [23, 124]), (.putfield 11, [1, 0, 127, 2]), (.aload_n 0, []), (.iconst 0, []), (.putfield 17, [1, 1, 128, 0]), (.aload_n 0, []), (.iconst 0, []), (.putfield 21, [1, 2, 129, 0]), (.iconst 0, []), (.istore_n 1, [])]),
  (25, [(.iload_n 1, []), (.bipush 8, []), (.if_icmp .ge 22, [50]), (.aload_n 0, []), (.getfield 11, [1, 0, 127, 2]), (.iload_n 1, []), (.new 9, [2, 124, 2]), (.dup, []), (.invokespecial 24, [15, 126, 2, 1, 0, 2])]),
  (43, [(.aastore, [23]), (.iinc 1 1, []), (.goto (-22), [25])]),
  (50, [(.return_, [])])]
def zc_hi_size : List (Nat × List zIns) := [
  (0, [(.aload_n 0, []), (.getfield 17, [1, 1, 128, 0]), (.ireturn, [])])]
def zc_hi_clear : List (Nat × List zIns) := [
  (0, [(.aload_n 0, []), (.iconst 0, []), (.putfield 17, [1, 1, 128, 0]), (.return_, [])])]
def zc_hi_remember : List (Nat × List zIns) := [
  (0, [(.aload_n 0, []), (.getfield 11, [1, 0, 127, 2]), (.aload_n 0, []), (.getfield 21, [1, 2, 129, 0]), (.aaload, [23]), (.aload_n 1, []), (.invokevirtual 25, [21, 349, 0, 2, 0, 2])]),
  (13, [(.aload_n 0, []), (.aload_n 0, []), (.getfield 21, [1, 2, 129, 0]), (.iconst 1, []), (.iadd, []), (.bipush 8, []), (.irem, []), (.putfield 21, [1, 2, 129, 0]), (.aload_n 0, []), (.aload_n 0, []), (.getfield 17, [1, 1, 128, 0]), (.iconst 1, []), (.iadd, []), (.bipush 8, []), (.invokestatic 29, [998, 353, 7]), (.putfield 17, [1, 1, 128, 0]), (.return_, [])])]
def zc_hi_takeBack : List (Nat × List zIns) := [
  (0, [(.aload_n 0, []), (.getfield 17, [1, 1, 128, 0]), (.ifCond .ne 4, [8]), (.return_, [])]),
  (8, [(.aload_n 0, []), (.aload_n 0, []), (.getfield 21, [1, 2, 129, 0]), (.bipush 8, []), (.iadd, []), (.iconst 1, []), (.isub, []), (.bipush 8, []), (.irem, []), (.putfield 21, [1, 2, 129, 0]), (.aload_n 0, []), (.dup, []), (.getfield 17, [1, 1, 128, 0]), (.iconst 1, []), (.isub, []), (.putfield 17, [1, 1, 128, 0]), (.aload_n 1, []), (.aload_n 0, []), (.getfield 11, [1, 0, 127, 2]), (.aload_n 0, []), (.getfield 21, [1, 2, 129, 0]), (.aaload, [23]), (.invokevirtual 25, [21, 349, 0, 2, 0, 2])]),
  (47, [(.return_, [])])]
def zc_la_init : List (Nat × List zIns) := [
  (0, [(.aload_n 0, []), (.invokespecial 3, [999, 76, 5]), (.aload_n 0, []), (.bipush 6, []), (.newarray .int, [20]), (.putfield 9, [2, 0, 77, 2]), (.aload_n 0, []), (.bipush 6, []), (.newarray .int, [20]), (.putfield 15, [2, 1, 78, 2]), (.iconst 0, []), (.istore_n 1, [])]),
  (22, [(.iload_n 1, []), (.bipush 6, []), (.if_icmp .ge 16, [41]), (.aload_n 0, []), (.getfield 15, [2, 1, 78, 2]), (.iload_n 1, []), (.iload_n 1, []), (.iastore, []), (.iinc 1 1, []), (.goto (-16), [22])]),
  (41, [(.return_, [])])]
def zc_la_passedBy : List (Nat × List zIns) := [
  (0, [(.iload_n 1, []), (.invokestatic 18, [138, 369, 3, 1, 4, 9])]),
  (4, [(.ifCond .eq 7, [11]), (.iconst 0, []), (.goto 9, [17])]),
  (11, [(.aload_n 0, []), (.getfield 9, [2, 0, 77, 2]), (.iload_n 1, []), (.iaload, [])]),
  (17, [(.ireturn, [])])]
def zc_la_rankOf : List (Nat × List zIns) := [
  (0, [(.iload_n 1, []), (.invokestatic 18, [138, 369, 3, 1, 4, 9])]),
  (4, [(.ifCond .eq 8, [12]), (.bipush (-9), []), (.goto 9, [18])]),
  (12, [(.aload_n 0, []), (.getfield 15, [2, 1, 78, 2]), (.iload_n 1, []), (.iaload, [])]),
  (18, [(.ireturn, [])])]
def zc_la_letPass : List (Nat × List zIns) := [
  (0, [(.aload_n 0, []), (.iload_n 1, []), (.invokevirtual 22, [16, 365, 0, 2, 1, 2])]),
  (5, [(.iload_n 2, []), (.ishr, []), (.iconst 1, []), (.iand, []), (.iconst 1, []), (.if_icmp .ne 7, [17]), (.iconst 1, []), (.goto 4, [18])]),
  (17, [(.iconst 0, [])]),
  (18, [(.ireturn, [])])]
def zc_la_flip : List (Nat × List zIns) := [
  (0, [(.iload_n 1, []), (.iload_n 2, []), (.invokestatic 26, [139, 360, 3, 2, 4, 9])]),
  (5, [(.ifCond .eq 4, [9]), (.return_, [])]),
  (9, [(.aload_n 0, []), (.getfield 9, [2, 0, 77, 2]), (.iload_n 1, []), (.dup2, []), (.iaload, []), (.iconst 1, []), (.iload_n 2, []), (.ishl, []), (.ixor, []), (.iastore, []), (.aload_n 0, []), (.getfield 9, [2, 0, 77, 2]), (.iload_n 2, []), (.dup2, []), (.iaload, []), (.iconst 1, []), (.iload_n 1, []), (.ishl, []), (.ixor, []), (.iastore, []), (.return_, [])])]
def zc_la_swapRanks : List (Nat × List zIns) := [
  (0, [(.iload_n 1, []), (.iload_n 2, []), (.invokestatic 26, [139, 360, 3, 2, 4, 9])]),
  (5, [(.ifCond .eq 4, [9]), (.return_, [])]),
  (9, [(.aload_n 0, []), (.getfield 15, [2, 1, 78, 2]), (.iload_n 1, []), (.iaload, []), (.istore_n 3, []), (.aload_n 0, []), (.getfield 15, [2, 1, 78, 2]), (.iload_n 1, []), (.aload_n 0, []), (.getfield 15, [2, 1, 78, 2]), (.iload_n 2, []), (.iaload, []), (.iastore, []), (.aload_n 0, []), (.getfield 15, [2, 1, 78, 2]), (.iload_n 2, []), (.iload_n 3, []), (.iastore, []), (.return_, [])])]
def zc_la_copy : List (Nat × List zIns) := [
  (0, [(.iconst 0, []), (.istore_n 2, [])]),
  (2, [(.iload_n 2, []), (.bipush 6, []), (.if_icmp .ge 33, [38]), (.aload_n 0, []), (.getfield 9, [2, 0, 77, 2]), (.iload_n 2, []), (.aload_n 1, []), (.getfield 9, [2, 0, 77, 2]), (.iload_n 2, []), (.iaload, []), (.iastore, []), (.aload_n 0, []), (.getfield 15, [2, 1, 78, 2]), (.iload_n 2, []), (.aload_n 1, []), (.getfield 15, [2, 1, 78, 2]), (.iload_n 2, []), (.iaload, []), (.iastore, []), (.iinc 2 1, []), (.goto (-33), [2])]),
  (38, [(.return_, [])])]
def zc_la_same : List (Nat × List zIns) := [
  (0, [(.iconst 0, []), (.istore_n 2, [])]),
  (2, [(.iload_n 2, []), (.bipush 6, []), (.if_icmp .ge 41, [46]), (.aload_n 0, []), (.getfield 9, [2, 0, 77, 2]), (.iload_n 2, []), (.iaload, []), (.aload_n 1, []), (.getfield 9, [2, 0, 77, 2]), (.iload_n 2, []), (.iaload, []), (.if_icmp .ne 18, [38]), (.aload_n 0, []), (.getfield 15, [2, 1, 78, 2]), (.iload_n 2, []), (.iaload, []), (.aload_n 1, []), (.getfield 15, [2, 1, 78, 2]), (.iload_n 2, []), (.iaload, []), (.if_icmp .eq 5, [40])]),
  (38, [(.iconst 0, []), (.ireturn, [])]),
  (40, [(.iinc 2 1, []), (.goto (-41), [2])]),
  (46, [(.iconst 1, []), (.ireturn, [])])]
def zc_la_howManyPairs : List (Nat × List zIns) := [
  (0, [(.iconst 0, []), (.istore_n 1, []), (.iconst 0, []), (.istore_n 2, [])]),
  (4, [(.iload_n 2, []), (.bipush 6, []), (.if_icmp .ge 21, [28]), (.iload_n 1, []), (.aload_n 0, []), (.getfield 9, [2, 0, 77, 2]), (.iload_n 2, []), (.iaload, []), (.invokestatic 30, [224, 926, 1, 1, 1, 99])]),
  (20, [(.iadd, []), (.istore_n 1, []), (.iinc 2 1, []), (.goto (-21), [4])]),
  (28, [(.iload_n 1, []), (.iconst 2, []), (.idiv, []), (.ireturn, [])])]
def zc_la_readyLetters : List (Nat × List zIns) := [
  (0, [(.iconst 0, []), (.istore_n 2, []), (.iconst 0, []), (.istore_n 3, []), (.iconst 0, []), (.istore 4, [])]),
  (7, [(.iload 4, []), (.aload_n 1, []), (.invokevirtual 35, [47, 552, 0, 1, 1, 5])]),
  (13, [(.if_icmp .ge 44, [57]), (.aload_n 1, []), (.iload 4, []), (.invokevirtual 41, [48, 553, 0, 2, 1, 5])]),
  (22, [(.istore 5, []), (.iload_n 2, []), (.aload_n 0, []), (.iload 5, []), (.invokevirtual 22, [16, 365, 0, 2, 1, 2])]),
  (31, [(.iconst (-1), []), (.ixor, []), (.iand, []), (.ifCond .ne 10, [44]), (.iload_n 3, []), (.iconst 1, []), (.iload 5, []), (.ishl, []), (.ior, []), (.istore_n 3, [])]),
  (44, [(.iload_n 2, []), (.iconst 1, []), (.iload 5, []), (.ishl, []), (.ior, []), (.istore_n 2, []), (.iinc 4 1, []), (.goto (-47), [7])]),
  (57, [(.iload_n 3, []), (.ireturn, [])])]
def zc_la_howManyLow : List (Nat × List zIns) := [
  (0, [(.iconst 0, []), (.istore_n 2, []), (.iconst 0, []), (.istore_n 3, [])]),
  (4, [(.iload_n 3, []), (.bipush 6, []), (.if_icmp .ge 31, [38]), (.iload_n 1, []), (.iload_n 3, []), (.ishr, []), (.iconst 1, []), (.iand, []), (.iconst 1, []), (.if_icmp .ne 16, [32]), (.aload_n 0, []), (.getfield 15, [2, 1, 78, 2]), (.iload_n 3, []), (.iaload, []), (.iconst 3, []), (.if_icmp .ge 6, [32]), (.iinc 2 1, [])]),
  (32, [(.iinc 3 1, []), (.goto (-31), [4])]),
  (38, [(.iload_n 2, []), (.ireturn, [])])]
def zc_la_howManyTied : List (Nat × List zIns) := [
  (0, [(.iconst 1, []), (.aload_n 1, []), (.iload_n 2, []), (.invokevirtual 41, [48, 553, 0, 2, 1, 5])]),
  (6, [(.ishl, []), (.istore 4, []), (.iconst 0, []), (.istore 5, []), (.iload_n 2, []), (.iload_n 3, []), (.iadd, []), (.istore 6, [])]),
  (17, [(.iload_n 3, []), (.ifCond .eq 60, [78]), (.iload 6, []), (.ifCond .lt 55, [78]), (.iload 6, []), (.aload_n 1, []), (.invokevirtual 35, [47, 552, 0, 1, 1, 5])]),
  (32, [(.if_icmp .ge 46, [78]), (.aload_n 1, []), (.iload 6, []), (.invokevirtual 41, [48, 553, 0, 2, 1, 5])]),
  (41, [(.istore 7, []), (.iload 4, []), (.aload_n 0, []), (.iload 7, []), (.invokevirtual 22, [16, 365, 0, 2, 1, 2])]),
  (51, [(.iconst (-1), []), (.ixor, []), (.iand, []), (.ifCond .eq 15, [69]), (.iload 4, []), (.iconst 1, []), (.iload 7, []), (.ishl, []), (.ior, []), (.istore 4, []), (.iinc 5 1, [])]),
  (69, [(.iload 6, []), (.iload_n 3, []), (.iadd, []), (.istore 6, []), (.goto (-58), [17])]),
  (78, [(.iload 5, []), (.ireturn, [])])]
def zc_la_partOf : List (Nat × List zIns) := [
  (0, [(.iload_n 2, []), (.iconst 1, []), (.iload_n 1, []), (.ishl, []), (.iand, []), (.istore_n 3, []), (.iconst 0, []), (.istore 4, [])]),
  (9, [(.iload 4, []), (.bipush 6, []), (.if_icmp .ge 49, [62]), (.iconst 0, []), (.istore 5, [])]),
  (19, [(.iload 5, []), (.bipush 6, []), (.if_icmp .ge 33, [56]), (.iload_n 3, []), (.iload 5, []), (.ishr, []), (.iconst 1, []), (.iand, []), (.iconst 1, []), (.if_icmp .ne 17, [50]), (.iload_n 3, []), (.iload_n 2, []), (.aload_n 0, []), (.getfield 9, [2, 0, 77, 2]), (.iload 5, []), (.iaload, []), (.iconst (-1), []), (.ixor, []), (.iand, []), (.ior, []), (.istore_n 3, [])]),
  (50, [(.iinc 5 1, []), (.goto (-34), [19])]),
  (56, [(.iinc 4 1, []), (.goto (-50), [9])]),
  (62, [(.iload_n 3, []), (.ireturn, [])])]
def zc_la_howManyParts : List (Nat × List zIns) := [
  (0, [(.iload_n 1, []), (.istore_n 2, []), (.iconst 0, []), (.istore_n 3, []), (.iconst 0, []), (.istore 4, [])]),
  (7, [(.iload 4, []), (.bipush 6, []), (.if_icmp .ge 34, [45]), (.iload_n 2, []), (.iload 4, []), (.ishr, []), (.iconst 1, []), (.iand, []), (.iconst 1, []), (.if_icmp .ne 18, [39]), (.iload_n 2, []), (.aload_n 0, []), (.iload 4, []), (.iload_n 1, []), (.invokevirtual 44, [27, 706, 0, 3, 1, 2])]),
  (32, [(.iconst (-1), []), (.ixor, []), (.iand, []), (.istore_n 2, []), (.iinc 3 1, [])]),
  (39, [(.iinc 4 1, []), (.goto (-35), [7])]),
  (45, [(.iload_n 3, []), (.ireturn, [])])]
def zc_la_isFree : List (Nat × List zIns) := [
  (0, [(.iconst 0, []), (.istore_n 2, [])]),
  (2, [(.iload_n 2, []), (.bipush 6, []), (.if_icmp .ge 41, [46]), (.iload_n 1, []), (.iconst 1, []), (.iload_n 2, []), (.ishl, []), (.iconst (-1), []), (.ixor, []), (.iand, []), (.istore_n 3, []), (.iload_n 1, []), (.iload_n 2, []), (.ishr, []), (.iconst 1, []), (.iand, []), (.iconst 1, []), (.if_icmp .ne 18, [40]), (.iload_n 3, []), (.aload_n 0, []), (.getfield 9, [2, 0, 77, 2]), (.iload_n 2, []), (.iaload, []), (.iconst (-1), []), (.ixor, []), (.iand, []), (.ifCond .eq 5, [40]), (.iconst 0, []), (.ireturn, [])]),
  (40, [(.iinc 2 1, []), (.goto (-41), [2])]),
  (46, [(.iconst 1, []), (.ireturn, [])])]
def zc_la_howManyFree : List (Nat × List zIns) := [
  (0, [(.iconst 0, []), (.istore_n 1, []), (.iconst 0, []), (.istore_n 2, [])]),
  (4, [(.iload_n 2, []), (.bipush 64, []), (.if_icmp .ge 20, [27]), (.aload_n 0, []), (.iload_n 2, []), (.invokevirtual 48, [29, 800, 0, 2, 4, 2])]),
  (15, [(.ifCond .eq 6, [21]), (.iinc 1 1, [])]),
  (21, [(.iinc 2 1, []), (.goto (-20), [4])]),
  (27, [(.iload_n 1, []), (.ireturn, [])])]
def zc_la_drawLots : List (Nat × List zIns) := [
  (0, [(.aload_n 1, []), (.invokevirtual 35, [47, 552, 0, 1, 1, 5])]),
  (4, [(.iconst 1, []), (.isub, []), (.istore 4, []), (.iload 4, []), (.iconst 1, []), (.if_icmp .ge 5, [16]), (.iconst 0, []), (.ireturn, [])]),
  (16, [(.iload_n 3, []), (.istore 5, []), (.iconst 0, []), (.istore 6, []), (.iconst 0, []), (.istore 7, [])]),
  (25, [(.iload 7, []), (.iload_n 2, []), (.if_icmp .ge 63, [91]), (.iload 5, []), (.ldc 51, [1664525, 809]), (.imul, []), (.ldc 52, [1013904223, 810]), (.iadd, []), (.istore 5, []), (.iload 5, []), (.ldc 53, [2147483647, 811]), (.iand, []), (.sipush 256, []), (.idiv, []), (.iload 4, []), (.irem, []), (.istore 8, []), (.aload_n 0, []), (.aload_n 1, []), (.iload 8, []), (.invokevirtual 41, [48, 553, 0, 2, 1, 5])]),
  (62, [(.aload_n 1, []), (.iload 8, []), (.iconst 1, []), (.iadd, []), (.invokevirtual 41, [48, 553, 0, 2, 1, 5])]),
  (70, [(.invokevirtual 54, [18, 812, 0, 3, 4, 2])]),
  (73, [(.ifCond .eq 12, [85]), (.aload_n 1, []), (.iload 8, []), (.invokevirtual 57, [62, 813, 0, 2, 0, 5])]),
  (82, [(.iinc 6 1, [])]),
  (85, [(.iinc 7 1, []), (.goto (-63), [25])]),
  (91, [(.iload 6, []), (.ireturn, [])])]
def zc_nu_init : List (Nat × List zIns) := [
  (0, [(.aload_n 0, []), (.invokespecial 3, [999, 165, 5]), (.aload_n 0, []), (.iconst 3, []), (.anewarray 9, [24, 166]), (.putfield 11, [3, 0, 168, 2]), (.aload_n 0, []), (.iconst 3, []), (.newarray .boolean, [21]), (.putfield 17, [3, 1, 169, 2]), (.aload_n 0, []), (.new 9, [5, 166, 2]), (.dup, []), (.iconst 0, []), (.invokespecial 21, [46, 167, 2, 2, 0, 5])]),
  (28, [(.putfield 24, [3, 2, 170, 2]), (.iconst 0, []), (.istore_n 1, [])]),
  (33, [(.iload_n 1, []), (.iconst 3, []), (.if_icmp .ge 24, [59]), (.aload_n 0, []), (.getfield 11, [3, 0, 168, 2]), (.iload_n 1, []), (.new 9, [5, 166, 2]), (.dup, []), (.bipush 40, []), (.invokespecial 21, [46, 167, 2, 2, 0, 5])]),
  (52, [(.aastore, [24]), (.iinc 1 1, []), (.goto (-23), [33])]),
  (59, [(.return_, [])])]
def zc_nu_lacks : List (Nat × List zIns) := [
  (0, [(.iload_n 1, []), (.invokestatic 28, [140, 836, 3, 1, 4, 9])]),
  (4, [(.ifCond .ne 12, [16]), (.aload_n 0, []), (.getfield 17, [3, 1, 169, 2]), (.iload_n 1, []), (.baload, []), (.ifCond .ne 7, [20])]),
  (16, [(.iconst 1, []), (.goto 4, [21])]),
  (20, [(.iconst 0, [])]),
  (21, [(.ireturn, [])])]
def zc_nu_row : List (Nat × List zIns) := [
  (0, [(.iload_n 1, []), (.invokestatic 28, [140, 836, 3, 1, 4, 9])]),
  (4, [(.ifCond .eq 10, [14]), (.aload_n 0, []), (.getfield 24, [3, 2, 170, 2]), (.goto 9, [20])]),
  (14, [(.aload_n 0, []), (.getfield 11, [3, 0, 168, 2]), (.iload_n 1, []), (.aaload, [24])]),
  (20, [(.areturn, [])])]
def zc_nu_begin : List (Nat × List zIns) := [
  (0, [(.iload_n 1, []), (.invokestatic 28, [140, 836, 3, 1, 4, 9])]),
  (4, [(.ifCond .eq 4, [8]), (.return_, [])]),
  (8, [(.aload_n 0, []), (.getfield 17, [3, 1, 169, 2]), (.iload_n 1, []), (.iconst 1, []), (.bastore, []), (.aload_n 0, []), (.getfield 11, [3, 0, 168, 2]), (.iload_n 1, []), (.aaload, [24]), (.invokevirtual 32, [51, 837, 0, 1, 0, 5])]),
  (24, [(.aload_n 0, []), (.getfield 11, [3, 0, 168, 2]), (.iload_n 1, []), (.aaload, [24]), (.iconst 0, []), (.iload_n 2, []), (.invokevirtual 35, [55, 838, 0, 3, 0, 5])]),
  (35, [(.return_, [])])]
def zc_pa_init : List (Nat × List zIns) := [
  (0, [(.aload_n 0, []), (.invokespecial 3, [999, 144, 5]), (.aload_n 0, []), (.new 9, [5, 145, 2]), (.dup, []), (.bipush 15, []), (.invokespecial 11, [46, 146, 2, 2, 0, 5])]),
  (14, [(.putfield 14, [4, 0, 147, 2]), (.aload_n 0, []), (.iconst 5, []), (.newarray .int, [20]), (.putfield 20, [4, 1, 148, 2]), (.aload_n 0, []), (.iconst 0, []), (.putfield 24, [4, 2, 149, 0]), (.aload_n 0, []), (.bipush (-9), []), (.putfield 28, [4, 3, 150, 0]), (.return_, [])])]
def zc_pa_told : List (Nat × List zIns) := [
  (0, [(.aload_n 0, []), (.getfield 14, [4, 0, 147, 2]), (.areturn, [])])]
def zc_pa_readWord : List (Nat × List zIns) := [
  (0, [(.aload_n 0, []), (.getfield 14, [4, 0, 147, 2]), (.invokevirtual 31, [51, 427, 0, 1, 0, 5])]),
  (7, [(.aload_n 0, []), (.iconst 0, []), (.putfield 24, [4, 2, 149, 0]), (.aload_n 0, []), (.bipush (-9), []), (.putfield 28, [4, 3, 150, 0]), (.iconst 0, []), (.istore_n 2, [])]),
  (20, [(.iload_n 2, []), (.aload_n 1, []), (.invokevirtual 34, [47, 402, 0, 1, 1, 5])]),
  (25, [(.if_icmp .ge 27, [52]), (.aload_n 0, []), (.aload_n 1, []), (.iload_n 2, []), (.invokevirtual 38, [48, 403, 0, 2, 1, 5])]),
  (34, [(.invokevirtual 42, [39, 428, 0, 2, 4, 4])]),
  (37, [(.ifCond .ne 9, [46]), (.sipush (-1000), []), (.iload_n 2, []), (.isub, []), (.ireturn, [])]),
  (46, [(.iinc 2 1, []), (.goto (-29), [20])]),
  (52, [(.aload_n 0, []), (.getfield 24, [4, 2, 149, 0]), (.ifCond .le 14, [70]), (.sipush (-1000), []), (.aload_n 1, []), (.invokevirtual 34, [47, 402, 0, 1, 1, 5])]),
  (66, [(.isub, []), (.goto 4, [71])]),
  (70, [(.iconst 0, [])]),
  (71, [(.ireturn, [])])]
def zc_pa_takeSign : List (Nat × List zIns) := [
  (0, [(.iload_n 1, []), (.invokestatic 46, [45, 407, 1, 1, 4, 4])]),
  (4, [(.ifCond .eq 27, [31]), (.aload_n 0, []), (.aload_n 0, []), (.getfield 14, [4, 0, 147, 2]), (.invokevirtual 34, [47, 402, 0, 1, 1, 5])]),
  (15, [(.putfield 28, [4, 3, 150, 0]), (.aload_n 0, []), (.getfield 14, [4, 0, 147, 2]), (.iload_n 1, []), (.bipush 97, []), (.isub, []), (.invokevirtual 49, [53, 432, 0, 2, 0, 5])]),
  (29, [(.iconst 1, []), (.ireturn, [])]),
  (31, [(.iload_n 1, []), (.bipush 48, []), (.if_icmp .lt 18, [52]), (.iload_n 1, []), (.bipush 57, []), (.if_icmp .gt 12, [52]), (.aload_n 0, []), (.iload_n 1, []), (.bipush 48, []), (.isub, []), (.invokevirtual 52, [42, 433, 0, 2, 4, 4])]),
  (51, [(.ireturn, [])]),
  (52, [(.iload_n 1, []), (.bipush 40, []), (.if_icmp .ne 8, [63]), (.aload_n 0, []), (.invokevirtual 55, [40, 450, 0, 1, 4, 4])]),
  (62, [(.ireturn, [])]),
  (63, [(.iload_n 1, []), (.bipush 41, []), (.if_icmp .ne 14, [80]), (.aload_n 0, []), (.invokevirtual 59, [41, 454, 0, 1, 4, 4])]),
  (73, [(.ifCond .eq 7, [80]), (.iconst 1, []), (.goto 4, [81])]),
  (80, [(.iconst 0, [])]),
  (81, [(.ireturn, [])])]
def zc_pa_takeOpening : List (Nat × List zIns) := [
  (0, [(.aload_n 0, []), (.getfield 24, [4, 2, 149, 0]), (.iconst 5, []), (.if_icmp .lt 5, [10]), (.iconst 0, []), (.ireturn, [])]),
  (10, [(.aload_n 0, []), (.getfield 20, [4, 1, 148, 2]), (.aload_n 0, []), (.getfield 24, [4, 2, 149, 0]), (.aload_n 0, []), (.getfield 14, [4, 0, 147, 2]), (.invokevirtual 34, [47, 402, 0, 1, 1, 5])]),
  (25, [(.iastore, []), (.aload_n 0, []), (.dup, []), (.getfield 24, [4, 2, 149, 0]), (.iconst 1, []), (.iadd, []), (.putfield 24, [4, 2, 149, 0]), (.aload_n 0, []), (.bipush (-9), []), (.putfield 28, [4, 3, 150, 0]), (.iconst 1, []), (.ireturn, [])])]
def zc_pa_takeClosing : List (Nat × List zIns) := [
  (0, [(.aload_n 0, []), (.getfield 24, [4, 2, 149, 0]), (.ifCond .ne 5, [9]), (.iconst 0, []), (.ireturn, [])]),
  (9, [(.aload_n 0, []), (.dup, []), (.getfield 24, [4, 2, 149, 0]), (.iconst 1, []), (.isub, []), (.putfield 24, [4, 2, 149, 0]), (.aload_n 0, []), (.aload_n 0, []), (.getfield 20, [4, 1, 148, 2]), (.aload_n 0, []), (.getfield 24, [4, 2, 149, 0]), (.iaload, []), (.putfield 28, [4, 3, 150, 0]), (.iconst 1, []), (.ireturn, [])])]
def zc_pa_takeTimes : List (Nat × List zIns) := [
  (0, [(.aload_n 0, []), (.getfield 28, [4, 3, 150, 0]), (.bipush (-9), []), (.if_icmp .ne 5, [11]), (.iconst 0, []), (.ireturn, [])]),
  (11, [(.aload_n 0, []), (.getfield 14, [4, 0, 147, 2]), (.invokevirtual 34, [47, 402, 0, 1, 1, 5])]),
  (18, [(.aload_n 0, []), (.getfield 28, [4, 3, 150, 0]), (.isub, []), (.istore_n 2, []), (.iload_n 1, []), (.ifCond .ne 14, [39]), (.aload_n 0, []), (.getfield 14, [4, 0, 147, 2]), (.aload_n 0, []), (.getfield 28, [4, 3, 150, 0]), (.invokevirtual 62, [52, 437, 0, 2, 0, 5])]),
  (39, [(.iconst 1, []), (.istore_n 3, [])]),
  (41, [(.iload_n 3, []), (.iload_n 1, []), (.if_icmp .ge 25, [68]), (.aload_n 0, []), (.getfield 14, [4, 0, 147, 2]), (.aload_n 0, []), (.getfield 14, [4, 0, 147, 2]), (.aload_n 0, []), (.getfield 28, [4, 3, 150, 0]), (.iload_n 2, []), (.invokevirtual 65, [57, 441, 0, 4, 0, 5])]),
  (62, [(.iinc 3 1, []), (.goto (-24), [41])]),
  (68, [(.aload_n 0, []), (.bipush (-9), []), (.putfield 28, [4, 3, 150, 0]), (.iconst 1, []), (.ireturn, [])])]
def zc_pa_readRules : List (Nat × List zIns) := [
  (0, [(.iconst 0, []), (.istore_n 3, []), (.iconst 0, []), (.istore 4, []), (.bipush (-9), []), (.istore 5, []), (.iconst 0, []), (.istore 6, []), (.iconst 0, []), (.istore 7, [])]),
  (15, [(.iload 7, []), (.aload_n 1, []), (.invokevirtual 34, [47, 402, 0, 1, 1, 5])]),
  (21, [(.if_icmp .ge 141, [162]), (.aload_n 1, []), (.iload 7, []), (.invokevirtual 38, [48, 403, 0, 2, 1, 5])]),
  (30, [(.istore 8, []), (.iload 8, []), (.invokestatic 46, [45, 407, 1, 1, 4, 4])]),
  (37, [(.ifCond .eq 11, [48]), (.iload 8, []), (.bipush 97, []), (.isub, []), (.goto 5, [50])]),
  (48, [(.bipush (-9), [])]),
  (50, [(.istore 9, []), (.iload_n 3, []), (.ifCond .ne 18, [71]), (.iload 8, []), (.bipush 60, []), (.if_icmp .ne 11, [71]), (.iconst 1, []), (.istore 4, []), (.iconst 1, []), (.istore_n 3, []), (.goto 88, [156])]),
  (71, [(.iload_n 3, []), (.iconst 1, []), (.if_icmp .gt 19, [92]), (.iload 9, []), (.bipush (-9), []), (.if_icmp .eq 12, [92]), (.iload 9, []), (.istore 5, []), (.iconst 2, []), (.istore_n 3, []), (.goto 67, [156])]),
  (92, [(.iload_n 3, []), (.iconst 2, []), (.if_icmp .ne 35, [129]), (.iload 9, []), (.bipush (-9), []), (.if_icmp .eq 28, [129]), (.iload 9, []), (.iload 5, []), (.if_icmp .eq 21, [129]), (.aload_n 2, []), (.iload 4, []), (.iload 5, []), (.iload 9, []), (.invokestatic 69, [44, 410, 1, 4, 0, 4])]),
  (121, [(.iinc 6 1, []), (.iconst 3, []), (.istore_n 3, []), (.goto 30, [156])]),
  (129, [(.iload_n 3, []), (.iconst 3, []), (.if_icmp .ne 18, [149]), (.iload 8, []), (.bipush 44, []), (.if_icmp .ne 11, [149]), (.iconst 0, []), (.istore 4, []), (.iconst 0, []), (.istore_n 3, []), (.goto 10, [156])]),
  (149, [(.sipush (-1000), []), (.iload 7, []), (.isub, []), (.ireturn, [])]),
  (156, [(.iinc 7 1, []), (.goto (-144), [15])]),
  (162, [(.iload_n 3, []), (.iconst 3, []), (.if_icmp .ne 8, [172]), (.iload 6, []), (.goto 11, [180])]),
  (172, [(.sipush (-1000), []), (.aload_n 1, []), (.invokevirtual 34, [47, 402, 0, 1, 1, 5])]),
  (179, [(.isub, [])]),
  (180, [(.ireturn, [])])]
def zc_pa_change : List (Nat × List zIns) := [
  (0, [(.iload_n 1, []), (.ifCond .eq 12, [13]), (.aload_n 0, []), (.iload_n 2, []), (.iload_n 3, []), (.invokevirtual 73, [20, 413, 0, 3, 0, 2])]),
  (10, [(.goto 9, [19])]),
  (13, [(.aload_n 0, []), (.iload_n 2, []), (.iload_n 3, []), (.invokevirtual 79, [19, 414, 0, 3, 0, 2])]),
  (19, [(.return_, [])])]
def zc_pa_isLetter : List (Nat × List zIns) := [
  (0, [(.iload_n 0, []), (.bipush 97, []), (.if_icmp .lt 13, [16]), (.iload_n 0, []), (.bipush 103, []), (.if_icmp .ge 7, [16]), (.iconst 1, []), (.goto 4, [17])]),
  (16, [(.iconst 0, [])]),
  (17, [(.ireturn, [])])]
def zc_ro_init : List (Nat × List zIns) := [
  (0, [(.aload_n 0, []), (.invokespecial 3, [999, 97, 5]), (.aload_n 0, []), (.iconst 0, []), (.putfield 9, [5, 1, 102, 0]), (.aload_n 0, []), (.iload_n 1, []), (.iconst 0, []), (.invokestatic 15, [998, 98, 6]), (.newarray .int, [20]), (.putfield 21, [5, 0, 101, 2]), (.return_, [])])]
def zc_ro_size : List (Nat × List zIns) := [
  (0, [(.aload_n 0, []), (.getfield 9, [5, 1, 102, 0]), (.ireturn, [])])]
def zc_ro_get : List (Nat × List zIns) := [
  (0, [(.iload_n 1, []), (.ifCond .lt 20, [21]), (.iload_n 1, []), (.aload_n 0, []), (.getfield 9, [5, 1, 102, 0]), (.if_icmp .ge 12, [21]), (.aload_n 0, []), (.getfield 21, [5, 0, 101, 2]), (.iload_n 1, []), (.iaload, []), (.goto 5, [23])]),
  (21, [(.bipush (-9), [])]),
  (23, [(.ireturn, [])])]
def zc_ro_set : List (Nat × List zIns) := [
  (0, [(.iload_n 1, []), (.ifCond .lt 18, [19]), (.iload_n 1, []), (.aload_n 0, []), (.getfield 9, [5, 1, 102, 0]), (.if_icmp .ge 10, [19]), (.aload_n 0, []), (.getfield 21, [5, 0, 101, 2]), (.iload_n 1, []), (.iload_n 2, []), (.iastore, [])]),
  (19, [(.return_, [])])]
def zc_ro_has : List (Nat × List zIns) := [
  (0, [(.iload_n 2, []), (.ifCond .eq 25, [26]), (.iload_n 1, []), (.ifCond .lt 25, [30]), (.iload_n 2, []), (.ifCond .le 21, [30]), (.iload_n 1, []), (.i2l, []), (.iload_n 2, []), (.i2l, []), (.ladd, []), (.aload_n 0, []), (.getfield 9, [5, 1, 102, 0]), (.i2l, []), (.lcmp, []), (.ifCond .gt 7, [30])]),
  (26, [(.iconst 1, []), (.goto 4, [31])]),
  (30, [(.iconst 0, [])]),
  (31, [(.ireturn, [])])]
def zc_ro_clear : List (Nat × List zIns) := [
  (0, [(.aload_n 0, []), (.iconst 0, []), (.putfield 9, [5, 1, 102, 0]), (.return_, [])])]
def zc_ro_shorten : List (Nat × List zIns) := [
  (0, [(.iload_n 1, []), (.ifCond .lt 16, [17]), (.iload_n 1, []), (.aload_n 0, []), (.getfield 9, [5, 1, 102, 0]), (.if_icmp .ge 8, [17]), (.aload_n 0, []), (.iload_n 1, []), (.putfield 9, [5, 1, 102, 0])]),
  (17, [(.return_, [])])]
def zc_ro_add : List (Nat × List zIns) := [
  (0, [(.aload_n 0, []), (.getfield 9, [5, 1, 102, 0]), (.aload_n 0, []), (.getfield 21, [5, 0, 101, 2]), (.arraylength, []), (.if_icmp .ge 23, [32]), (.aload_n 0, []), (.getfield 21, [5, 0, 101, 2]), (.aload_n 0, []), (.getfield 9, [5, 1, 102, 0]), (.iload_n 1, []), (.iastore, []), (.aload_n 0, []), (.dup, []), (.getfield 9, [5, 1, 102, 0]), (.iconst 1, []), (.iadd, []), (.putfield 9, [5, 1, 102, 0])]),
  (32, [(.return_, [])])]
def zc_ro_insert : List (Nat × List zIns) := [
  (0, [(.iload_n 1, []), (.ifCond .lt 23, [24]), (.iload_n 1, []), (.aload_n 0, []), (.getfield 9, [5, 1, 102, 0]), (.if_icmp .gt 15, [24]), (.aload_n 0, []), (.getfield 9, [5, 1, 102, 0]), (.aload_n 0, []), (.getfield 21, [5, 0, 101, 2]), (.arraylength, []), (.if_icmp .lt 4, [25])]),
  (24, [(.return_, [])]),
  (25, [(.aload_n 0, []), (.getfield 9, [5, 1, 102, 0]), (.istore_n 3, [])]),
  (30, [(.iload_n 3, []), (.iload_n 1, []), (.if_icmp .le 23, [55]), (.aload_n 0, []), (.getfield 21, [5, 0, 101, 2]), (.iload_n 3, []), (.aload_n 0, []), (.getfield 21, [5, 0, 101, 2]), (.iload_n 3, []), (.iconst 1, []), (.isub, []), (.iaload, []), (.iastore, []), (.iinc 3 (-1), []), (.goto (-22), [30])]),
  (55, [(.aload_n 0, []), (.getfield 21, [5, 0, 101, 2]), (.iload_n 1, []), (.iload_n 2, []), (.iastore, []), (.aload_n 0, []), (.dup, []), (.getfield 9, [5, 1, 102, 0]), (.iconst 1, []), (.iadd, []), (.putfield 9, [5, 1, 102, 0]), (.return_, [])])]
def zc_ro_addTimes : List (Nat × List zIns) := [
  (0, [(.iload_n 2, []), (.aload_n 0, []), (.getfield 21, [5, 0, 101, 2]), (.arraylength, []), (.invokestatic 25, [998, 449, 7]), (.istore_n 3, []), (.iconst 0, []), (.istore 4, [])]),
  (13, [(.iload 4, []), (.iload_n 3, []), (.if_icmp .ge 14, [30]), (.aload_n 0, []), (.iload_n 1, []), (.invokevirtual 28, [53, 611, 0, 2, 0, 5])]),
  (24, [(.iinc 4 1, []), (.goto (-14), [13])]),
  (30, [(.return_, [])])]
def zc_ro_append : List (Nat × List zIns) := [
  (0, [(.aload_n 0, []), (.aload_n 1, []), (.iconst 0, []), (.aload_n 1, []), (.getfield 9, [5, 1, 102, 0]), (.invokevirtual 32, [57, 476, 0, 4, 0, 5])]),
  (10, [(.return_, [])])]
def zc_ro_appendPiece : List (Nat × List zIns) := [
  (0, [(.aload_n 1, []), (.iload_n 2, []), (.iload_n 3, []), (.invokevirtual 36, [50, 445, 0, 3, 4, 5])]),
  (6, [(.ifCond .ne 4, [10]), (.return_, [])]),
  (10, [(.iload_n 3, []), (.aload_n 0, []), (.getfield 21, [5, 0, 101, 2]), (.arraylength, []), (.aload_n 0, []), (.getfield 9, [5, 1, 102, 0]), (.isub, []), (.invokestatic 25, [998, 449, 7]), (.istore 4, []), (.iconst 0, []), (.istore 5, [])]),
  (29, [(.iload 5, []), (.iload 4, []), (.if_icmp .ge 30, [63]), (.aload_n 0, []), (.getfield 21, [5, 0, 101, 2]), (.aload_n 0, []), (.getfield 9, [5, 1, 102, 0]), (.iload 5, []), (.iadd, []), (.aload_n 1, []), (.getfield 21, [5, 0, 101, 2]), (.iload_n 2, []), (.iload 5, []), (.iadd, []), (.iaload, []), (.iastore, []), (.iinc 5 1, []), (.goto (-31), [29])]),
  (63, [(.aload_n 0, []), (.dup, []), (.getfield 9, [5, 1, 102, 0]), (.iload 4, []), (.iadd, []), (.putfield 9, [5, 1, 102, 0]), (.return_, [])])]
def zc_ro_appendTimes : List (Nat × List zIns) := [
  (0, [(.iload_n 2, []), (.aload_n 0, []), (.getfield 21, [5, 0, 101, 2]), (.arraylength, []), (.invokestatic 25, [998, 449, 7]), (.istore_n 3, []), (.iconst 0, []), (.istore 4, [])]),
  (13, [(.iload 4, []), (.iload_n 3, []), (.if_icmp .ge 14, [30]), (.aload_n 0, []), (.aload_n 1, []), (.invokevirtual 40, [56, 669, 0, 2, 0, 5])]),
  (24, [(.iinc 4 1, []), (.goto (-14), [13])]),
  (30, [(.return_, [])])]
def zc_ro_appendOnly : List (Nat × List zIns) := [
  (0, [(.iconst 0, []), (.istore_n 3, [])]),
  (2, [(.iload_n 3, []), (.aload_n 1, []), (.getfield 9, [5, 1, 102, 0]), (.if_icmp .ge 32, [39]), (.aload_n 1, []), (.iload_n 3, []), (.invokevirtual 44, [48, 539, 0, 2, 1, 5])]),
  (15, [(.istore 4, []), (.iload_n 2, []), (.iload 4, []), (.ishr, []), (.iconst 1, []), (.iand, []), (.iconst 1, []), (.if_icmp .ne 9, [33]), (.aload_n 0, []), (.iload 4, []), (.invokevirtual 28, [53, 611, 0, 2, 0, 5])]),
  (33, [(.iinc 3 1, []), (.goto (-34), [2])]),
  (39, [(.return_, [])])]
def zc_ro_copy : List (Nat × List zIns) := [
  (0, [(.aload_n 0, []), (.invokevirtual 48, [51, 475, 0, 1, 0, 5])]),
  (4, [(.aload_n 0, []), (.aload_n 1, []), (.iconst 0, []), (.aload_n 1, []), (.getfield 9, [5, 1, 102, 0]), (.invokevirtual 32, [57, 476, 0, 4, 0, 5])]),
  (14, [(.return_, [])])]
def zc_ro_overwrite : List (Nat × List zIns) := [
  (0, [(.iconst 0, []), (.istore_n 3, [])]),
  (2, [(.iload_n 3, []), (.aload_n 2, []), (.getfield 9, [5, 1, 102, 0]), (.if_icmp .ge 21, [28]), (.aload_n 0, []), (.iload_n 1, []), (.iload_n 3, []), (.iadd, []), (.aload_n 2, []), (.iload_n 3, []), (.invokevirtual 44, [48, 539, 0, 2, 1, 5])]),
  (19, [(.invokevirtual 51, [49, 817, 0, 3, 0, 5])]),
  (22, [(.iinc 3 1, []), (.goto (-23), [2])]),
  (28, [(.return_, [])])]
def zc_ro_swapWithNext : List (Nat × List zIns) := [
  (0, [(.aload_n 0, []), (.iload_n 1, []), (.invokevirtual 44, [48, 539, 0, 2, 1, 5])]),
  (5, [(.istore_n 2, []), (.aload_n 0, []), (.iload_n 1, []), (.aload_n 0, []), (.iload_n 1, []), (.iconst 1, []), (.iadd, []), (.invokevirtual 44, [48, 539, 0, 2, 1, 5])]),
  (15, [(.invokevirtual 51, [49, 817, 0, 3, 0, 5])]),
  (18, [(.aload_n 0, []), (.iload_n 1, []), (.iconst 1, []), (.iadd, []), (.iload_n 2, []), (.invokevirtual 51, [49, 817, 0, 3, 0, 5])]),
  (26, [(.return_, [])])]
def zc_ro_removeFirst : List (Nat × List zIns) := [
  (0, [(.aload_n 0, []), (.iload_n 1, []), (.iconst 0, []), (.invokevirtual 55, [64, 558, 0, 3, 1, 5])]),
  (6, [(.istore_n 2, []), (.iload_n 2, []), (.ifCond .ge 4, [12]), (.return_, [])]),
  (12, [(.iload_n 2, []), (.iconst 1, []), (.iadd, []), (.istore_n 3, [])]),
  (16, [(.iload_n 3, []), (.aload_n 0, []), (.getfield 9, [5, 1, 102, 0]), (.if_icmp .ge 23, [44]), (.aload_n 0, []), (.getfield 21, [5, 0, 101, 2]), (.iload_n 3, []), (.iconst 1, []), (.isub, []), (.aload_n 0, []), (.getfield 21, [5, 0, 101, 2]), (.iload_n 3, []), (.iaload, []), (.iastore, []), (.iinc 3 1, []), (.goto (-25), [16])]),
  (44, [(.aload_n 0, []), (.dup, []), (.getfield 9, [5, 1, 102, 0]), (.iconst 1, []), (.isub, []), (.putfield 9, [5, 1, 102, 0]), (.return_, [])])]
def zc_ro_placeOfTime : List (Nat × List zIns) := [
  (0, [(.iconst 0, []), (.istore_n 3, []), (.iconst 0, []), (.istore 4, [])]),
  (5, [(.iload 4, []), (.aload_n 0, []), (.getfield 9, [5, 1, 102, 0]), (.if_icmp .ge 31, [42]), (.aload_n 0, []), (.getfield 21, [5, 0, 101, 2]), (.iload 4, []), (.iaload, []), (.iload_n 1, []), (.if_icmp .ne 14, [36]), (.iload_n 3, []), (.iload_n 2, []), (.if_icmp .ne 6, [33]), (.iload 4, []), (.ireturn, [])]),
  (33, [(.iinc 3 1, [])]),
  (36, [(.iinc 4 1, []), (.goto (-34), [5])]),
  (42, [(.bipush (-9), []), (.ireturn, [])])]
def zc_ro_timesOf : List (Nat × List zIns) := [
  (0, [(.iconst 0, []), (.istore_n 2, []), (.iconst 0, []), (.istore_n 3, [])]),
  (4, [(.iload_n 3, []), (.aload_n 0, []), (.getfield 9, [5, 1, 102, 0]), (.if_icmp .ge 22, [31]), (.aload_n 0, []), (.getfield 21, [5, 0, 101, 2]), (.iload_n 3, []), (.iaload, []), (.iload_n 1, []), (.if_icmp .ne 6, [25]), (.iinc 2 1, [])]),
  (25, [(.iinc 3 1, []), (.goto (-24), [4])]),
  (31, [(.iload_n 2, []), (.ireturn, [])])]
def zc_ro_letters : List (Nat × List zIns) := [
  (0, [(.iconst 0, []), (.istore_n 1, []), (.iconst 0, []), (.istore_n 2, [])]),
  (4, [(.iload_n 2, []), (.aload_n 0, []), (.getfield 9, [5, 1, 102, 0]), (.if_icmp .ge 20, [29]), (.iload_n 1, []), (.iconst 1, []), (.aload_n 0, []), (.getfield 21, [5, 0, 101, 2]), (.iload_n 2, []), (.iaload, []), (.ishl, []), (.ior, []), (.istore_n 1, []), (.iinc 2 1, []), (.goto (-22), [4])]),
  (29, [(.iload_n 1, []), (.ireturn, [])])]
def zc_ro_isWord : List (Nat × List zIns) := [
  (0, [(.iconst 0, []), (.istore_n 1, [])]),
  (2, [(.iload_n 1, []), (.aload_n 0, []), (.getfield 9, [5, 1, 102, 0]), (.if_icmp .ge 23, [30]), (.aload_n 0, []), (.getfield 21, [5, 0, 101, 2]), (.iload_n 1, []), (.iaload, []), (.invokestatic 58, [138, 871, 3, 1, 4, 9])]),
  (19, [(.ifCond .eq 5, [24]), (.iconst 0, []), (.ireturn, [])]),
  (24, [(.iinc 1 1, []), (.goto (-25), [2])]),
  (30, [(.iconst 1, []), (.ireturn, [])])]
def zc_ro_same : List (Nat × List zIns) := [
  (0, [(.aload_n 0, []), (.getfield 9, [5, 1, 102, 0]), (.aload_n 1, []), (.getfield 9, [5, 1, 102, 0]), (.if_icmp .ne 17, [25]), (.aload_n 0, []), (.aload_n 1, []), (.invokevirtual 62, [69, 535, 0, 2, 1, 5])]),
  (16, [(.bipush (-9), []), (.if_icmp .ne 7, [25]), (.iconst 1, []), (.goto 4, [26])]),
  (25, [(.iconst 0, [])]),
  (26, [(.ireturn, [])])]
def zc_ro_firstOther : List (Nat × List zIns) := [
  (0, [(.iconst 0, []), (.istore_n 2, [])]),
  (2, [(.iload_n 2, []), (.aload_n 0, []), (.getfield 9, [5, 1, 102, 0]), (.if_icmp .ge 33, [40]), (.iload_n 2, []), (.aload_n 1, []), (.getfield 9, [5, 1, 102, 0]), (.if_icmp .ge 17, [32]), (.aload_n 0, []), (.getfield 21, [5, 0, 101, 2]), (.iload_n 2, []), (.iaload, []), (.aload_n 1, []), (.iload_n 2, []), (.invokevirtual 44, [48, 539, 0, 2, 1, 5])]),
  (29, [(.if_icmp .eq 5, [34])]),
  (32, [(.iload_n 2, []), (.ireturn, [])]),
  (34, [(.iinc 2 1, []), (.goto (-35), [2])]),
  (40, [(.bipush (-9), []), (.ireturn, [])])]
def zc_ro_howManyOther : List (Nat × List zIns) := [
  (0, [(.iconst 0, []), (.istore_n 2, []), (.iconst 0, []), (.istore_n 3, [])]),
  (4, [(.iload_n 3, []), (.aload_n 0, []), (.getfield 9, [5, 1, 102, 0]), (.if_icmp .ge 26, [35]), (.aload_n 0, []), (.getfield 21, [5, 0, 101, 2]), (.iload_n 3, []), (.iaload, []), (.aload_n 1, []), (.iload_n 3, []), (.invokevirtual 44, [48, 539, 0, 2, 1, 5])]),
  (23, [(.if_icmp .eq 6, [29]), (.iinc 2 1, [])]),
  (29, [(.iinc 3 1, []), (.goto (-28), [4])]),
  (35, [(.iload_n 2, []), (.ireturn, [])])]
def zc_sh_init : List (Nat × List zIns) := [
  (0, [(.aload_n 0, []), (.invokespecial 3, [999, 90, 5]), (.aload_n 0, []), (.iconst 5, []), (.anewarray 9, [24, 91]), (.putfield 11, [6, 0, 108, 2]), (.aload_n 0, []), (.new 9, [5, 91, 2]), (.dup, []), (.iconst 0, []), (.invokespecial 17, [46, 94, 2, 2, 0, 5])]),
  (21, [(.putfield 20, [6, 1, 109, 2]), (.aload_n 0, []), (.iconst 0, []), (.putfield 24, [6, 2, 110, 0]), (.iconst 0, []), (.istore_n 1, [])]),
  (31, [(.iload_n 1, []), (.iconst 5, []), (.if_icmp .ge 24, [57]), (.aload_n 0, []), (.getfield 11, [6, 0, 108, 2]), (.iload_n 1, []), (.new 9, [5, 91, 2]), (.dup, []), (.bipush 14, []), (.invokespecial 17, [46, 94, 2, 2, 0, 5])]),
  (50, [(.aastore, [24]), (.iinc 1 1, []), (.goto (-23), [31])]),
  (57, [(.return_, [])])]
def zc_sh_size : List (Nat × List zIns) := [
  (0, [(.aload_n 0, []), (.getfield 24, [6, 2, 110, 0]), (.ireturn, [])])]
def zc_sh_isFull : List (Nat × List zIns) := [
  (0, [(.aload_n 0, []), (.getfield 24, [6, 2, 110, 0]), (.iconst 5, []), (.if_icmp .lt 7, [12]), (.iconst 1, []), (.goto 4, [13])]),
  (12, [(.iconst 0, [])]),
  (13, [(.ireturn, [])])]
def zc_sh_row : List (Nat × List zIns) := [
  (0, [(.iload_n 1, []), (.ifCond .lt 20, [21]), (.iload_n 1, []), (.aload_n 0, []), (.getfield 24, [6, 2, 110, 0]), (.if_icmp .ge 12, [21]), (.aload_n 0, []), (.getfield 11, [6, 0, 108, 2]), (.iload_n 1, []), (.aaload, [24]), (.goto 7, [25])]),
  (21, [(.aload_n 0, []), (.getfield 20, [6, 1, 109, 2])]),
  (25, [(.areturn, [])])]
def zc_sh_place : List (Nat × List zIns) := [
  (0, [(.aload_n 0, []), (.invokevirtual 28, [73, 470, 0, 1, 4, 6])]),
  (4, [(.ifCond .eq 6, [10]), (.bipush (-9), []), (.ireturn, [])]),
  (10, [(.aload_n 0, []), (.getfield 11, [6, 0, 108, 2]), (.aload_n 0, []), (.getfield 24, [6, 2, 110, 0]), (.aaload, [24]), (.aload_n 1, []), (.invokevirtual 32, [60, 471, 0, 2, 0, 5])]),
  (23, [(.aload_n 0, []), (.dup, []), (.getfield 24, [6, 2, 110, 0]), (.iconst 1, []), (.iadd, []), (.putfield 24, [6, 2, 110, 0]), (.aload_n 0, []), (.getfield 24, [6, 2, 110, 0]), (.iconst 1, []), (.isub, []), (.ireturn, [])])]
def zc_sh_removeLast : List (Nat × List zIns) := [
  (0, [(.aload_n 0, []), (.getfield 24, [6, 2, 110, 0]), (.ifCond .le 13, [17]), (.aload_n 0, []), (.dup, []), (.getfield 24, [6, 2, 110, 0]), (.iconst 1, []), (.isub, []), (.putfield 24, [6, 2, 110, 0])]),
  (17, [(.return_, [])])]
def zc_sh_copy : List (Nat × List zIns) := [
  (0, [(.aload_n 0, []), (.aload_n 1, []), (.getfield 24, [6, 2, 110, 0]), (.putfield 24, [6, 2, 110, 0]), (.iconst 0, []), (.istore_n 2, [])]),
  (10, [(.iload_n 2, []), (.aload_n 0, []), (.getfield 24, [6, 2, 110, 0]), (.if_icmp .ge 24, [39]), (.aload_n 0, []), (.getfield 11, [6, 0, 108, 2]), (.iload_n 2, []), (.aaload, [24]), (.aload_n 1, []), (.getfield 11, [6, 0, 108, 2]), (.iload_n 2, []), (.aaload, [24]), (.invokevirtual 32, [60, 471, 0, 2, 0, 5])]),
  (33, [(.iinc 2 1, []), (.goto (-26), [10])]),
  (39, [(.return_, [])])]
def zc_sh_allLetters : List (Nat × List zIns) := [
  (0, [(.iconst 0, []), (.istore_n 1, []), (.iconst 0, []), (.istore_n 2, [])]),
  (4, [(.iload_n 2, []), (.aload_n 0, []), (.getfield 24, [6, 2, 110, 0]), (.if_icmp .ge 21, [30]), (.iload_n 1, []), (.aload_n 0, []), (.getfield 11, [6, 0, 108, 2]), (.iload_n 2, []), (.aaload, [24]), (.invokevirtual 36, [47, 921, 0, 1, 1, 5])]),
  (22, [(.iadd, []), (.istore_n 1, []), (.iinc 2 1, []), (.goto (-23), [4])]),
  (30, [(.iload_n 1, []), (.ireturn, [])])]
def zc_ta_init : List (Nat × List zIns) := [
  (0, [(.aload_n 0, []), (.invokespecial 3, [999, 205, 5]), (.aload_n 0, []), (.sipush 1296, []), (.newarray .long, [22]), (.putfield 11, [7, 0, 206, 2]), (.aload_n 0, []), (.sipush 1296, []), (.newarray .int, [20]), (.putfield 15, [7, 1, 207, 2]), (.aload_n 0, []), (.bipush 6, []), (.newarray .int, [20]), (.putfield 19, [7, 2, 208, 2]), (.aload_n 0, []), (.bipush 6, []), (.newarray .int, [20]), (.putfield 22, [7, 3, 209, 2]), (.aload_n 0, []), (.bipush 14, []), (.newarray .int, [20]), (.putfield 25, [7, 4, 210, 2]), (.aload_n 0, []), (.bipush 7, []), (.newarray .int, [20]), (.putfield 28, [7, 5, 211, 2]), (.aload_n 0, []), (.bipush 13, []), (.newarray .long, [22]), (.putfield 31, [7, 6, 212, 2]), (.return_, [])])]
def zc_ta_countAlike : List (Nat × List zIns) := [
  (0, [(.aload_n 1, []), (.invokevirtual 34, [47, 581, 0, 1, 1, 5])]),
  (4, [(.bipush 14, []), (.if_icmp .le 5, [11]), (.lconst 0, []), (.lreturn, [])]),
  (11, [(.aload_n 0, []), (.aload_n 1, []), (.aload_n 2, []), (.invokevirtual 40, [81, 582, 0, 3, 1, 7])]),
  (17, [(.istore_n 3, []), (.iload_n 3, []), (.iconst 1, []), (.if_icmp .lt 10, [30]), (.iload_n 3, []), (.sipush 1296, []), (.if_icmp .le 5, [32])]),
  (30, [(.lconst 0, []), (.lreturn, [])]),
  (32, [(.iconst 0, []), (.istore 4, [])]),
  (35, [(.iload 4, []), (.iload_n 3, []), (.if_icmp .ge 17, [55]), (.aload_n 0, []), (.getfield 11, [7, 0, 206, 2]), (.iload 4, []), (.lconst 0, []), (.lastore, []), (.iinc 4 1, []), (.goto (-17), [35])]),
  (55, [(.aload_n 0, []), (.getfield 11, [7, 0, 206, 2]), (.iconst 0, []), (.lconst 1, []), (.lastore, []), (.aload_n 0, []), (.getfield 15, [7, 1, 207, 2]), (.iconst 0, []), (.iconst 0, []), (.iastore, []), (.iconst 0, []), (.istore 4, [])]),
  (72, [(.iload 4, []), (.iload_n 3, []), (.if_icmp .ge 28, [103]), (.aload_n 0, []), (.getfield 11, [7, 0, 206, 2]), (.iload 4, []), (.laload, []), (.lconst 0, []), (.lcmp, []), (.ifCond .le 10, [97]), (.aload_n 0, []), (.iload 4, []), (.iload_n 3, []), (.invokevirtual 44, [82, 595, 0, 3, 0, 7])]),
  (97, [(.iinc 4 1, []), (.goto (-28), [72])]),
  (103, [(.aload_n 0, []), (.getfield 11, [7, 0, 206, 2]), (.iload_n 3, []), (.iconst 1, []), (.isub, []), (.laload, []), (.lreturn, [])])]
def zc_ta_prepare : List (Nat × List zIns) := [
  (0, [(.iconst 0, []), (.istore_n 3, [])]),
  (2, [(.iload_n 3, []), (.bipush 6, []), (.if_icmp .ge 16, [21]), (.aload_n 0, []), (.getfield 22, [7, 3, 209, 2]), (.iload_n 3, []), (.iconst 0, []), (.iastore, []), (.iinc 3 1, []), (.goto (-16), [2])]),
  (21, [(.iconst 0, []), (.istore_n 3, [])]),
  (23, [(.iload_n 3, []), (.aload_n 1, []), (.invokevirtual 34, [47, 581, 0, 1, 1, 5])]),
  (28, [(.if_icmp .ge 93, [121]), (.iload_n 3, []), (.bipush 14, []), (.if_icmp .ge 87, [121]), (.aload_n 1, []), (.iload_n 3, []), (.invokevirtual 48, [48, 586, 0, 2, 1, 5])]),
  (42, [(.istore 4, []), (.aload_n 0, []), (.getfield 25, [7, 4, 210, 2]), (.iload_n 3, []), (.iconst 0, []), (.iastore, []), (.iconst 0, []), (.istore 5, [])]),
  (54, [(.iload 5, []), (.bipush 6, []), (.if_icmp .ge 36, [94]), (.aload_n 2, []), (.iload 4, []), (.iload 5, []), (.invokevirtual 52, [18, 587, 0, 3, 4, 2])]),
  (69, [(.ifCond .ne 19, [88]), (.aload_n 0, []), (.getfield 25, [7, 4, 210, 2]), (.iload_n 3, []), (.dup2, []), (.iaload, []), (.aload_n 0, []), (.getfield 22, [7, 3, 209, 2]), (.iload 5, []), (.iaload, []), (.ior, []), (.iastore, [])]),
  (88, [(.iinc 5 1, []), (.goto (-37), [54])]),
  (94, [(.iload 4, []), (.invokestatic 58, [138, 588, 3, 1, 4, 9])]),
  (99, [(.ifCond .ne 16, [115]), (.aload_n 0, []), (.getfield 22, [7, 3, 209, 2]), (.iload 4, []), (.dup2, []), (.iaload, []), (.iconst 1, []), (.iload_n 3, []), (.ishl, []), (.ior, []), (.iastore, [])]),
  (115, [(.iinc 3 1, []), (.goto (-95), [23])]),
  (121, [(.iconst 1, []), (.istore_n 3, []), (.iconst 0, []), (.istore 4, [])]),
  (126, [(.iload 4, []), (.bipush 6, []), (.if_icmp .ge 32, [162]), (.aload_n 0, []), (.getfield 19, [7, 2, 208, 2]), (.iload 4, []), (.iload_n 3, []), (.iastore, []), (.iload_n 3, []), (.aload_n 0, []), (.getfield 22, [7, 3, 209, 2]), (.iload 4, []), (.iaload, []), (.invokestatic 62, [224, 589, 1, 1, 1, 99])]),
  (152, [(.iconst 1, []), (.iadd, []), (.imul, []), (.istore_n 3, []), (.iinc 4 1, []), (.goto (-33), [126])]),
  (162, [(.iload_n 3, []), (.ireturn, [])])]
def zc_ta_goOn : List (Nat × List zIns) := [
  (0, [(.iconst 0, []), (.istore_n 3, [])]),
  (2, [(.iload_n 3, []), (.bipush 6, []), (.if_icmp .ge 112, [117]), (.aload_n 0, []), (.getfield 22, [7, 3, 209, 2]), (.iload_n 3, []), (.iaload, []), (.aload_n 0, []), (.getfield 15, [7, 1, 207, 2]), (.iload_n 1, []), (.iaload, []), (.iconst (-1), []), (.ixor, []), (.iand, []), (.istore 4, []), (.iload 4, []), (.invokestatic 67, [223, 599, 1, 1, 1, 99])]),
  (30, [(.istore 5, []), (.iload 5, []), (.bipush 14, []), (.if_icmp .ge 75, [111]), (.aload_n 0, []), (.getfield 25, [7, 4, 210, 2]), (.iload 5, []), (.iaload, []), (.aload_n 0, []), (.getfield 15, [7, 1, 207, 2]), (.iload_n 1, []), (.iaload, []), (.iconst (-1), []), (.ixor, []), (.iand, []), (.ifCond .eq 6, [61]), (.goto 53, [111])]),
  (61, [(.iload_n 1, []), (.aload_n 0, []), (.getfield 19, [7, 2, 208, 2]), (.iload_n 3, []), (.iaload, []), (.iadd, []), (.istore 6, []), (.iload 6, []), (.iload_n 2, []), (.if_icmp .ge 37, [111]), (.aload_n 0, []), (.getfield 11, [7, 0, 206, 2]), (.iload 6, []), (.dup2, []), (.laload, []), (.aload_n 0, []), (.getfield 11, [7, 0, 206, 2]), (.iload_n 1, []), (.laload, []), (.ladd, []), (.lastore, []), (.aload_n 0, []), (.getfield 15, [7, 1, 207, 2]), (.iload 6, []), (.aload_n 0, []), (.getfield 15, [7, 1, 207, 2]), (.iload_n 1, []), (.iaload, []), (.iconst 1, []), (.iload 5, []), (.ishl, []), (.ior, []), (.iastore, [])]),
  (111, [(.iinc 3 1, []), (.goto (-112), [2])]),
  (117, [(.return_, [])])]
def zc_ta_countUnlike : List (Nat × List zIns) := [
  (0, [(.iconst 0, []), (.istore 4, [])]),
  (3, [(.iload 4, []), (.bipush 6, []), (.if_icmp .gt 17, [24]), (.aload_n 0, []), (.getfield 28, [7, 5, 211, 2]), (.iload 4, []), (.iconst 0, []), (.iastore, []), (.iinc 4 1, []), (.goto (-18), [3])]),
  (24, [(.iconst 0, []), (.istore 4, [])]),
  (27, [(.iload 4, []), (.iconst 1, []), (.iload_n 2, []), (.bipush 6, []), (.invokestatic 70, [998, 787, 7]), (.ishl, []), (.if_icmp .ge 32, [69]), (.aload_n 3, []), (.iload 4, []), (.invokevirtual 76, [29, 788, 0, 2, 4, 2])]),
  (46, [(.ifCond .eq 17, [63]), (.aload_n 0, []), (.getfield 28, [7, 5, 211, 2]), (.iload 4, []), (.invokestatic 62, [224, 589, 1, 1, 1, 99])]),
  (58, [(.dup2, []), (.iaload, []), (.iconst 1, []), (.iadd, []), (.iastore, [])]),
  (63, [(.iinc 4 1, []), (.goto (-39), [27])]),
  (69, [(.aload_n 0, []), (.getfield 31, [7, 6, 212, 2]), (.iconst 0, []), (.lconst 1, []), (.lastore, []), (.iload_n 1, []), (.bipush 12, []), (.invokestatic 70, [998, 787, 7]), (.istore 4, []), (.iconst 1, []), (.istore 5, [])]),
  (87, [(.iload 5, []), (.iload 4, []), (.if_icmp .gt 86, [177]), (.lconst 0, []), (.lstore 6, []), (.iconst 1, []), (.istore 8, [])]),
  (100, [(.iload 8, []), (.bipush 6, []), (.if_icmp .gt 58, [162]), (.iload 8, []), (.iload 5, []), (.if_icmp .gt 51, [162]), (.aload_n 0, []), (.getfield 28, [7, 5, 211, 2]), (.iload 8, []), (.iaload, []), (.i2l, []), (.aload_n 0, []), (.getfield 31, [7, 6, 212, 2]), (.iload 5, []), (.iload 8, []), (.isub, []), (.laload, []), (.lmul, []), (.lstore 9, []), (.lload 6, []), (.iload 8, []), (.iconst 2, []), (.irem, []), (.iconst 1, []), (.if_icmp .ne 8, [150]), (.lload 9, []), (.goto 6, [153])]),
  (150, [(.lload 9, []), (.lneg, [])]),
  (153, [(.ladd, []), (.lstore 6, []), (.iinc 8 1, []), (.goto (-59), [100])]),
  (162, [(.aload_n 0, []), (.getfield 31, [7, 6, 212, 2]), (.iload 5, []), (.lload 6, []), (.lastore, []), (.iinc 5 1, []), (.goto (-87), [87])]),
  (177, [(.iload 4, []), (.ifCond .lt 13, [192]), (.aload_n 0, []), (.getfield 31, [7, 6, 212, 2]), (.iload 4, []), (.laload, []), (.goto 4, [193])]),
  (192, [(.lconst 0, [])]),
  (193, [(.lreturn, [])])]
def zc_tu_init : List (Nat × List zIns) := [
  (0, [(.aload_n 0, []), (.invokespecial 3, [999, 234, 5]), (.aload_n 0, []), (.new 9, [2, 235, 2]), (.dup, []), (.invokespecial 11, [15, 236, 2, 1, 0, 2])]),
  (12, [(.putfield 12, [8, 2, 241, 2]), (.aload_n 0, []), (.new 18, [5, 237, 2]), (.dup, []), (.bipush 7, []), (.invokespecial 20, [46, 238, 2, 2, 0, 5])]),
  (25, [(.putfield 23, [8, 3, 242, 2]), (.aload_n 0, []), (.new 18, [5, 237, 2]), (.dup, []), (.bipush 7, []), (.invokespecial 20, [46, 238, 2, 2, 0, 5])]),
  (38, [(.putfield 27, [8, 4, 243, 2]), (.aload_n 0, []), (.bipush 64, []), (.newarray .int, [20]), (.putfield 30, [8, 5, 244, 2]), (.aload_n 0, []), (.bipush 64, []), (.newarray .int, [20]), (.putfield 34, [8, 6, 245, 2]), (.aload_n 0, []), (.bipush 64, []), (.newarray .int, [20]), (.putfield 37, [8, 7, 246, 2]), (.aload_n 0, []), (.iconst 0, []), (.putfield 40, [8, 8, 247, 0]), (.aload_n 0, []), (.iconst 0, []), (.putfield 44, [8, 9, 248, 0]), (.aload_n 0, []), (.aload_n 1, []), (.putfield 47, [8, 0, 239, 2]), (.aload_n 0, []), (.aload_n 2, []), (.putfield 50, [8, 1, 240, 2]), (.return_, [])])]
def zc_tu_found : List (Nat × List zIns) := [
  (0, [(.aload_n 0, []), (.getfield 40, [8, 8, 247, 0]), (.ireturn, [])])]
def zc_tu_explore : List (Nat × List zIns) := [
  (0, [(.aload_n 0, []), (.getfield 50, [8, 1, 240, 2]), (.aload_n 1, []), (.iconst 0, []), (.aload_n 0, []), (.getfield 23, [8, 3, 242, 2]), (.invokevirtual 54, [1, 723, 0, 4, 0, 0])]),
  (13, [(.aload_n 0, []), (.getfield 23, [8, 3, 242, 2]), (.invokestatic 60, [93, 724, 1, 1, 1, 8])]),
  (20, [(.istore_n 2, []), (.aload_n 0, []), (.getfield 40, [8, 8, 247, 0]), (.ifCond .le 28, [53]), (.aload_n 0, []), (.getfield 30, [8, 5, 244, 2]), (.iconst 0, []), (.iaload, []), (.iload_n 2, []), (.if_icmp .ne 18, [53]), (.aload_n 0, []), (.getfield 12, [8, 2, 241, 2]), (.aload_n 0, []), (.getfield 47, [8, 0, 239, 2]), (.invokevirtual 64, [22, 729, 0, 2, 4, 2])]),
  (49, [(.ifCond .eq 4, [53]), (.return_, [])]),
  (53, [(.aload_n 0, []), (.getfield 12, [8, 2, 241, 2]), (.aload_n 0, []), (.getfield 47, [8, 0, 239, 2]), (.invokevirtual 68, [21, 733, 0, 2, 0, 2])]),
  (64, [(.aload_n 0, []), (.aload_n 0, []), (.getfield 23, [8, 3, 242, 2]), (.invokevirtual 72, [47, 727, 0, 1, 1, 5])]),
  (72, [(.putfield 44, [8, 9, 248, 0]), (.aload_n 0, []), (.iconst 0, []), (.putfield 40, [8, 8, 247, 0]), (.aload_n 0, []), (.iload_n 2, []), (.iconst 0, []), (.invokevirtual 76, [88, 734, 0, 3, 0, 8])]),
  (86, [(.iconst 0, []), (.istore_n 3, [])]),
  (88, [(.iload_n 3, []), (.aload_n 0, []), (.getfield 40, [8, 8, 247, 0]), (.if_icmp .ge 20, [113]), (.iload_n 3, []), (.bipush 64, []), (.if_icmp .ge 14, [113]), (.aload_n 0, []), (.iload_n 3, []), (.invokevirtual 80, [87, 742, 0, 2, 0, 8])]),
  (107, [(.iinc 3 1, []), (.goto (-22), [88])]),
  (113, [(.aload_n 0, []), (.invokevirtual 83, [90, 755, 0, 1, 0, 8])]),
  (117, [(.return_, [])])]
def zc_tu_moveAll : List (Nat × List zIns) := [
  (0, [(.aload_n 0, []), (.aload_n 0, []), (.getfield 30, [8, 5, 244, 2]), (.iload_n 1, []), (.iaload, []), (.invokevirtual 86, [94, 746, 0, 2, 0, 8])]),
  (10, [(.aload_n 0, []), (.getfield 47, [8, 0, 239, 2]), (.aload_n 0, []), (.getfield 23, [8, 3, 242, 2]), (.invokevirtual 89, [24, 752, 0, 2, 1, 2])]),
  (21, [(.istore_n 2, []), (.iconst 0, []), (.istore_n 3, [])]),
  (24, [(.iload_n 3, []), (.bipush 6, []), (.if_icmp .ge 80, [107]), (.iload_n 2, []), (.iload_n 3, []), (.ishr, []), (.iconst 1, []), (.iand, []), (.iconst 1, []), (.if_icmp .ne 65, [101]), (.aload_n 0, []), (.getfield 27, [8, 4, 243, 2]), (.aload_n 0, []), (.getfield 23, [8, 3, 242, 2]), (.invokevirtual 92, [60, 753, 0, 2, 0, 5])]),
  (50, [(.aload_n 0, []), (.getfield 27, [8, 4, 243, 2]), (.iload_n 3, []), (.invokevirtual 95, [63, 754, 0, 2, 0, 5])]),
  (58, [(.aload_n 0, []), (.getfield 27, [8, 4, 243, 2]), (.iload_n 3, []), (.invokevirtual 98, [53, 751, 0, 2, 0, 5])]),
  (66, [(.aload_n 0, []), (.getfield 50, [8, 1, 240, 2]), (.aload_n 0, []), (.getfield 27, [8, 4, 243, 2]), (.iconst 0, []), (.aload_n 0, []), (.getfield 27, [8, 4, 243, 2]), (.invokevirtual 54, [1, 723, 0, 4, 0, 0])]),
  (82, [(.aload_n 0, []), (.aload_n 0, []), (.getfield 27, [8, 4, 243, 2]), (.invokestatic 60, [93, 724, 1, 1, 1, 8])]),
  (90, [(.aload_n 0, []), (.getfield 34, [8, 6, 245, 2]), (.iload_n 1, []), (.iaload, []), (.iconst 1, []), (.iadd, []), (.invokevirtual 76, [88, 734, 0, 3, 0, 8])]),
  (101, [(.iinc 3 1, []), (.goto (-80), [24])]),
  (107, [(.return_, [])])]
def zc_tu_note : List (Nat × List zIns) := [
  (0, [(.aload_n 0, []), (.iload_n 1, []), (.invokevirtual 101, [89, 738, 0, 2, 1, 8])]),
  (5, [(.ifCond .ge 42, [47]), (.aload_n 0, []), (.getfield 40, [8, 8, 247, 0]), (.bipush 64, []), (.if_icmp .ge 33, [47]), (.aload_n 0, []), (.getfield 30, [8, 5, 244, 2]), (.aload_n 0, []), (.getfield 40, [8, 8, 247, 0]), (.iload_n 1, []), (.iastore, []), (.aload_n 0, []), (.getfield 34, [8, 6, 245, 2]), (.aload_n 0, []), (.getfield 40, [8, 8, 247, 0]), (.iload_n 2, []), (.iastore, []), (.aload_n 0, []), (.dup, []), (.getfield 40, [8, 8, 247, 0]), (.iconst 1, []), (.iadd, []), (.putfield 40, [8, 8, 247, 0])]),
  (47, [(.return_, [])])]
def zc_tu_find : List (Nat × List zIns) := [
  (0, [(.iconst 0, []), (.istore_n 2, [])]),
  (2, [(.iload_n 2, []), (.aload_n 0, []), (.getfield 40, [8, 8, 247, 0]), (.if_icmp .ge 27, [34]), (.iload_n 2, []), (.bipush 64, []), (.if_icmp .ge 21, [34]), (.aload_n 0, []), (.getfield 30, [8, 5, 244, 2]), (.iload_n 2, []), (.iaload, []), (.iload_n 1, []), (.if_icmp .ne 5, [28]), (.iload_n 2, []), (.ireturn, [])]),
  (28, [(.iinc 2 1, []), (.goto (-29), [2])]),
  (34, [(.bipush (-9), []), (.ireturn, [])])]
def zc_tu_sortCodes : List (Nat × List zIns) := [
  (0, [(.iconst 0, []), (.istore_n 1, [])]),
  (2, [(.iload_n 1, []), (.aload_n 0, []), (.getfield 40, [8, 8, 247, 0]), (.if_icmp .ge 67, [74]), (.iload_n 1, []), (.bipush 64, []), (.if_icmp .ge 61, [74]), (.aload_n 0, []), (.getfield 30, [8, 5, 244, 2]), (.iload_n 1, []), (.iaload, []), (.istore_n 2, []), (.iload_n 1, []), (.istore_n 3, [])]),
  (25, [(.iload_n 3, []), (.ifCond .le 35, [61]), (.aload_n 0, []), (.getfield 37, [8, 7, 246, 2]), (.iload_n 3, []), (.iconst 1, []), (.isub, []), (.iaload, []), (.iload_n 2, []), (.if_icmp .le 23, [61]), (.aload_n 0, []), (.getfield 37, [8, 7, 246, 2]), (.iload_n 3, []), (.aload_n 0, []), (.getfield 37, [8, 7, 246, 2]), (.iload_n 3, []), (.iconst 1, []), (.isub, []), (.iaload, []), (.iastore, []), (.iinc 3 (-1), []), (.goto (-33), [25])]),
  (61, [(.aload_n 0, []), (.getfield 37, [8, 7, 246, 2]), (.iload_n 3, []), (.iload_n 2, []), (.iastore, []), (.iinc 1 1, []), (.goto (-69), [2])]),
  (74, [(.return_, [])])]
def zc_tu_letterOf : List (Nat × List zIns) := [
  (0, [(.iload_n 1, []), (.ifCond .lt 17, [18]), (.iload_n 1, []), (.aload_n 0, []), (.getfield 40, [8, 8, 247, 0]), (.if_icmp .ge 9, [18]), (.iload_n 1, []), (.bipush 64, []), (.if_icmp .lt 6, [21])]),
  (18, [(.bipush (-9), []), (.ireturn, [])]),
  (21, [(.aload_n 0, []), (.aload_n 0, []), (.getfield 37, [8, 7, 246, 2]), (.iload_n 1, []), (.iaload, []), (.invokevirtual 86, [94, 746, 0, 2, 0, 8])]),
  (31, [(.aload_n 0, []), (.getfield 23, [8, 3, 242, 2]), (.iload_n 2, []), (.invokevirtual 105, [48, 728, 0, 2, 1, 5])]),
  (39, [(.ireturn, [])])]
def zc_tu_movesTo : List (Nat × List zIns) := [
  (0, [(.aload_n 0, []), (.getfield 50, [8, 1, 240, 2]), (.aload_n 1, []), (.iconst 0, []), (.aload_n 0, []), (.getfield 27, [8, 4, 243, 2]), (.invokevirtual 54, [1, 723, 0, 4, 0, 0])]),
  (13, [(.aload_n 0, []), (.aload_n 0, []), (.getfield 27, [8, 4, 243, 2]), (.invokestatic 60, [93, 724, 1, 1, 1, 8])]),
  (21, [(.invokevirtual 101, [89, 738, 0, 2, 1, 8])]),
  (24, [(.istore_n 2, []), (.iload_n 2, []), (.ifCond .ge 8, [34]), (.bipush (-9), []), (.goto 9, [40])]),
  (34, [(.aload_n 0, []), (.getfield 34, [8, 6, 245, 2]), (.iload_n 2, []), (.iaload, [])]),
  (40, [(.ireturn, [])])]
def zc_tu_codeOf : List (Nat × List zIns) := [
  (0, [(.iconst 1, []), (.istore_n 1, []), (.iconst 0, []), (.istore_n 2, [])]),
  (4, [(.iload_n 2, []), (.aload_n 0, []), (.invokevirtual 72, [47, 727, 0, 1, 1, 5])]),
  (9, [(.if_icmp .ge 25, [34]), (.iload_n 2, []), (.bipush 7, []), (.if_icmp .ge 19, [34]), (.iload_n 1, []), (.iconst 3, []), (.ishl, []), (.aload_n 0, []), (.iload_n 2, []), (.invokevirtual 105, [48, 728, 0, 2, 1, 5])]),
  (26, [(.ior, []), (.istore_n 1, []), (.iinc 2 1, []), (.goto (-27), [4])]),
  (34, [(.iload_n 1, []), (.ireturn, [])])]
def zc_tu_decode : List (Nat × List zIns) := [
  (0, [(.aload_n 0, []), (.getfield 23, [8, 3, 242, 2]), (.invokevirtual 108, [51, 750, 0, 1, 0, 5])]),
  (7, [(.aload_n 0, []), (.getfield 44, [8, 9, 248, 0]), (.iconst 1, []), (.isub, []), (.istore_n 2, [])]),
  (14, [(.iload_n 2, []), (.ifCond .lt 24, [39]), (.aload_n 0, []), (.getfield 23, [8, 3, 242, 2]), (.iload_n 1, []), (.iconst 3, []), (.iload_n 2, []), (.imul, []), (.ishr, []), (.bipush 7, []), (.iand, []), (.invokevirtual 98, [53, 751, 0, 2, 0, 5])]),
  (33, [(.iinc 2 (-1), []), (.goto (-22), [14])]),
  (39, [(.return_, [])])]
def zc_lt_init : List (Nat × List zIns) := [
  (0, [(.aload_n 0, []), (.invokespecial 3, [999, 68, 5]), (.aload_n 0, []), (.new 9, [2, 71, 2]), (.dup, []), (.invokespecial 11, [15, 73, 2, 1, 0, 2])]),
  (12, [(.putfield 12, [9, 0, 270, 2]), (.aload_n 0, []), (.new 9, [2, 71, 2]), (.dup, []), (.invokespecial 11, [15, 73, 2, 1, 0, 2])]),
  (23, [(.putfield 16, [9, 1, 271, 2]), (.aload_n 0, []), (.new 19, [6, 85, 3]), (.dup, []), (.invokespecial 21, [71, 87, 2, 1, 0, 6])]),
  (34, [(.putfield 22, [9, 2, 272, 2]), (.aload_n 0, []), (.new 26, [1, 118, 3]), (.dup, []), (.invokespecial 28, [10, 120, 2, 1, 0, 1])]),
  (45, [(.putfield 29, [9, 3, 273, 2]), (.aload_n 0, []), (.new 9, [2, 71, 2]), (.dup, []), (.invokespecial 11, [15, 73, 2, 1, 0, 2])]),
  (56, [(.putfield 33, [9, 4, 274, 2]), (.aload_n 0, []), (.new 19, [6, 85, 3]), (.dup, []), (.invokespecial 21, [71, 87, 2, 1, 0, 6])]),
  (67, [(.putfield 36, [9, 5, 275, 2]), (.aload_n 0, []), (.iconst 0, []), (.putfield 39, [9, 6, 276, 1]), (.aload_n 0, []), (.new 43, [5, 137, 2]), (.dup, []), (.bipush 72, []), (.invokespecial 45, [46, 138, 2, 2, 0, 5])]),
  (85, [(.putfield 48, [9, 7, 277, 2]), (.aload_n 0, []), (.new 52, [4, 139, 4]), (.dup, []), (.invokespecial 54, [36, 141, 4, 1, 0, 4])]),
  (96, [(.putfield 55, [9, 8, 278, 2]), (.aload_n 0, []), (.new 59, [3, 160, 3]), (.dup, []), (.invokespecial 61, [32, 162, 2, 1, 0, 3])]),
  (107, [(.putfield 62, [9, 9, 279, 2]), (.aload_n 0, []), (.bipush 6, []), (.newarray .int, [20]), (.putfield 66, [9, 10, 280, 2]), (.aload_n 0, []), (.new 70, [0, 179, 4]), (.dup, []), (.aload_n 0, []), (.getfield 12, [9, 0, 270, 2]), (.invokespecial 72, [0, 181, 2, 2, 0, 0])]),
  (130, [(.putfield 75, [9, 11, 281, 2]), (.aload_n 0, []), (.new 79, [7, 200, 7]), (.dup, []), (.invokespecial 81, [79, 202, 4, 1, 0, 7])]),
  (141, [(.putfield 82, [9, 12, 282, 2]), (.aload_n 0, []), (.new 86, [8, 229, 10]), (.dup, []), (.aload_n 0, []), (.getfield 12, [9, 0, 270, 2]), (.aload_n 0, []), (.getfield 75, [9, 11, 281, 2]), (.invokespecial 88, [84, 231, 2, 3, 0, 8])]),
  (160, [(.putfield 91, [9, 13, 283, 2]), (.aload_n 0, []), (.new 43, [5, 137, 2]), (.dup, []), (.bipush 28, []), (.invokespecial 45, [46, 138, 2, 2, 0, 5])]),
  (173, [(.putfield 95, [9, 14, 284, 2]), (.aload_n 0, []), (.new 43, [5, 137, 2]), (.dup, []), (.bipush 28, []), (.invokespecial 45, [46, 138, 2, 2, 0, 5])]),
  (186, [(.putfield 98, [9, 15, 285, 2]), (.return_, [])])]
def zc_lt_letter : List (Nat × List zIns) := [
  (0, [(.iload_n 1, []), (.ifCond .ge 10, [11]), (.aload_n 0, []), (.bipush (-4), []), (.invokevirtual 101, [134, 323, 0, 2, 1, 9])]),
  (10, [(.ireturn, [])]),
  (11, [(.iload_n 1, []), (.sipush 255, []), (.if_icmp .gt 15, [30]), (.aload_n 0, []), (.getfield 48, [9, 7, 277, 2]), (.invokevirtual 105, [47, 327, 0, 1, 1, 5])]),
  (25, [(.bipush 72, []), (.if_icmp .lt 10, [37])]),
  (30, [(.aload_n 0, []), (.bipush (-6), []), (.invokevirtual 101, [134, 323, 0, 2, 1, 9])]),
  (36, [(.ireturn, [])]),
  (37, [(.aload_n 0, []), (.getfield 48, [9, 7, 277, 2]), (.iload_n 1, []), (.invokevirtual 109, [53, 331, 0, 2, 0, 5])]),
  (45, [(.aload_n 0, []), (.getfield 48, [9, 7, 277, 2]), (.invokevirtual 105, [47, 327, 0, 1, 1, 5])]),
  (52, [(.ireturn, [])])]
def zc_lt_passes : List (Nat × List zIns) := [
  (0, [(.iload_n 1, []), (.iload_n 2, []), (.invokestatic 112, [139, 339, 1, 2, 4, 9])]),
  (5, [(.ifCond .eq 9, [14]), (.aload_n 0, []), (.iconst (-1), []), (.invokevirtual 101, [134, 323, 0, 2, 1, 9])]),
  (13, [(.ireturn, [])]),
  (14, [(.aload_n 0, []), (.getfield 29, [9, 3, 273, 2]), (.aload_n 0, []), (.getfield 12, [9, 0, 270, 2]), (.invokevirtual 116, [13, 345, 0, 2, 0, 1])]),
  (25, [(.aload_n 0, []), (.getfield 12, [9, 0, 270, 2]), (.iload_n 1, []), (.iload_n 2, []), (.invokevirtual 119, [19, 356, 0, 3, 0, 2])]),
  (34, [(.aload_n 0, []), (.getfield 12, [9, 0, 270, 2]), (.iload_n 1, []), (.iload_n 2, []), (.invokevirtual 123, [18, 361, 0, 3, 4, 2])]),
  (43, [(.invokestatic 126, [142, 370, 1, 1, 1, 9])]),
  (46, [(.ireturn, [])])]
def zc_lt_ranks : List (Nat × List zIns) := [
  (0, [(.iload_n 1, []), (.iload_n 2, []), (.invokestatic 112, [139, 339, 1, 2, 4, 9])]),
  (5, [(.ifCond .eq 9, [14]), (.aload_n 0, []), (.iconst (-1), []), (.invokevirtual 101, [134, 323, 0, 2, 1, 9])]),
  (13, [(.ireturn, [])]),
  (14, [(.aload_n 0, []), (.getfield 29, [9, 3, 273, 2]), (.aload_n 0, []), (.getfield 12, [9, 0, 270, 2]), (.invokevirtual 116, [13, 345, 0, 2, 0, 1])]),
  (25, [(.aload_n 0, []), (.getfield 12, [9, 0, 270, 2]), (.iload_n 1, []), (.iload_n 2, []), (.invokevirtual 130, [20, 377, 0, 3, 0, 2])]),
  (34, [(.aload_n 0, []), (.getfield 12, [9, 0, 270, 2]), (.iload_n 1, []), (.invokevirtual 133, [17, 381, 0, 2, 1, 2])]),
  (42, [(.ireturn, [])])]
def zc_lt_of : List (Nat × List zIns) := [
  (0, [(.iload_n 1, []), (.invokestatic 136, [138, 342, 1, 1, 4, 9])]),
  (4, [(.ifCond .eq 9, [13]), (.aload_n 0, []), (.iconst (-1), []), (.invokevirtual 101, [134, 323, 0, 2, 1, 9])]),
  (12, [(.ireturn, [])]),
  (13, [(.iload_n 2, []), (.invokestatic 140, [141, 389, 1, 1, 4, 9])]),
  (17, [(.ifCond .eq 10, [27]), (.aload_n 0, []), (.bipush (-2), []), (.invokevirtual 101, [134, 323, 0, 2, 1, 9])]),
  (26, [(.ireturn, [])]),
  (27, [(.iload_n 2, []), (.ifCond .ne 14, [42]), (.aload_n 0, []), (.getfield 12, [9, 0, 270, 2]), (.iload_n 1, []), (.invokevirtual 133, [17, 381, 0, 2, 1, 2])]),
  (39, [(.goto 11, [50])]),
  (42, [(.aload_n 0, []), (.getfield 12, [9, 0, 270, 2]), (.iload_n 1, []), (.invokevirtual 143, [16, 392, 0, 2, 1, 2])]),
  (50, [(.ireturn, [])])]
def zc_lt_rules : List (Nat × List zIns) := [
  (0, [(.aload_n 0, []), (.getfield 16, [9, 1, 271, 2]), (.aload_n 0, []), (.getfield 12, [9, 0, 270, 2]), (.invokevirtual 146, [21, 397, 0, 2, 0, 2])]),
  (11, [(.aload_n 0, []), (.getfield 55, [9, 8, 278, 2]), (.aload_n 0, []), (.getfield 48, [9, 7, 277, 2]), (.aload_n 0, []), (.getfield 16, [9, 1, 271, 2]), (.invokevirtual 149, [43, 398, 0, 3, 1, 4])]),
  (26, [(.istore_n 1, []), (.aload_n 0, []), (.getfield 48, [9, 7, 277, 2]), (.invokevirtual 153, [51, 415, 0, 1, 0, 5])]),
  (34, [(.iload_n 1, []), (.ifCond .le 25, [60]), (.aload_n 0, []), (.getfield 29, [9, 3, 273, 2]), (.aload_n 0, []), (.getfield 12, [9, 0, 270, 2]), (.invokevirtual 116, [13, 345, 0, 2, 0, 1])]),
  (49, [(.aload_n 0, []), (.getfield 12, [9, 0, 270, 2]), (.aload_n 0, []), (.getfield 16, [9, 1, 271, 2]), (.invokevirtual 146, [21, 397, 0, 2, 0, 2])]),
  (60, [(.iload_n 1, []), (.ireturn, [])])]
def zc_lt_word : List (Nat × List zIns) := [
  (0, [(.aload_n 0, []), (.getfield 55, [9, 8, 278, 2]), (.aload_n 0, []), (.getfield 48, [9, 7, 277, 2]), (.invokevirtual 156, [38, 423, 0, 2, 1, 4])]),
  (11, [(.istore_n 1, []), (.aload_n 0, []), (.getfield 48, [9, 7, 277, 2]), (.invokevirtual 153, [51, 415, 0, 1, 0, 5])]),
  (19, [(.iload_n 1, []), (.ifCond .ge 5, [25]), (.iload_n 1, []), (.ireturn, [])]),
  (25, [(.aload_n 0, []), (.getfield 55, [9, 8, 278, 2]), (.invokevirtual 160, [37, 458, 0, 1, 3, 4])]),
  (32, [(.astore_n 2, []), (.aload_n 2, []), (.invokevirtual 105, [47, 327, 0, 1, 1, 5])]),
  (37, [(.bipush 14, []), (.if_icmp .gt 13, [52]), (.aload_n 0, []), (.getfield 22, [9, 2, 272, 2]), (.invokevirtual 164, [73, 462, 0, 1, 4, 6])]),
  (49, [(.ifCond .eq 7, [56])]),
  (52, [(.sipush (-2000), []), (.ireturn, [])]),
  (56, [(.aload_n 0, []), (.getfield 22, [9, 2, 272, 2]), (.aload_n 2, []), (.invokevirtual 168, [75, 466, 0, 2, 1, 6])]),
  (64, [(.ireturn, [])])]
def zc_lt_at : List (Nat × List zIns) := [
  (0, [(.aload_n 0, []), (.iload_n 1, []), (.invokevirtual 171, [136, 481, 0, 2, 4, 9])]),
  (5, [(.ifCond .eq 9, [14]), (.aload_n 0, []), (.iconst (-1), []), (.invokevirtual 101, [134, 323, 0, 2, 1, 9])]),
  (13, [(.ireturn, [])]),
  (14, [(.iload_n 2, []), (.iconst (-1), []), (.if_icmp .ge 10, [26]), (.aload_n 0, []), (.bipush (-4), []), (.invokevirtual 101, [134, 323, 0, 2, 1, 9])]),
  (25, [(.ireturn, [])]),
  (26, [(.aload_n 0, []), (.getfield 22, [9, 2, 272, 2]), (.iload_n 1, []), (.invokevirtual 174, [74, 489, 0, 2, 3, 6])]),
  (34, [(.iload_n 2, []), (.invokestatic 178, [143, 493, 1, 2, 1, 9])]),
  (38, [(.ireturn, [])])]
def zc_lt_drop : List (Nat × List zIns) := [
  (0, [(.aload_n 0, []), (.getfield 22, [9, 2, 272, 2]), (.invokevirtual 182, [72, 485, 0, 1, 1, 6])]),
  (7, [(.ifCond .ne 10, [17]), (.aload_n 0, []), (.bipush (-3), []), (.invokevirtual 101, [134, 323, 0, 2, 1, 9])]),
  (16, [(.ireturn, [])]),
  (17, [(.aload_n 0, []), (.getfield 22, [9, 2, 272, 2]), (.invokevirtual 183, [76, 501, 0, 1, 0, 6])]),
  (24, [(.aload_n 0, []), (.getfield 22, [9, 2, 272, 2]), (.invokevirtual 182, [72, 485, 0, 1, 1, 6])]),
  (31, [(.ireturn, [])])]
def zc_lt_alike : List (Nat × List zIns) := [
  (0, [(.aload_n 0, []), (.iload_n 1, []), (.invokevirtual 171, [136, 481, 0, 2, 4, 9])]),
  (5, [(.ifCond .ne 11, [16]), (.aload_n 0, []), (.iload_n 2, []), (.invokevirtual 171, [136, 481, 0, 2, 4, 9])]),
  (13, [(.ifCond .eq 9, [22])]),
  (16, [(.aload_n 0, []), (.iconst (-1), []), (.invokevirtual 101, [134, 323, 0, 2, 1, 9])]),
  (21, [(.ireturn, [])]),
  (22, [(.aload_n 0, []), (.getfield 75, [9, 11, 281, 2]), (.aload_n 0, []), (.getfield 22, [9, 2, 272, 2]), (.iload_n 1, []), (.invokevirtual 174, [74, 489, 0, 2, 3, 6])]),
  (34, [(.aload_n 0, []), (.getfield 22, [9, 2, 272, 2]), (.iload_n 2, []), (.invokevirtual 174, [74, 489, 0, 2, 3, 6])]),
  (42, [(.invokevirtual 186, [3, 509, 0, 3, 4, 0])]),
  (45, [(.invokestatic 126, [142, 370, 1, 1, 1, 9])]),
  (48, [(.ireturn, [])])]
def zc_lt_blocks : List (Nat × List zIns) := [
  (0, [(.aload_n 0, []), (.iload_n 1, []), (.invokevirtual 171, [136, 481, 0, 2, 4, 9])]),
  (5, [(.ifCond .eq 9, [14]), (.aload_n 0, []), (.iconst (-1), []), (.invokevirtual 101, [134, 323, 0, 2, 1, 9])]),
  (13, [(.ireturn, [])]),
  (14, [(.iload_n 2, []), (.iconst (-1), []), (.if_icmp .ge 10, [26]), (.aload_n 0, []), (.bipush (-4), []), (.invokevirtual 101, [134, 323, 0, 2, 1, 9])]),
  (25, [(.ireturn, [])]),
  (26, [(.aload_n 0, []), (.getfield 75, [9, 11, 281, 2]), (.aload_n 0, []), (.getfield 22, [9, 2, 272, 2]), (.iload_n 1, []), (.invokevirtual 174, [74, 489, 0, 2, 3, 6])]),
  (38, [(.aload_n 0, []), (.getfield 95, [9, 14, 284, 2]), (.invokevirtual 190, [4, 544, 0, 3, 0, 0])]),
  (45, [(.iload_n 2, []), (.iconst (-1), []), (.if_icmp .ne 11, [58]), (.aload_n 0, []), (.getfield 95, [9, 14, 284, 2]), (.invokevirtual 105, [47, 327, 0, 1, 1, 5])]),
  (57, [(.ireturn, [])]),
  (58, [(.iload_n 2, []), (.aload_n 0, []), (.getfield 95, [9, 14, 284, 2]), (.invokevirtual 105, [47, 327, 0, 1, 1, 5])]),
  (66, [(.if_icmp .ge 14, [80]), (.aload_n 0, []), (.getfield 95, [9, 14, 284, 2]), (.iload_n 2, []), (.invokevirtual 194, [48, 496, 0, 2, 1, 5])]),
  (77, [(.goto 4, [81])]),
  (80, [(.iconst 0, [])]),
  (81, [(.ireturn, [])])]
def zc_lt_least : List (Nat × List zIns) := [
  (0, [(.aload_n 0, []), (.iload_n 1, []), (.invokevirtual 171, [136, 481, 0, 2, 4, 9])]),
  (5, [(.ifCond .eq 9, [14]), (.aload_n 0, []), (.iconst (-1), []), (.invokevirtual 101, [134, 323, 0, 2, 1, 9])]),
  (13, [(.ireturn, [])]),
  (14, [(.iload_n 2, []), (.ifCond .ge 10, [25]), (.aload_n 0, []), (.bipush (-4), []), (.invokevirtual 101, [134, 323, 0, 2, 1, 9])]),
  (24, [(.ireturn, [])]),
  (25, [(.iload_n 3, []), (.invokestatic 140, [141, 389, 1, 1, 4, 9])]),
  (29, [(.ifCond .eq 10, [39]), (.aload_n 0, []), (.bipush (-2), []), (.invokevirtual 101, [134, 323, 0, 2, 1, 9])]),
  (38, [(.ireturn, [])]),
  (39, [(.aload_n 0, []), (.getfield 75, [9, 11, 281, 2]), (.aload_n 0, []), (.getfield 22, [9, 2, 272, 2]), (.iload_n 1, []), (.invokevirtual 174, [74, 489, 0, 2, 3, 6])]),
  (51, [(.iload_n 3, []), (.iconst 1, []), (.if_icmp .ne 7, [60]), (.iconst 1, []), (.goto 4, [61])]),
  (60, [(.iconst 0, [])]),
  (61, [(.aload_n 0, []), (.getfield 95, [9, 14, 284, 2]), (.invokevirtual 197, [1, 567, 0, 4, 0, 0])]),
  (68, [(.aload_n 0, []), (.getfield 95, [9, 14, 284, 2]), (.iload_n 2, []), (.invokevirtual 194, [48, 496, 0, 2, 1, 5])]),
  (76, [(.ireturn, [])])]
def zc_lt_copies : List (Nat × List zIns) := [
  (0, [(.aload_n 0, []), (.iload_n 1, []), (.invokevirtual 171, [136, 481, 0, 2, 4, 9])]),
  (5, [(.ifCond .eq 9, [14]), (.aload_n 0, []), (.iconst (-1), []), (.invokevirtual 201, [135, 572, 0, 2, 2, 9])]),
  (13, [(.lreturn, [])]),
  (14, [(.aload_n 0, []), (.getfield 82, [9, 12, 282, 2]), (.aload_n 0, []), (.getfield 22, [9, 2, 272, 2]), (.iload_n 1, []), (.invokevirtual 174, [74, 489, 0, 2, 3, 6])]),
  (26, [(.aload_n 0, []), (.getfield 12, [9, 0, 270, 2]), (.invokevirtual 205, [80, 577, 0, 3, 2, 7])]),
  (33, [(.lreturn, [])])]
def zc_lt_seen : List (Nat × List zIns) := [
  (0, [(.aload_n 0, []), (.iload_n 1, []), (.invokevirtual 171, [136, 481, 0, 2, 4, 9])]),
  (5, [(.ifCond .ne 17, [22]), (.iload_n 2, []), (.invokestatic 136, [138, 342, 1, 1, 4, 9])]),
  (12, [(.ifCond .ne 10, [22]), (.iload_n 3, []), (.invokestatic 136, [138, 342, 1, 1, 4, 9])]),
  (19, [(.ifCond .eq 9, [28])]),
  (22, [(.aload_n 0, []), (.iconst (-1), []), (.invokevirtual 101, [134, 323, 0, 2, 1, 9])]),
  (27, [(.ireturn, [])]),
  (28, [(.iload 4, []), (.ifCond .ge 10, [40]), (.aload_n 0, []), (.bipush (-4), []), (.invokevirtual 101, [134, 323, 0, 2, 1, 9])]),
  (39, [(.ireturn, [])]),
  (40, [(.aload_n 0, []), (.getfield 95, [9, 14, 284, 2]), (.invokevirtual 153, [51, 415, 0, 1, 0, 5])]),
  (47, [(.aload_n 0, []), (.getfield 95, [9, 14, 284, 2]), (.aload_n 0, []), (.getfield 22, [9, 2, 272, 2]), (.iload_n 1, []), (.invokevirtual 174, [74, 489, 0, 2, 3, 6])]),
  (59, [(.iconst 1, []), (.iload_n 2, []), (.ishl, []), (.iconst 1, []), (.iload_n 3, []), (.ishl, []), (.ior, []), (.invokevirtual 209, [59, 607, 0, 3, 0, 5])]),
  (69, [(.aload_n 0, []), (.getfield 95, [9, 14, 284, 2]), (.iload 4, []), (.invokevirtual 194, [48, 496, 0, 2, 1, 5])]),
  (78, [(.ireturn, [])])]
def zc_lt_spread : List (Nat × List zIns) := [
  (0, [(.aload_n 0, []), (.iload_n 1, []), (.invokevirtual 171, [136, 481, 0, 2, 4, 9])]),
  (5, [(.ifCond .ne 10, [15]), (.iload_n 2, []), (.invokestatic 136, [138, 342, 1, 1, 4, 9])]),
  (12, [(.ifCond .eq 9, [21])]),
  (15, [(.aload_n 0, []), (.iconst (-1), []), (.invokevirtual 101, [134, 323, 0, 2, 1, 9])]),
  (20, [(.ireturn, [])]),
  (21, [(.iload_n 3, []), (.ifCond .ge 10, [32]), (.aload_n 0, []), (.bipush (-4), []), (.invokevirtual 101, [134, 323, 0, 2, 1, 9])]),
  (31, [(.ireturn, [])]),
  (32, [(.iload 4, []), (.invokestatic 140, [141, 389, 1, 1, 4, 9])]),
  (37, [(.ifCond .eq 10, [47]), (.aload_n 0, []), (.bipush (-2), []), (.invokevirtual 101, [134, 323, 0, 2, 1, 9])]),
  (46, [(.ireturn, [])]),
  (47, [(.aload_n 0, []), (.getfield 22, [9, 2, 272, 2]), (.iload_n 1, []), (.invokevirtual 174, [74, 489, 0, 2, 3, 6])]),
  (55, [(.astore 5, []), (.aload 5, []), (.iload_n 2, []), (.iload_n 3, []), (.invokevirtual 213, [64, 616, 0, 3, 1, 5])]),
  (64, [(.istore 6, []), (.iload 6, []), (.ifCond .ge 6, [74]), (.bipush (-9), []), (.ireturn, [])]),
  (74, [(.iload 4, []), (.ifCond .ne 16, [92]), (.aload_n 0, []), (.getfield 12, [9, 0, 270, 2]), (.aload 5, []), (.iload 6, []), (.iconst (-1), []), (.invokevirtual 217, [26, 617, 0, 4, 1, 2])]),
  (91, [(.ireturn, [])]),
  (92, [(.aload 5, []), (.invokevirtual 105, [47, 327, 0, 1, 1, 5])]),
  (97, [(.iconst 1, []), (.isub, []), (.aload_n 0, []), (.getfield 12, [9, 0, 270, 2]), (.aload 5, []), (.iload 6, []), (.iconst 1, []), (.invokevirtual 217, [26, 617, 0, 4, 1, 2])]),
  (111, [(.isub, []), (.ireturn, [])])]
def zc_lt_odds : List (Nat × List zIns) := [
  (0, [(.aload_n 0, []), (.iload_n 1, []), (.invokevirtual 171, [136, 481, 0, 2, 4, 9])]),
  (5, [(.ifCond .eq 9, [14]), (.aload_n 0, []), (.iconst (-1), []), (.invokevirtual 201, [135, 572, 0, 2, 2, 9])]),
  (13, [(.lreturn, [])]),
  (14, [(.iload_n 2, []), (.invokestatic 140, [141, 389, 1, 1, 4, 9])]),
  (18, [(.ifCond .eq 10, [28]), (.aload_n 0, []), (.bipush (-2), []), (.invokevirtual 201, [135, 572, 0, 2, 2, 9])]),
  (27, [(.lreturn, [])]),
  (28, [(.aload_n 0, []), (.getfield 12, [9, 0, 270, 2]), (.aload_n 0, []), (.getfield 22, [9, 2, 272, 2]), (.iload_n 1, []), (.invokevirtual 174, [74, 489, 0, 2, 3, 6])]),
  (40, [(.invokevirtual 221, [24, 625, 0, 2, 1, 2])]),
  (43, [(.istore_n 3, []), (.iload_n 3, []), (.invokestatic 224, [224, 626, 1, 1, 1, 99])]),
  (48, [(.istore 4, []), (.aload_n 0, []), (.getfield 12, [9, 0, 270, 2]), (.iload_n 3, []), (.invokevirtual 229, [25, 627, 0, 2, 1, 2])]),
  (58, [(.istore 5, []), (.iload 5, []), (.ifCond .ne 6, [68]), (.iload_n 2, []), (.i2l, []), (.lreturn, [])]),
  (68, [(.iload 5, []), (.iload 4, []), (.invokestatic 232, [144, 631, 1, 2, 1, 9])]),
  (75, [(.istore 6, []), (.iload_n 2, []), (.ifCond .ne 12, [90]), (.iload 5, []), (.iload 6, []), (.idiv, []), (.i2l, []), (.goto 9, [96])]),
  (90, [(.iload 4, []), (.iload 6, []), (.idiv, []), (.i2l, [])]),
  (96, [(.lreturn, [])])]
def zc_lt_begins : List (Nat × List zIns) := [
  (0, [(.aload_n 0, []), (.iload_n 1, []), (.invokevirtual 171, [136, 481, 0, 2, 4, 9])]),
  (5, [(.ifCond .ne 11, [16]), (.aload_n 0, []), (.iload_n 2, []), (.invokevirtual 171, [136, 481, 0, 2, 4, 9])]),
  (13, [(.ifCond .eq 9, [22])]),
  (16, [(.aload_n 0, []), (.iconst (-1), []), (.invokevirtual 101, [134, 323, 0, 2, 1, 9])]),
  (21, [(.ireturn, [])]),
  (22, [(.iload_n 3, []), (.iconst (-1), []), (.if_icmp .ge 10, [34]), (.aload_n 0, []), (.bipush (-4), []), (.invokevirtual 101, [134, 323, 0, 2, 1, 9])]),
  (33, [(.ireturn, [])]),
  (34, [(.aload_n 0, []), (.getfield 75, [9, 11, 281, 2]), (.aload_n 0, []), (.getfield 22, [9, 2, 272, 2]), (.iload_n 1, []), (.invokevirtual 174, [74, 489, 0, 2, 3, 6])]),
  (46, [(.aload_n 0, []), (.getfield 22, [9, 2, 272, 2]), (.iload_n 2, []), (.invokevirtual 174, [74, 489, 0, 2, 3, 6])]),
  (54, [(.aload_n 0, []), (.getfield 95, [9, 14, 284, 2]), (.invokevirtual 235, [5, 638, 0, 4, 4, 0])]),
  (61, [(.istore 4, []), (.iload_n 3, []), (.iconst (-1), []), (.if_icmp .ne 9, [74]), (.iload 4, []), (.invokestatic 126, [142, 370, 1, 1, 1, 9])]),
  (73, [(.ireturn, [])]),
  (74, [(.iload 4, []), (.ifCond .eq 14, [90]), (.aload_n 0, []), (.getfield 95, [9, 14, 284, 2]), (.iload_n 3, []), (.invokevirtual 194, [48, 496, 0, 2, 1, 5])]),
  (87, [(.goto 5, [92])]),
  (90, [(.bipush (-9), [])]),
  (92, [(.ireturn, [])])]
def zc_lt_common : List (Nat × List zIns) := [
  (0, [(.aload_n 0, []), (.iload_n 1, []), (.invokevirtual 171, [136, 481, 0, 2, 4, 9])]),
  (5, [(.ifCond .ne 11, [16]), (.aload_n 0, []), (.iload_n 2, []), (.invokevirtual 171, [136, 481, 0, 2, 4, 9])]),
  (13, [(.ifCond .eq 9, [22])]),
  (16, [(.aload_n 0, []), (.iconst (-1), []), (.invokevirtual 101, [134, 323, 0, 2, 1, 9])]),
  (21, [(.ireturn, [])]),
  (22, [(.iload_n 3, []), (.iconst (-1), []), (.if_icmp .ge 10, [34]), (.aload_n 0, []), (.bipush (-4), []), (.invokevirtual 101, [134, 323, 0, 2, 1, 9])]),
  (33, [(.ireturn, [])]),
  (34, [(.aload_n 0, []), (.getfield 75, [9, 11, 281, 2]), (.aload_n 0, []), (.getfield 22, [9, 2, 272, 2]), (.iload_n 1, []), (.invokevirtual 174, [74, 489, 0, 2, 3, 6])]),
  (46, [(.aload_n 0, []), (.getfield 22, [9, 2, 272, 2]), (.iload_n 2, []), (.invokevirtual 174, [74, 489, 0, 2, 3, 6])]),
  (54, [(.aload_n 0, []), (.getfield 95, [9, 14, 284, 2]), (.invokevirtual 239, [6, 646, 0, 4, 0, 0])]),
  (61, [(.aload_n 0, []), (.getfield 95, [9, 14, 284, 2]), (.iload_n 3, []), (.invokestatic 178, [143, 493, 1, 2, 1, 9])]),
  (69, [(.ireturn, [])])]
def zc_lt_product : List (Nat × List zIns) := [
  (0, [(.aload_n 0, []), (.iload_n 1, []), (.invokevirtual 171, [136, 481, 0, 2, 4, 9])]),
  (5, [(.ifCond .ne 11, [16]), (.aload_n 0, []), (.iload_n 2, []), (.invokevirtual 171, [136, 481, 0, 2, 4, 9])]),
  (13, [(.ifCond .eq 9, [22])]),
  (16, [(.aload_n 0, []), (.iconst (-1), []), (.invokevirtual 101, [134, 323, 0, 2, 1, 9])]),
  (21, [(.ireturn, [])]),
  (22, [(.aload_n 0, []), (.getfield 95, [9, 14, 284, 2]), (.aload_n 0, []), (.getfield 22, [9, 2, 272, 2]), (.iload_n 1, []), (.invokevirtual 174, [74, 489, 0, 2, 3, 6])]),
  (34, [(.invokevirtual 243, [60, 655, 0, 2, 0, 5])]),
  (37, [(.aload_n 0, []), (.getfield 95, [9, 14, 284, 2]), (.aload_n 0, []), (.getfield 22, [9, 2, 272, 2]), (.iload_n 2, []), (.invokevirtual 174, [74, 489, 0, 2, 3, 6])]),
  (49, [(.invokevirtual 246, [56, 656, 0, 2, 0, 5])]),
  (52, [(.aload_n 0, []), (.getfield 95, [9, 14, 284, 2]), (.invokevirtual 105, [47, 327, 0, 1, 1, 5])]),
  (59, [(.bipush 14, []), (.if_icmp .gt 13, [74]), (.aload_n 0, []), (.getfield 22, [9, 2, 272, 2]), (.invokevirtual 164, [73, 462, 0, 1, 4, 6])]),
  (71, [(.ifCond .eq 10, [81])]),
  (74, [(.aload_n 0, []), (.bipush (-6), []), (.invokevirtual 101, [134, 323, 0, 2, 1, 9])]),
  (80, [(.ireturn, [])]),
  (81, [(.aload_n 0, []), (.getfield 22, [9, 2, 272, 2]), (.aload_n 0, []), (.getfield 95, [9, 14, 284, 2]), (.invokevirtual 168, [75, 466, 0, 2, 1, 6])]),
  (92, [(.ireturn, [])])]
def zc_lt_power : List (Nat × List zIns) := [
  (0, [(.aload_n 0, []), (.iload_n 1, []), (.invokevirtual 171, [136, 481, 0, 2, 4, 9])]),
  (5, [(.ifCond .eq 9, [14]), (.aload_n 0, []), (.iconst (-1), []), (.invokevirtual 101, [134, 323, 0, 2, 1, 9])]),
  (13, [(.ireturn, [])]),
  (14, [(.iload_n 2, []), (.ifCond .ge 10, [25]), (.aload_n 0, []), (.bipush (-4), []), (.invokevirtual 101, [134, 323, 0, 2, 1, 9])]),
  (24, [(.ireturn, [])]),
  (25, [(.aload_n 0, []), (.getfield 22, [9, 2, 272, 2]), (.iload_n 1, []), (.invokevirtual 174, [74, 489, 0, 2, 3, 6])]),
  (33, [(.astore_n 3, []), (.aload_n 3, []), (.invokevirtual 105, [47, 327, 0, 1, 1, 5])]),
  (38, [(.i2l, []), (.iload_n 2, []), (.i2l, []), (.lmul, []), (.ldc2_w 249, [14, 664]), (.lcmp, []), (.ifCond .gt 13, [59]), (.aload_n 0, []), (.getfield 22, [9, 2, 272, 2]), (.invokevirtual 164, [73, 462, 0, 1, 4, 6])]),
  (56, [(.ifCond .eq 10, [66])]),
  (59, [(.aload_n 0, []), (.bipush (-6), []), (.invokevirtual 101, [134, 323, 0, 2, 1, 9])]),
  (65, [(.ireturn, [])]),
  (66, [(.aload_n 0, []), (.getfield 95, [9, 14, 284, 2]), (.invokevirtual 153, [51, 415, 0, 1, 0, 5])]),
  (73, [(.aload_n 0, []), (.getfield 95, [9, 14, 284, 2]), (.aload_n 3, []), (.iload_n 2, []), (.invokevirtual 251, [58, 665, 0, 3, 0, 5])]),
  (82, [(.aload_n 0, []), (.getfield 22, [9, 2, 272, 2]), (.aload_n 0, []), (.getfield 95, [9, 14, 284, 2]), (.invokevirtual 168, [75, 466, 0, 2, 1, 6])]),
  (93, [(.ireturn, [])])]
def zc_lt_changes : List (Nat × List zIns) := [
  (0, [(.aload_n 0, []), (.iload_n 1, []), (.invokevirtual 171, [136, 481, 0, 2, 4, 9])]),
  (5, [(.ifCond .ne 11, [16]), (.aload_n 0, []), (.iload_n 2, []), (.invokevirtual 171, [136, 481, 0, 2, 4, 9])]),
  (13, [(.ifCond .eq 9, [22])]),
  (16, [(.aload_n 0, []), (.iconst (-1), []), (.invokevirtual 101, [134, 323, 0, 2, 1, 9])]),
  (21, [(.ireturn, [])]),
  (22, [(.aload_n 0, []), (.getfield 95, [9, 14, 284, 2]), (.aload_n 0, []), (.getfield 22, [9, 2, 272, 2]), (.iload_n 1, []), (.invokevirtual 174, [74, 489, 0, 2, 3, 6])]),
  (34, [(.invokevirtual 243, [60, 655, 0, 2, 0, 5])]),
  (37, [(.aload_n 0, []), (.getfield 95, [9, 14, 284, 2]), (.aload_n 0, []), (.getfield 22, [9, 2, 272, 2]), (.iload_n 2, []), (.invokevirtual 174, [74, 489, 0, 2, 3, 6])]),
  (49, [(.invokevirtual 246, [56, 656, 0, 2, 0, 5])]),
  (52, [(.aload_n 0, []), (.getfield 98, [9, 15, 285, 2]), (.aload_n 0, []), (.getfield 22, [9, 2, 272, 2]), (.iload_n 2, []), (.invokevirtual 174, [74, 489, 0, 2, 3, 6])]),
  (64, [(.invokevirtual 243, [60, 655, 0, 2, 0, 5])]),
  (67, [(.aload_n 0, []), (.getfield 98, [9, 15, 285, 2]), (.aload_n 0, []), (.getfield 22, [9, 2, 272, 2]), (.iload_n 1, []), (.invokevirtual 174, [74, 489, 0, 2, 3, 6])]),
  (79, [(.invokevirtual 246, [56, 656, 0, 2, 0, 5])]),
  (82, [(.aload_n 0, []), (.getfield 75, [9, 11, 281, 2]), (.aload_n 0, []), (.getfield 95, [9, 14, 284, 2]), (.aload_n 0, []), (.getfield 98, [9, 15, 285, 2]), (.invokevirtual 186, [3, 509, 0, 3, 4, 0])]),
  (97, [(.invokestatic 126, [142, 370, 1, 1, 1, 9])]),
  (100, [(.ireturn, [])])]
def zc_lt_root : List (Nat × List zIns) := [
  (0, [(.aload_n 0, []), (.iload_n 1, []), (.invokevirtual 171, [136, 481, 0, 2, 4, 9])]),
  (5, [(.ifCond .eq 9, [14]), (.aload_n 0, []), (.iconst (-1), []), (.invokevirtual 101, [134, 323, 0, 2, 1, 9])]),
  (13, [(.ireturn, [])]),
  (14, [(.iload_n 2, []), (.iconst (-1), []), (.if_icmp .ge 10, [26]), (.aload_n 0, []), (.bipush (-4), []), (.invokevirtual 101, [134, 323, 0, 2, 1, 9])]),
  (25, [(.ireturn, [])]),
  (26, [(.aload_n 0, []), (.getfield 22, [9, 2, 272, 2]), (.iload_n 1, []), (.invokevirtual 174, [74, 489, 0, 2, 3, 6])]),
  (34, [(.astore_n 3, []), (.aload_n 3, []), (.invokevirtual 105, [47, 327, 0, 1, 1, 5])]),
  (39, [(.ifCond .ne 10, [49]), (.aload_n 0, []), (.bipush (-3), []), (.invokevirtual 101, [134, 323, 0, 2, 1, 9])]),
  (48, [(.ireturn, [])]),
  (49, [(.aload_n 0, []), (.getfield 75, [9, 11, 281, 2]), (.aload_n 3, []), (.aload_n 0, []), (.getfield 95, [9, 14, 284, 2]), (.invokevirtual 254, [7, 678, 0, 3, 1, 0])]),
  (61, [(.istore 4, []), (.iload_n 2, []), (.iconst (-1), []), (.if_icmp .ne 8, [73]), (.iload 4, []), (.goto 11, [81])]),
  (73, [(.aload_n 0, []), (.getfield 95, [9, 14, 284, 2]), (.iload_n 2, []), (.invokevirtual 194, [48, 496, 0, 2, 1, 5])]),
  (81, [(.ireturn, [])])]
def zc_lt_parts : List (Nat × List zIns) := [
  (0, [(.aload_n 0, []), (.iload_n 1, []), (.invokevirtual 171, [136, 481, 0, 2, 4, 9])]),
  (5, [(.ifCond .ne 14, [19]), (.iload_n 2, []), (.iconst (-1), []), (.if_icmp .lt 9, [19]), (.iload_n 2, []), (.bipush 6, []), (.if_icmp .lt 9, [25])]),
  (19, [(.aload_n 0, []), (.iconst (-1), []), (.invokevirtual 101, [134, 323, 0, 2, 1, 9])]),
  (24, [(.ireturn, [])]),
  (25, [(.aload_n 0, []), (.getfield 22, [9, 2, 272, 2]), (.iload_n 1, []), (.invokevirtual 174, [74, 489, 0, 2, 3, 6])]),
  (33, [(.invokevirtual 258, [66, 698, 0, 1, 1, 5])]),
  (36, [(.istore_n 3, []), (.iload_n 2, []), (.iconst (-1), []), (.if_icmp .ne 14, [53]), (.aload_n 0, []), (.getfield 12, [9, 0, 270, 2]), (.iload_n 3, []), (.invokevirtual 261, [28, 702, 0, 2, 1, 2])]),
  (50, [(.goto 12, [62])]),
  (53, [(.aload_n 0, []), (.getfield 12, [9, 0, 270, 2]), (.iload_n 2, []), (.iload_n 3, []), (.invokevirtual 264, [27, 710, 0, 3, 1, 2])]),
  (62, [(.ireturn, [])])]
def zc_lt_turned : List (Nat × List zIns) := [
  (0, [(.aload_n 0, []), (.iload_n 1, []), (.invokevirtual 171, [136, 481, 0, 2, 4, 9])]),
  (5, [(.ifCond .eq 9, [14]), (.aload_n 0, []), (.iconst (-1), []), (.invokevirtual 101, [134, 323, 0, 2, 1, 9])]),
  (13, [(.ireturn, [])]),
  (14, [(.aload_n 0, []), (.iload_n 1, []), (.invokevirtual 267, [137, 715, 0, 2, 4, 9])]),
  (19, [(.ifCond .eq 10, [29]), (.aload_n 0, []), (.bipush (-6), []), (.invokevirtual 101, [134, 323, 0, 2, 1, 9])]),
  (28, [(.ireturn, [])]),
  (29, [(.aload_n 0, []), (.getfield 91, [9, 13, 283, 2]), (.aload_n 0, []), (.getfield 22, [9, 2, 272, 2]), (.iload_n 1, []), (.invokevirtual 174, [74, 489, 0, 2, 3, 6])]),
  (41, [(.invokevirtual 270, [86, 719, 0, 2, 0, 8])]),
  (44, [(.aload_n 0, []), (.getfield 91, [9, 13, 283, 2]), (.invokevirtual 273, [85, 759, 0, 1, 1, 8])]),
  (51, [(.ireturn, [])])]
def zc_lt_turn : List (Nat × List zIns) := [
  (0, [(.aload_n 0, []), (.iload_n 1, []), (.invokevirtual 171, [136, 481, 0, 2, 4, 9])]),
  (5, [(.ifCond .eq 9, [14]), (.aload_n 0, []), (.iconst (-1), []), (.invokevirtual 101, [134, 323, 0, 2, 1, 9])]),
  (13, [(.ireturn, [])]),
  (14, [(.iload_n 2, []), (.ifCond .lt 7, [22]), (.iload_n 3, []), (.ifCond .ge 10, [29])]),
  (22, [(.aload_n 0, []), (.bipush (-4), []), (.invokevirtual 101, [134, 323, 0, 2, 1, 9])]),
  (28, [(.ireturn, [])]),
  (29, [(.aload_n 0, []), (.iload_n 1, []), (.invokevirtual 267, [137, 715, 0, 2, 4, 9])]),
  (34, [(.ifCond .eq 10, [44]), (.aload_n 0, []), (.bipush (-6), []), (.invokevirtual 101, [134, 323, 0, 2, 1, 9])]),
  (43, [(.ireturn, [])]),
  (44, [(.aload_n 0, []), (.getfield 91, [9, 13, 283, 2]), (.aload_n 0, []), (.getfield 22, [9, 2, 272, 2]), (.iload_n 1, []), (.invokevirtual 174, [74, 489, 0, 2, 3, 6])]),
  (56, [(.invokevirtual 270, [86, 719, 0, 2, 0, 8])]),
  (59, [(.aload_n 0, []), (.getfield 91, [9, 13, 283, 2]), (.iload_n 2, []), (.iload_n 3, []), (.invokevirtual 276, [91, 767, 0, 3, 1, 8])]),
  (68, [(.ireturn, [])])]
def zc_lt_apart : List (Nat × List zIns) := [
  (0, [(.aload_n 0, []), (.iload_n 1, []), (.invokevirtual 171, [136, 481, 0, 2, 4, 9])]),
  (5, [(.ifCond .ne 11, [16]), (.aload_n 0, []), (.iload_n 2, []), (.invokevirtual 171, [136, 481, 0, 2, 4, 9])]),
  (13, [(.ifCond .eq 9, [22])]),
  (16, [(.aload_n 0, []), (.iconst (-1), []), (.invokevirtual 101, [134, 323, 0, 2, 1, 9])]),
  (21, [(.ireturn, [])]),
  (22, [(.aload_n 0, []), (.iload_n 1, []), (.invokevirtual 267, [137, 715, 0, 2, 4, 9])]),
  (27, [(.ifCond .ne 11, [38]), (.aload_n 0, []), (.iload_n 2, []), (.invokevirtual 267, [137, 715, 0, 2, 4, 9])]),
  (35, [(.ifCond .eq 10, [45])]),
  (38, [(.aload_n 0, []), (.bipush (-6), []), (.invokevirtual 101, [134, 323, 0, 2, 1, 9])]),
  (44, [(.ireturn, [])]),
  (45, [(.aload_n 0, []), (.getfield 91, [9, 13, 283, 2]), (.aload_n 0, []), (.getfield 22, [9, 2, 272, 2]), (.iload_n 1, []), (.invokevirtual 174, [74, 489, 0, 2, 3, 6])]),
  (57, [(.invokevirtual 270, [86, 719, 0, 2, 0, 8])]),
  (60, [(.aload_n 0, []), (.getfield 91, [9, 13, 283, 2]), (.aload_n 0, []), (.getfield 22, [9, 2, 272, 2]), (.iload_n 2, []), (.invokevirtual 174, [74, 489, 0, 2, 3, 6])]),
  (72, [(.invokevirtual 279, [92, 775, 0, 2, 1, 8])]),
  (75, [(.ireturn, [])])]
def zc_lt_unlike : List (Nat × List zIns) := [
  (0, [(.iload_n 1, []), (.ifCond .lt 8, [9]), (.iload_n 2, []), (.iconst 1, []), (.if_icmp .ge 10, [16])]),
  (9, [(.aload_n 0, []), (.bipush (-4), []), (.invokevirtual 201, [135, 572, 0, 2, 2, 9])]),
  (15, [(.lreturn, [])]),
  (16, [(.iload_n 1, []), (.bipush 12, []), (.if_icmp .gt 9, [28]), (.iload_n 2, []), (.bipush 6, []), (.if_icmp .le 10, [35])]),
  (28, [(.aload_n 0, []), (.bipush (-6), []), (.invokevirtual 201, [135, 572, 0, 2, 2, 9])]),
  (34, [(.lreturn, [])]),
  (35, [(.aload_n 0, []), (.getfield 82, [9, 12, 282, 2]), (.iload_n 1, []), (.iload_n 2, []), (.aload_n 0, []), (.getfield 12, [9, 0, 270, 2]), (.invokevirtual 282, [83, 783, 0, 4, 2, 7])]),
  (48, [(.lreturn, [])])]
def zc_lt_free : List (Nat × List zIns) := [
  (0, [(.aload_n 0, []), (.getfield 12, [9, 0, 270, 2]), (.invokevirtual 286, [30, 796, 0, 1, 1, 2])]),
  (7, [(.ireturn, [])])]
def zc_lt_lots : List (Nat × List zIns) := [
  (0, [(.aload_n 0, []), (.iload_n 1, []), (.invokevirtual 171, [136, 481, 0, 2, 4, 9])]),
  (5, [(.ifCond .eq 9, [14]), (.aload_n 0, []), (.iconst (-1), []), (.invokevirtual 101, [134, 323, 0, 2, 1, 9])]),
  (13, [(.ireturn, [])]),
  (14, [(.iload_n 2, []), (.iconst 1, []), (.if_icmp .ge 10, [26]), (.aload_n 0, []), (.bipush (-4), []), (.invokevirtual 101, [134, 323, 0, 2, 1, 9])]),
  (25, [(.ireturn, [])]),
  (26, [(.iload_n 2, []), (.bipush 60, []), (.if_icmp .le 10, [39]), (.aload_n 0, []), (.bipush (-6), []), (.invokevirtual 101, [134, 323, 0, 2, 1, 9])]),
  (38, [(.ireturn, [])]),
  (39, [(.iload 4, []), (.invokestatic 140, [141, 389, 1, 1, 4, 9])]),
  (44, [(.ifCond .eq 10, [54]), (.aload_n 0, []), (.bipush (-2), []), (.invokevirtual 101, [134, 323, 0, 2, 1, 9])]),
  (53, [(.ireturn, [])]),
  (54, [(.aload_n 0, []), (.getfield 22, [9, 2, 272, 2]), (.iload_n 1, []), (.invokevirtual 174, [74, 489, 0, 2, 3, 6])]),
  (62, [(.astore 5, []), (.aload 5, []), (.invokevirtual 105, [47, 327, 0, 1, 1, 5])]),
  (69, [(.iconst 2, []), (.if_icmp .ge 10, [80]), (.aload_n 0, []), (.bipush (-3), []), (.invokevirtual 101, [134, 323, 0, 2, 1, 9])]),
  (79, [(.ireturn, [])]),
  (80, [(.aload_n 0, []), (.getfield 95, [9, 14, 284, 2]), (.aload 5, []), (.invokevirtual 243, [60, 655, 0, 2, 0, 5])]),
  (89, [(.aload_n 0, []), (.getfield 12, [9, 0, 270, 2]), (.aload_n 0, []), (.getfield 95, [9, 14, 284, 2]), (.iload_n 2, []), (.iload_n 3, []), (.invokevirtual 289, [31, 805, 0, 4, 1, 2])]),
  (102, [(.istore 6, []), (.iload 4, []), (.ifCond .ne 8, [114]), (.iload 6, []), (.goto 12, [123])]),
  (114, [(.aload_n 0, []), (.getfield 95, [9, 14, 284, 2]), (.aload 5, []), (.invokevirtual 292, [70, 821, 0, 2, 1, 5])]),
  (123, [(.ireturn, [])])]
def zc_lt_list : List (Nat × List zIns) := [
  (0, [(.iload_n 1, []), (.invokestatic 295, [140, 829, 1, 1, 4, 9])]),
  (4, [(.ifCond .eq 9, [13]), (.aload_n 0, []), (.iconst (-1), []), (.invokevirtual 101, [134, 323, 0, 2, 1, 9])]),
  (12, [(.ireturn, [])]),
  (13, [(.iload_n 2, []), (.bipush 40, []), (.if_icmp .le 10, [26]), (.aload_n 0, []), (.bipush (-6), []), (.invokevirtual 101, [134, 323, 0, 2, 1, 9])]),
  (25, [(.ireturn, [])]),
  (26, [(.iload_n 2, []), (.ifCond .ge 6, [33]), (.bipush (-14), []), (.ireturn, [])]),
  (33, [(.aload_n 0, []), (.getfield 62, [9, 9, 279, 2]), (.iload_n 1, []), (.iload_n 2, []), (.invokevirtual 298, [35, 832, 0, 3, 0, 3])]),
  (42, [(.iconst 1, []), (.ireturn, [])])]
def zc_lt_put : List (Nat × List zIns) := [
  (0, [(.iload_n 1, []), (.invokestatic 295, [140, 829, 1, 1, 4, 9])]),
  (4, [(.ifCond .eq 9, [13]), (.aload_n 0, []), (.iconst (-1), []), (.invokevirtual 101, [134, 323, 0, 2, 1, 9])]),
  (12, [(.ireturn, [])]),
  (13, [(.aload_n 0, []), (.getfield 62, [9, 9, 279, 2]), (.iload_n 1, []), (.invokevirtual 301, [33, 846, 0, 2, 4, 3])]),
  (21, [(.ifCond .eq 6, [27]), (.bipush (-11), []), (.ireturn, [])]),
  (27, [(.aload_n 0, []), (.getfield 62, [9, 9, 279, 2]), (.iload_n 1, []), (.invokevirtual 304, [34, 850, 0, 2, 3, 3])]),
  (35, [(.astore 4, []), (.aload 4, []), (.iload_n 2, []), (.iconst 1, []), (.invokevirtual 305, [50, 854, 0, 3, 4, 5])]),
  (44, [(.ifCond .ne 6, [50]), (.bipush (-13), []), (.ireturn, [])]),
  (50, [(.aload 4, []), (.iload_n 2, []), (.iload_n 3, []), (.invokevirtual 308, [49, 855, 0, 3, 0, 5])]),
  (57, [(.iconst 1, []), (.ireturn, [])])]
def zc_lt_look : List (Nat × List zIns) := [
  (0, [(.iload_n 1, []), (.invokestatic 295, [140, 829, 1, 1, 4, 9])]),
  (4, [(.ifCond .eq 9, [13]), (.aload_n 0, []), (.iconst (-1), []), (.invokevirtual 201, [135, 572, 0, 2, 2, 9])]),
  (12, [(.lreturn, [])]),
  (13, [(.aload_n 0, []), (.getfield 62, [9, 9, 279, 2]), (.iload_n 1, []), (.invokevirtual 301, [33, 846, 0, 2, 4, 3])]),
  (21, [(.ifCond .eq 7, [28]), (.ldc2_w 311, [4000000000000000011, 860]), (.lreturn, [])]),
  (28, [(.aload_n 0, []), (.getfield 62, [9, 9, 279, 2]), (.iload_n 1, []), (.invokevirtual 304, [34, 850, 0, 2, 3, 3])]),
  (36, [(.astore_n 3, []), (.aload_n 3, []), (.iload_n 2, []), (.iconst 1, []), (.invokevirtual 305, [50, 854, 0, 3, 4, 5])]),
  (43, [(.ifCond .ne 7, [50]), (.ldc2_w 313, [4000000000000000013, 861]), (.lreturn, [])]),
  (50, [(.aload_n 3, []), (.iload_n 2, []), (.invokevirtual 194, [48, 496, 0, 2, 1, 5])]),
  (55, [(.i2l, []), (.lreturn, [])])]
def zc_lt_from : List (Nat × List zIns) := [
  (0, [(.iload_n 1, []), (.invokestatic 295, [140, 829, 1, 1, 4, 9])]),
  (4, [(.ifCond .eq 9, [13]), (.aload_n 0, []), (.iconst (-1), []), (.invokevirtual 101, [134, 323, 0, 2, 1, 9])]),
  (12, [(.ireturn, [])]),
  (13, [(.iload_n 3, []), (.ifCond .ge 10, [24]), (.aload_n 0, []), (.bipush (-4), []), (.invokevirtual 101, [134, 323, 0, 2, 1, 9])]),
  (23, [(.ireturn, [])]),
  (24, [(.iload_n 3, []), (.bipush 14, []), (.if_icmp .gt 13, [40]), (.aload_n 0, []), (.getfield 22, [9, 2, 272, 2]), (.invokevirtual 164, [73, 462, 0, 1, 4, 6])]),
  (37, [(.ifCond .eq 10, [47])]),
  (40, [(.aload_n 0, []), (.bipush (-6), []), (.invokevirtual 101, [134, 323, 0, 2, 1, 9])]),
  (46, [(.ireturn, [])]),
  (47, [(.aload_n 0, []), (.getfield 62, [9, 9, 279, 2]), (.iload_n 1, []), (.invokevirtual 301, [33, 846, 0, 2, 4, 3])]),
  (55, [(.ifCond .eq 6, [61]), (.bipush (-11), []), (.ireturn, [])]),
  (61, [(.aload_n 0, []), (.getfield 62, [9, 9, 279, 2]), (.iload_n 1, []), (.invokevirtual 304, [34, 850, 0, 2, 3, 3])]),
  (69, [(.astore 4, []), (.aload 4, []), (.iload_n 2, []), (.iload_n 3, []), (.invokevirtual 305, [50, 854, 0, 3, 4, 5])]),
  (78, [(.ifCond .ne 6, [84]), (.bipush (-13), []), (.ireturn, [])]),
  (84, [(.aload_n 0, []), (.getfield 95, [9, 14, 284, 2]), (.invokevirtual 153, [51, 415, 0, 1, 0, 5])]),
  (91, [(.aload_n 0, []), (.getfield 95, [9, 14, 284, 2]), (.aload 4, []), (.iload_n 2, []), (.iload_n 3, []), (.invokevirtual 315, [57, 866, 0, 4, 0, 5])]),
  (102, [(.aload_n 0, []), (.getfield 95, [9, 14, 284, 2]), (.invokevirtual 319, [67, 867, 0, 1, 4, 5])]),
  (109, [(.ifCond .ne 10, [119]), (.aload_n 0, []), (.bipush (-3), []), (.invokevirtual 101, [134, 323, 0, 2, 1, 9])]),
  (118, [(.ireturn, [])]),
  (119, [(.aload_n 0, []), (.getfield 22, [9, 2, 272, 2]), (.aload_n 0, []), (.getfield 95, [9, 14, 284, 2]), (.invokevirtual 168, [75, 466, 0, 2, 1, 6])]),
  (130, [(.ireturn, [])])]
def zc_lt_lays : List (Nat × List zIns) := [
  (0, [(.iload_n 1, []), (.invokestatic 295, [140, 829, 1, 1, 4, 9])]),
  (4, [(.ifCond .ne 11, [15]), (.aload_n 0, []), (.iload_n 3, []), (.invokevirtual 171, [136, 481, 0, 2, 4, 9])]),
  (12, [(.ifCond .eq 9, [21])]),
  (15, [(.aload_n 0, []), (.iconst (-1), []), (.invokevirtual 101, [134, 323, 0, 2, 1, 9])]),
  (20, [(.ireturn, [])]),
  (21, [(.aload_n 0, []), (.getfield 62, [9, 9, 279, 2]), (.iload_n 1, []), (.invokevirtual 301, [33, 846, 0, 2, 4, 3])]),
  (29, [(.ifCond .eq 6, [35]), (.bipush (-11), []), (.ireturn, [])]),
  (35, [(.aload_n 0, []), (.getfield 62, [9, 9, 279, 2]), (.iload_n 1, []), (.invokevirtual 304, [34, 850, 0, 2, 3, 3])]),
  (43, [(.astore 4, []), (.aload_n 0, []), (.getfield 22, [9, 2, 272, 2]), (.iload_n 3, []), (.invokevirtual 174, [74, 489, 0, 2, 3, 6])]),
  (53, [(.astore 5, []), (.aload 4, []), (.iload_n 2, []), (.aload 5, []), (.invokevirtual 105, [47, 327, 0, 1, 1, 5])]),
  (63, [(.invokevirtual 305, [50, 854, 0, 3, 4, 5])]),
  (66, [(.ifCond .ne 6, [72]), (.bipush (-13), []), (.ireturn, [])]),
  (72, [(.aload_n 0, []), (.getfield 75, [9, 11, 281, 2]), (.aload 5, []), (.iconst 0, []), (.aload_n 0, []), (.getfield 95, [9, 14, 284, 2]), (.invokevirtual 197, [1, 567, 0, 4, 0, 0])]),
  (86, [(.aload 4, []), (.iload_n 2, []), (.aload_n 0, []), (.getfield 95, [9, 14, 284, 2]), (.invokevirtual 322, [61, 876, 0, 3, 0, 5])]),
  (96, [(.aload_n 0, []), (.getfield 95, [9, 14, 284, 2]), (.invokevirtual 105, [47, 327, 0, 1, 1, 5])]),
  (103, [(.ireturn, [])])]
def zc_lt_judge : List (Nat × List zIns) := [
  (0, [(.iload_n 1, []), (.invokestatic 295, [140, 829, 1, 1, 4, 9])]),
  (4, [(.ifCond .ne 11, [15]), (.aload_n 0, []), (.iload_n 2, []), (.invokevirtual 171, [136, 481, 0, 2, 4, 9])]),
  (12, [(.ifCond .eq 9, [21])]),
  (15, [(.aload_n 0, []), (.iconst (-1), []), (.invokevirtual 101, [134, 323, 0, 2, 1, 9])]),
  (20, [(.ireturn, [])]),
  (21, [(.aload_n 0, []), (.getfield 62, [9, 9, 279, 2]), (.iload_n 1, []), (.invokevirtual 301, [33, 846, 0, 2, 4, 3])]),
  (29, [(.ifCond .eq 6, [35]), (.bipush (-11), []), (.ireturn, [])]),
  (35, [(.aload_n 0, []), (.getfield 62, [9, 9, 279, 2]), (.iload_n 1, []), (.invokevirtual 304, [34, 850, 0, 2, 3, 3])]),
  (43, [(.aload_n 0, []), (.getfield 22, [9, 2, 272, 2]), (.iload_n 2, []), (.invokevirtual 174, [74, 489, 0, 2, 3, 6])]),
  (51, [(.invokevirtual 326, [69, 884, 0, 2, 1, 5])]),
  (54, [(.ireturn, [])])]
def zc_lt_undo : List (Nat × List zIns) := [
  (0, [(.aload_n 0, []), (.getfield 29, [9, 3, 273, 2]), (.invokevirtual 329, [11, 889, 0, 1, 1, 1])]),
  (7, [(.ifCond .ne 10, [17]), (.aload_n 0, []), (.bipush (-3), []), (.invokevirtual 101, [134, 323, 0, 2, 1, 9])]),
  (16, [(.ireturn, [])]),
  (17, [(.aload_n 0, []), (.getfield 29, [9, 3, 273, 2]), (.aload_n 0, []), (.getfield 12, [9, 0, 270, 2]), (.invokevirtual 330, [14, 893, 0, 2, 0, 1])]),
  (28, [(.aload_n 0, []), (.getfield 29, [9, 3, 273, 2]), (.invokevirtual 329, [11, 889, 0, 1, 1, 1])]),
  (35, [(.ireturn, [])])]
def zc_lt_image : List (Nat × List zIns) := [
  (0, [(.aload_n 0, []), (.getfield 33, [9, 4, 274, 2]), (.aload_n 0, []), (.getfield 12, [9, 0, 270, 2]), (.invokevirtual 146, [21, 397, 0, 2, 0, 2])]),
  (11, [(.aload_n 0, []), (.getfield 36, [9, 5, 275, 2]), (.aload_n 0, []), (.getfield 22, [9, 2, 272, 2]), (.invokevirtual 333, [77, 901, 0, 2, 0, 6])]),
  (22, [(.aload_n 0, []), (.iconst 1, []), (.putfield 39, [9, 6, 276, 1]), (.aload_n 0, []), (.getfield 22, [9, 2, 272, 2]), (.invokevirtual 182, [72, 485, 0, 1, 1, 6])]),
  (34, [(.ireturn, [])])]
def zc_lt_on : List (Nat × List zIns) := [
  (0, [(.aload_n 0, []), (.getfield 39, [9, 6, 276, 1]), (.ifCond .ne 10, [14]), (.aload_n 0, []), (.bipush (-3), []), (.invokevirtual 101, [134, 323, 0, 2, 1, 9])]),
  (13, [(.ireturn, [])]),
  (14, [(.aload_n 0, []), (.getfield 12, [9, 0, 270, 2]), (.aload_n 0, []), (.getfield 33, [9, 4, 274, 2]), (.invokevirtual 146, [21, 397, 0, 2, 0, 2])]),
  (25, [(.aload_n 0, []), (.getfield 22, [9, 2, 272, 2]), (.aload_n 0, []), (.getfield 36, [9, 5, 275, 2]), (.invokevirtual 333, [77, 901, 0, 2, 0, 6])]),
  (36, [(.aload_n 0, []), (.getfield 29, [9, 3, 273, 2]), (.invokevirtual 336, [12, 909, 0, 1, 0, 1])]),
  (43, [(.aload_n 0, []), (.getfield 22, [9, 2, 272, 2]), (.invokevirtual 182, [72, 485, 0, 1, 1, 6])]),
  (50, [(.ireturn, [])])]
def zc_lt_count : List (Nat × List zIns) := [
  (0, [(.iload_n 1, []), (.bipush 11, []), (.if_icmp .lt 19, [22]), (.iload_n 1, []), (.bipush 16, []), (.if_icmp .gt 13, [22]), (.aload_n 0, []), (.getfield 66, [9, 10, 280, 2]), (.iload_n 1, []), (.bipush 11, []), (.isub, []), (.iaload, []), (.ireturn, [])]),
  (22, [(.iload_n 1, []), (.tableswitch 73 0 4 #[33, 41, 49, 57, 65], [])]),
  (56, [(.aload_n 0, []), (.getfield 22, [9, 2, 272, 2]), (.invokevirtual 182, [72, 485, 0, 1, 1, 6])]),
  (63, [(.ireturn, [])]),
  (64, [(.aload_n 0, []), (.getfield 48, [9, 7, 277, 2]), (.invokevirtual 105, [47, 327, 0, 1, 1, 5])]),
  (71, [(.ireturn, [])]),
  (72, [(.aload_n 0, []), (.getfield 22, [9, 2, 272, 2]), (.invokevirtual 337, [78, 917, 0, 1, 1, 6])]),
  (79, [(.ireturn, [])]),
  (80, [(.aload_n 0, []), (.getfield 12, [9, 0, 270, 2]), (.invokevirtual 340, [23, 922, 0, 1, 1, 2])]),
  (87, [(.ireturn, [])]),
  (88, [(.aload_n 0, []), (.getfield 29, [9, 3, 273, 2]), (.invokevirtual 329, [11, 889, 0, 1, 1, 1])]),
  (95, [(.ireturn, [])]),
  (96, [(.bipush (-9), []), (.ireturn, [])])]
def zc_lt_refuse : List (Nat × List zIns) := [
  (0, [(.iload_n 1, []), (.ineg, []), (.iconst 1, []), (.isub, []), (.istore_n 2, []), (.iload_n 2, []), (.ifCond .lt 22, [28]), (.iload_n 2, []), (.aload_n 0, []), (.getfield 66, [9, 10, 280, 2]), (.arraylength, []), (.if_icmp .ge 13, [28]), (.aload_n 0, []), (.getfield 66, [9, 10, 280, 2]), (.iload_n 2, []), (.dup2, []), (.iaload, []), (.iconst 1, []), (.iadd, []), (.iastore, [])]),
  (28, [(.iload_n 1, []), (.ireturn, [])])]
def zc_lt_refuseFar : List (Nat × List zIns) := [
  (0, [(.ldc2_w 343, [4000000000000000000, 576]), (.aload_n 0, []), (.iload_n 1, []), (.invokevirtual 101, [134, 323, 0, 2, 1, 9])]),
  (8, [(.i2l, []), (.lsub, []), (.lreturn, [])])]
def zc_lt_noWord : List (Nat × List zIns) := [
  (0, [(.iload_n 1, []), (.ifCond .lt 14, [15]), (.iload_n 1, []), (.aload_n 0, []), (.getfield 22, [9, 2, 272, 2]), (.invokevirtual 182, [72, 485, 0, 1, 1, 6])]),
  (12, [(.if_icmp .lt 7, [19])]),
  (15, [(.iconst 1, []), (.goto 4, [20])]),
  (19, [(.iconst 0, [])]),
  (20, [(.ireturn, [])])]
def zc_lt_tooLongToTurn : List (Nat × List zIns) := [
  (0, [(.aload_n 0, []), (.getfield 22, [9, 2, 272, 2]), (.iload_n 1, []), (.invokevirtual 174, [74, 489, 0, 2, 3, 6])]),
  (8, [(.invokevirtual 105, [47, 327, 0, 1, 1, 5])]),
  (11, [(.bipush 7, []), (.if_icmp .le 7, [20]), (.iconst 1, []), (.goto 4, [21])]),
  (20, [(.iconst 0, [])]),
  (21, [(.ireturn, [])])]
def zc_lt_noLetter : List (Nat × List zIns) := [
  (0, [(.iload_n 0, []), (.ifCond .lt 9, [10]), (.iload_n 0, []), (.bipush 6, []), (.if_icmp .lt 7, [14])]),
  (10, [(.iconst 1, []), (.goto 4, [15])]),
  (14, [(.iconst 0, [])]),
  (15, [(.ireturn, [])])]
def zc_lt_notTwoLetters : List (Nat × List zIns) := [
  (0, [(.iload_n 0, []), (.invokestatic 136, [138, 342, 1, 1, 4, 9])]),
  (4, [(.ifCond .ne 15, [19]), (.iload_n 1, []), (.invokestatic 136, [138, 342, 1, 1, 4, 9])]),
  (11, [(.ifCond .ne 8, [19]), (.iload_n 0, []), (.iload_n 1, []), (.if_icmp .ne 7, [23])]),
  (19, [(.iconst 1, []), (.goto 4, [24])]),
  (23, [(.iconst 0, [])]),
  (24, [(.ireturn, [])])]
def zc_lt_noList : List (Nat × List zIns) := [
  (0, [(.iload_n 0, []), (.ifCond .lt 8, [9]), (.iload_n 0, []), (.iconst 3, []), (.if_icmp .lt 7, [13])]),
  (9, [(.iconst 1, []), (.goto 4, [14])]),
  (13, [(.iconst 0, [])]),
  (14, [(.ireturn, [])])]
def zc_lt_noSuch : List (Nat × List zIns) := [
  (0, [(.iload_n 0, []), (.ifCond .eq 12, [13]), (.iload_n 0, []), (.iconst 1, []), (.if_icmp .eq 7, [13]), (.iconst 1, []), (.goto 4, [14])]),
  (13, [(.iconst 0, [])]),
  (14, [(.ireturn, [])])]
def zc_lt_answer : List (Nat × List zIns) := [
  (0, [(.iload_n 0, []), (.ifCond .eq 7, [8]), (.iconst 1, []), (.goto 4, [9])]),
  (8, [(.iconst 0, [])]),
  (9, [(.ireturn, [])])]
def zc_lt_sizeOrCell : List (Nat × List zIns) := [
  (0, [(.iload_n 1, []), (.iconst (-1), []), (.if_icmp .ne 10, [12]), (.aload_n 0, []), (.invokevirtual 105, [47, 327, 0, 1, 1, 5])]),
  (9, [(.goto 8, [17])]),
  (12, [(.aload_n 0, []), (.iload_n 1, []), (.invokevirtual 194, [48, 496, 0, 2, 1, 5])]),
  (17, [(.ireturn, [])])]
def zc_lt_commonDivisor : List (Nat × List zIns) := [
  (0, [(.iconst 1, []), (.istore_n 2, []), (.iconst 2, []), (.istore_n 3, [])]),
  (4, [(.iload_n 3, []), (.iload_n 0, []), (.if_icmp .gt 28, [34]), (.iload_n 3, []), (.iload_n 1, []), (.if_icmp .gt 23, [34]), (.iload_n 0, []), (.iload_n 3, []), (.irem, []), (.ifCond .ne 11, [28]), (.iload_n 1, []), (.iload_n 3, []), (.irem, []), (.ifCond .ne 5, [28]), (.iload_n 3, []), (.istore_n 2, [])]),
  (28, [(.iinc 3 1, []), (.goto (-27), [4])]),
  (34, [(.iload_n 2, []), (.ireturn, [])])]
def zc_mo_init : List (Nat × List zIns) := [
  (0, [(.aload_n 0, []), (.invokespecial 3, [999, 932, 5]), (.aload_n 0, []), (.bipush 6, []), (.newarray .int, [20]), (.putfield 9, [10, 0, 933, 2]), (.aload_n 0, []), (.bipush 6, []), (.newarray .int, [20]), (.putfield 13, [10, 1, 934, 2]), (.aload_n 0, []), (.iconst 5, []), (.newarray .int, [20]), (.putfield 16, [10, 3, 936, 2]), (.aload_n 0, []), (.bipush 70, []), (.newarray .int, [20]), (.putfield 19, [10, 4, 937, 2]), (.aload_n 0, []), (.bipush 7, []), (.newarray .int, [20]), (.putfield 22, [10, 5, 938, 2]), (.aload_n 0, []), (.bipush 72, []), (.newarray .int, [20]), (.putfield 25, [10, 6, 939, 2]), (.aload_n 0, []), (.bipush 96, []), (.newarray .int, [20]), (.putfield 28, [10, 9, 942, 2]), (.aload_n 0, []), (.bipush 6, []), (.newarray .int, [20]), (.putfield 31, [10, 12, 945, 2]), (.aload_n 0, []), (.bipush 6, []), (.newarray .int, [20]), (.putfield 34, [10, 13, 946, 2]), (.aload_n 0, []), (.iconst 5, []), (.newarray .int, [20]), (.putfield 37, [10, 14, 947, 2]), (.aload_n 0, []), (.bipush 70, []), (.newarray .int, [20]), (.putfield 40, [10, 15, 948, 2]), (.aload_n 0, []), (.iconst 3, []), (.newarray .int, [20]), (.putfield 43, [10, 16, 949, 2]), (.aload_n 0, []), (.bipush 120, []), (.newarray .int, [20]), (.putfield 46, [10, 17, 950, 2]), (.aload_n 0, []), (.sipush 216, []), (.newarray .int, [20]), (.putfield 49, [10, 20, 953, 2]), (.aload_n 0, []), (.bipush 14, []), (.newarray .int, [20]), (.putfield 52, [10, 22, 955, 2]), (.aload_n 0, []), (.bipush 28, []), (.newarray .int, [20]), (.putfield 55, [10, 23, 956, 2]), (.aload_n 0, []), (.bipush 28, []), (.newarray .int, [20]), (.putfield 58, [10, 24, 957, 2]), (.aload_n 0, []), (.bipush 28, []), (.newarray .int, [20]), (.putfield 61, [10, 25, 958, 2]), (.aload_n 0, []), (.bipush 28, []), (.newarray .int, [20]), (.putfield 64, [10, 26, 959, 2]), (.aload_n 0, []), (.bipush 28, []), (.newarray .int, [20]), (.putfield 67, [10, 27, 960, 2]), (.aload_n 0, []), (.bipush 14, []), (.newarray .int, [20]), (.putfield 70, [10, 28, 961, 2]), (.aload_n 0, []), (.bipush 14, []), (.newarray .int, [20]), (.putfield 73, [10, 29, 962, 2]), (.aload_n 0, []), (.sipush 16384, []), (.newarray .long, [22]), (.putfield 76, [10, 30, 963, 2]), (.aload_n 0, []), (.bipush 14, []), (.newarray .int, [20]), (.putfield 80, [10, 31, 964, 2]), (.aload_n 0, []), (.bipush 6, []), (.newarray .int, [20]), (.putfield 83, [10, 32, 965, 2]), (.aload_n 0, []), (.sipush 5040, []), (.newarray .int, [20]), (.putfield 86, [10, 34, 967, 2]), (.aload_n 0, []), (.sipush 5040, []), (.newarray .int, [20]), (.putfield 89, [10, 35, 968, 2]), (.iconst 0, []), (.istore_n 1, [])]),
  (223, [(.iload_n 1, []), (.bipush 6, []), (.if_icmp .ge 16, [242]), (.aload_n 0, []), (.getfield 13, [10, 1, 934, 2]), (.iload_n 1, []), (.iload_n 1, []), (.iastore, []), (.iinc 1 1, []), (.goto (-16), [223])]),
  (242, [(.iconst 0, []), (.istore_n 1, [])]),
  (244, [(.iload_n 1, []), (.iconst 3, []), (.if_icmp .ge 17, [263]), (.aload_n 0, []), (.getfield 43, [10, 16, 949, 2]), (.iload_n 1, []), (.bipush (-9), []), (.iastore, []), (.iinc 1 1, []), (.goto (-16), [244])]),
  (263, [(.return_, [])])]
def zc_mo_isIn : List (Nat × List zIns) := [
  (0, [(.iload_n 0, []), (.iload_n 1, []), (.if_icmp .lt 12, [14]), (.iload_n 0, []), (.iload_n 2, []), (.if_icmp .gt 7, [14]), (.iconst 1, []), (.goto 4, [15])]),
  (14, [(.iconst 0, [])]),
  (15, [(.ireturn, [])])]
def zc_mo_no : List (Nat × List zIns) := [
  (0, [(.aload_n 0, []), (.getfield 22, [10, 5, 938, 2]), (.iload_n 1, []), (.ineg, []), (.dup2, []), (.iaload, []), (.iconst 1, []), (.iadd, []), (.iastore, []), (.iload_n 1, []), (.ireturn, [])])]
def zc_mo_noLong : List (Nat × List zIns) := [
  (0, [(.aload_n 0, []), (.getfield 22, [10, 5, 938, 2]), (.iload_n 1, []), (.ineg, []), (.dup2, []), (.iaload, []), (.iconst 1, []), (.iadd, []), (.iastore, []), (.ldc2_w 92, [4000000000000000000, 1182]), (.iload_n 1, []), (.i2l, []), (.lsub, []), (.lreturn, [])])]
def zc_mo_isLetter : List (Nat × List zIns) := [
  (0, [(.iload_n 0, []), (.iconst 0, []), (.iconst 5, []), (.invokestatic 94, [146, 1060, 1, 3, 4, 10])]),
  (6, [(.ireturn, [])])]
def zc_mo_isWord : List (Nat × List zIns) := [
  (0, [(.iload_n 1, []), (.iconst 0, []), (.aload_n 0, []), (.getfield 98, [10, 2, 935, 0]), (.iconst 1, []), (.isub, []), (.invokestatic 94, [146, 1060, 1, 3, 4, 10])]),
  (11, [(.ireturn, [])])]
def zc_mo_passes_ : List (Nat × List zIns) := [
  (0, [(.aload_n 0, []), (.getfield 9, [10, 0, 933, 2]), (.iload_n 1, []), (.iaload, []), (.iload_n 2, []), (.ishr, []), (.iconst 1, []), (.iand, []), (.iconst 1, []), (.if_icmp .ne 7, [18]), (.iconst 1, []), (.goto 4, [19])]),
  (18, [(.iconst 0, [])]),
  (19, [(.ireturn, [])])]
def zc_mo_letter : List (Nat × List zIns) := [
  (0, [(.iload_n 1, []), (.ifCond .ge 10, [11]), (.aload_n 0, []), (.bipush (-4), []), (.invokevirtual 102, [147, 1046, 0, 2, 1, 10])]),
  (10, [(.ireturn, [])]),
  (11, [(.iload_n 1, []), (.sipush 255, []), (.if_icmp .gt 12, [27]), (.aload_n 0, []), (.getfield 106, [10, 7, 940, 0]), (.bipush 72, []), (.if_icmp .ne 10, [34])]),
  (27, [(.aload_n 0, []), (.bipush (-6), []), (.invokevirtual 102, [147, 1046, 0, 2, 1, 10])]),
  (33, [(.ireturn, [])]),
  (34, [(.aload_n 0, []), (.getfield 25, [10, 6, 939, 2]), (.aload_n 0, []), (.getfield 106, [10, 7, 940, 0]), (.iload_n 1, []), (.iastore, []), (.aload_n 0, []), (.dup, []), (.getfield 106, [10, 7, 940, 0]), (.iconst 1, []), (.iadd, []), (.putfield 106, [10, 7, 940, 0]), (.aload_n 0, []), (.getfield 106, [10, 7, 940, 0]), (.ireturn, [])])]
def zc_mo_remembers : List (Nat × List zIns) := [
  (0, [(.aload_n 0, []), (.getfield 109, [10, 8, 941, 0]), (.bipush 8, []), (.if_icmp .ne 42, [48]), (.iconst 0, []), (.istore_n 1, [])]),
  (11, [(.iload_n 1, []), (.bipush 84, []), (.if_icmp .ge 24, [38]), (.aload_n 0, []), (.getfield 28, [10, 9, 942, 2]), (.iload_n 1, []), (.aload_n 0, []), (.getfield 28, [10, 9, 942, 2]), (.iload_n 1, []), (.bipush 12, []), (.iadd, []), (.iaload, []), (.iastore, []), (.iinc 1 1, []), (.goto (-24), [11])]),
  (38, [(.aload_n 0, []), (.dup, []), (.getfield 109, [10, 8, 941, 0]), (.iconst 1, []), (.isub, []), (.putfield 109, [10, 8, 941, 0])]),
  (48, [(.iconst 0, []), (.istore_n 1, [])]),
  (50, [(.iload_n 1, []), (.bipush 6, []), (.if_icmp .ge 52, [105]), (.aload_n 0, []), (.getfield 28, [10, 9, 942, 2]), (.bipush 12, []), (.aload_n 0, []), (.getfield 109, [10, 8, 941, 0]), (.imul, []), (.iload_n 1, []), (.iadd, []), (.aload_n 0, []), (.getfield 9, [10, 0, 933, 2]), (.iload_n 1, []), (.iaload, []), (.iastore, []), (.aload_n 0, []), (.getfield 28, [10, 9, 942, 2]), (.bipush 12, []), (.aload_n 0, []), (.getfield 109, [10, 8, 941, 0]), (.imul, []), (.bipush 6, []), (.iadd, []), (.iload_n 1, []), (.iadd, []), (.aload_n 0, []), (.getfield 13, [10, 1, 934, 2]), (.iload_n 1, []), (.iaload, []), (.iastore, []), (.iinc 1 1, []), (.goto (-52), [50])]),
  (105, [(.aload_n 0, []), (.dup, []), (.getfield 109, [10, 8, 941, 0]), (.iconst 1, []), (.iadd, []), (.putfield 109, [10, 8, 941, 0]), (.return_, [])])]
def zc_mo_turns : List (Nat × List zIns) := [
  (0, [(.aload_n 0, []), (.getfield 9, [10, 0, 933, 2]), (.iload_n 1, []), (.dup2, []), (.iaload, []), (.iconst 1, []), (.iload_n 2, []), (.ishl, []), (.ixor, []), (.iastore, []), (.aload_n 0, []), (.getfield 9, [10, 0, 933, 2]), (.iload_n 2, []), (.dup2, []), (.iaload, []), (.iconst 1, []), (.iload_n 1, []), (.ishl, []), (.ixor, []), (.iastore, []), (.return_, [])])]
def zc_mo_swaps : List (Nat × List zIns) := [
  (0, [(.aload_n 0, []), (.getfield 13, [10, 1, 934, 2]), (.iload_n 1, []), (.iaload, []), (.istore_n 3, []), (.aload_n 0, []), (.getfield 13, [10, 1, 934, 2]), (.iload_n 1, []), (.aload_n 0, []), (.getfield 13, [10, 1, 934, 2]), (.iload_n 2, []), (.iaload, []), (.iastore, []), (.aload_n 0, []), (.getfield 13, [10, 1, 934, 2]), (.iload_n 2, []), (.iload_n 3, []), (.iastore, []), (.return_, [])])]
def zc_mo_areTwo : List (Nat × List zIns) := [
  (0, [(.iload_n 0, []), (.invokestatic 112, [149, 1057, 1, 1, 4, 10])]),
  (4, [(.ifCond .eq 19, [23]), (.iload_n 1, []), (.invokestatic 112, [149, 1057, 1, 1, 4, 10])]),
  (11, [(.ifCond .eq 12, [23]), (.iload_n 0, []), (.iload_n 1, []), (.if_icmp .eq 7, [23]), (.iconst 1, []), (.goto 4, [24])]),
  (23, [(.iconst 0, [])]),
  (24, [(.ireturn, [])])]
def zc_mo_passes : List (Nat × List zIns) := [
  (0, [(.iload_n 1, []), (.iload_n 2, []), (.invokestatic 116, [156, 1054, 1, 2, 4, 10])]),
  (5, [(.ifCond .ne 9, [14]), (.aload_n 0, []), (.iconst (-1), []), (.invokevirtual 102, [147, 1046, 0, 2, 1, 10])]),
  (13, [(.ireturn, [])]),
  (14, [(.aload_n 0, []), (.invokevirtual 120, [153, 1063, 0, 1, 0, 10])]),
  (18, [(.aload_n 0, []), (.iload_n 1, []), (.iload_n 2, []), (.invokevirtual 123, [154, 1067, 0, 3, 0, 10])]),
  (24, [(.aload_n 0, []), (.iload_n 1, []), (.iload_n 2, []), (.invokevirtual 127, [151, 1071, 0, 3, 4, 10])]),
  (30, [(.ifCond .eq 7, [37]), (.iconst 1, []), (.goto 4, [38])]),
  (37, [(.iconst 0, [])]),
  (38, [(.ireturn, [])])]
def zc_mo_ranks : List (Nat × List zIns) := [
  (0, [(.iload_n 1, []), (.iload_n 2, []), (.invokestatic 116, [156, 1054, 1, 2, 4, 10])]),
  (5, [(.ifCond .ne 9, [14]), (.aload_n 0, []), (.iconst (-1), []), (.invokevirtual 102, [147, 1046, 0, 2, 1, 10])]),
  (13, [(.ireturn, [])]),
  (14, [(.aload_n 0, []), (.invokevirtual 120, [153, 1063, 0, 1, 0, 10])]),
  (18, [(.aload_n 0, []), (.iload_n 1, []), (.iload_n 2, []), (.invokevirtual 130, [155, 1079, 0, 3, 0, 10])]),
  (24, [(.aload_n 0, []), (.getfield 13, [10, 1, 934, 2]), (.iload_n 1, []), (.iaload, []), (.ireturn, [])])]
def zc_mo_of : List (Nat × List zIns) := [
  (0, [(.iload_n 1, []), (.invokestatic 112, [149, 1057, 1, 1, 4, 10])]),
  (4, [(.ifCond .ne 9, [13]), (.aload_n 0, []), (.iconst (-1), []), (.invokevirtual 102, [147, 1046, 0, 2, 1, 10])]),
  (12, [(.ireturn, [])]),
  (13, [(.iload_n 2, []), (.iconst 0, []), (.iconst 1, []), (.invokestatic 94, [146, 1060, 1, 3, 4, 10])]),
  (19, [(.ifCond .ne 10, [29]), (.aload_n 0, []), (.bipush (-2), []), (.invokevirtual 102, [147, 1046, 0, 2, 1, 10])]),
  (28, [(.ireturn, [])]),
  (29, [(.iload_n 2, []), (.ifCond .ne 12, [42]), (.aload_n 0, []), (.getfield 13, [10, 1, 934, 2]), (.iload_n 1, []), (.iaload, []), (.goto 9, [48])]),
  (42, [(.aload_n 0, []), (.getfield 9, [10, 0, 933, 2]), (.iload_n 1, []), (.iaload, [])]),
  (48, [(.ireturn, [])])]
def zc_mo_here : List (Nat × List zIns) := [
  (0, [(.aload_n 0, []), (.getfield 133, [10, 18, 951, 0]), (.aload_n 0, []), (.getfield 106, [10, 7, 940, 0]), (.if_icmp .ge 15, [23]), (.aload_n 0, []), (.getfield 25, [10, 6, 939, 2]), (.aload_n 0, []), (.getfield 133, [10, 18, 951, 0]), (.iaload, []), (.goto 5, [25])]),
  (23, [(.bipush (-9), [])]),
  (25, [(.ireturn, [])])]
def zc_mo_fails : List (Nat × List zIns) := [
  (0, [(.aload_n 0, []), (.getfield 136, [10, 19, 952, 0]), (.bipush (-9), []), (.if_icmp .ne 11, [17]), (.aload_n 0, []), (.aload_n 0, []), (.getfield 133, [10, 18, 951, 0]), (.putfield 136, [10, 19, 952, 0])]),
  (17, [(.return_, [])])]
def zc_mo_isSign : List (Nat × List zIns) := [
  (0, [(.aload_n 0, []), (.invokevirtual 139, [160, 1095, 0, 1, 1, 10])]),
  (4, [(.bipush 97, []), (.bipush 102, []), (.invokestatic 94, [146, 1060, 1, 3, 4, 10])]),
  (11, [(.ireturn, [])])]
def zc_mo_rule : List (Nat × List zIns) := [
  (0, [(.aload_n 0, []), (.getfield 49, [10, 20, 953, 2]), (.iconst 3, []), (.iload_n 1, []), (.imul, []), (.aload_n 0, []), (.invokevirtual 139, [160, 1095, 0, 1, 1, 10])]),
  (11, [(.bipush 60, []), (.if_icmp .ne 7, [20]), (.iconst 1, []), (.goto 4, [21])]),
  (20, [(.iconst 0, [])]),
  (21, [(.iastore, []), (.aload_n 0, []), (.dup, []), (.getfield 133, [10, 18, 951, 0]), (.aload_n 0, []), (.getfield 49, [10, 20, 953, 2]), (.iconst 3, []), (.iload_n 1, []), (.imul, []), (.iaload, []), (.iadd, []), (.putfield 133, [10, 18, 951, 0]), (.iconst 1, []), (.istore_n 2, [])]),
  (41, [(.iload_n 2, []), (.iconst 3, []), (.if_icmp .ge 82, [125]), (.aload_n 0, []), (.getfield 136, [10, 19, 952, 0]), (.bipush (-9), []), (.if_icmp .ne 35, [87]), (.aload_n 0, []), (.invokevirtual 143, [162, 1099, 0, 1, 4, 10])]),
  (59, [(.ifCond .eq 28, [87]), (.iload_n 2, []), (.iconst 2, []), (.if_icmp .ne 28, [92]), (.aload_n 0, []), (.invokevirtual 139, [160, 1095, 0, 1, 1, 10])]),
  (71, [(.bipush 97, []), (.isub, []), (.aload_n 0, []), (.getfield 49, [10, 20, 953, 2]), (.iconst 3, []), (.iload_n 1, []), (.imul, []), (.iconst 1, []), (.iadd, []), (.iaload, []), (.if_icmp .ne 8, [92])]),
  (87, [(.aload_n 0, []), (.invokevirtual 147, [161, 1103, 0, 1, 0, 10])]),
  (91, [(.return_, [])]),
  (92, [(.aload_n 0, []), (.getfield 49, [10, 20, 953, 2]), (.iconst 3, []), (.iload_n 1, []), (.imul, []), (.iload_n 2, []), (.iadd, []), (.aload_n 0, []), (.invokevirtual 139, [160, 1095, 0, 1, 1, 10])]),
  (105, [(.bipush 97, []), (.isub, []), (.iastore, []), (.aload_n 0, []), (.dup, []), (.getfield 133, [10, 18, 951, 0]), (.iconst 1, []), (.iadd, []), (.putfield 133, [10, 18, 951, 0]), (.iinc 2 1, []), (.goto (-81), [41])]),
  (125, [(.return_, [])])]
def zc_mo_rules : List (Nat × List zIns) := [
  (0, [(.aload_n 0, []), (.iconst 0, []), (.putfield 133, [10, 18, 951, 0]), (.aload_n 0, []), (.bipush (-9), []), (.putfield 136, [10, 19, 952, 0]), (.iconst 0, []), (.istore_n 1, []), (.iconst 1, []), (.istore_n 2, [])]),
  (15, [(.iload_n 2, []), (.ifCond .eq 56, [72]), (.aload_n 0, []), (.iload_n 1, []), (.invokevirtual 150, [163, 1091, 0, 2, 0, 10])]),
  (24, [(.iinc 1 1, []), (.aload_n 0, []), (.getfield 136, [10, 19, 952, 0]), (.bipush (-9), []), (.if_icmp .ne 16, [49]), (.aload_n 0, []), (.invokevirtual 139, [160, 1095, 0, 1, 1, 10])]),
  (40, [(.bipush 44, []), (.if_icmp .ne 7, [49]), (.iconst 1, []), (.goto 4, [50])]),
  (49, [(.iconst 0, [])]),
  (50, [(.istore_n 2, []), (.aload_n 0, []), (.dup, []), (.getfield 133, [10, 18, 951, 0]), (.iload_n 2, []), (.ifCond .eq 7, [64]), (.iconst 1, []), (.goto 4, [65])]),
  (64, [(.iconst 0, [])]),
  (65, [(.iadd, []), (.putfield 133, [10, 18, 951, 0]), (.goto (-54), [15])]),
  (72, [(.aload_n 0, []), (.getfield 133, [10, 18, 951, 0]), (.aload_n 0, []), (.getfield 106, [10, 7, 940, 0]), (.if_icmp .ge 7, [87]), (.aload_n 0, []), (.invokevirtual 147, [161, 1103, 0, 1, 0, 10])]),
  (87, [(.aload_n 0, []), (.iconst 0, []), (.putfield 106, [10, 7, 940, 0]), (.aload_n 0, []), (.getfield 136, [10, 19, 952, 0]), (.bipush (-9), []), (.if_icmp .eq 12, [110]), (.sipush (-1000), []), (.aload_n 0, []), (.getfield 136, [10, 19, 952, 0]), (.isub, []), (.ireturn, [])]),
  (110, [(.aload_n 0, []), (.invokevirtual 120, [153, 1063, 0, 1, 0, 10])]),
  (114, [(.iconst 0, []), (.istore_n 3, [])]),
  (116, [(.iload_n 3, []), (.iload_n 1, []), (.if_icmp .ge 72, [190]), (.aload_n 0, []), (.getfield 49, [10, 20, 953, 2]), (.iconst 3, []), (.iload_n 3, []), (.imul, []), (.iaload, []), (.iconst 1, []), (.if_icmp .ne 30, [160]), (.aload_n 0, []), (.aload_n 0, []), (.getfield 49, [10, 20, 953, 2]), (.iconst 3, []), (.iload_n 3, []), (.imul, []), (.iconst 1, []), (.iadd, []), (.iaload, []), (.aload_n 0, []), (.getfield 49, [10, 20, 953, 2]), (.iconst 3, []), (.iload_n 3, []), (.imul, []), (.iconst 2, []), (.iadd, []), (.iaload, []), (.invokevirtual 130, [155, 1079, 0, 3, 0, 10])]),
  (157, [(.goto 27, [184])]),
  (160, [(.aload_n 0, []), (.aload_n 0, []), (.getfield 49, [10, 20, 953, 2]), (.iconst 3, []), (.iload_n 3, []), (.imul, []), (.iconst 1, []), (.iadd, []), (.iaload, []), (.aload_n 0, []), (.getfield 49, [10, 20, 953, 2]), (.iconst 3, []), (.iload_n 3, []), (.imul, []), (.iconst 2, []), (.iadd, []), (.iaload, []), (.invokevirtual 123, [154, 1067, 0, 3, 0, 10])]),
  (184, [(.iinc 3 1, []), (.goto (-71), [116])]),
  (190, [(.iload_n 1, []), (.ireturn, [])])]
def zc_mo_makes : List (Nat × List zIns) := [
  (0, [(.aload_n 0, []), (.getfield 154, [10, 21, 954, 0]), (.bipush 14, []), (.if_icmp .ge 13, [19]), (.aload_n 0, []), (.getfield 52, [10, 22, 955, 2]), (.aload_n 0, []), (.getfield 154, [10, 21, 954, 0]), (.iload_n 1, []), (.iastore, [])]),
  (19, [(.aload_n 0, []), (.aload_n 0, []), (.getfield 154, [10, 21, 954, 0]), (.bipush 100, []), (.if_icmp .ge 12, [38]), (.aload_n 0, []), (.getfield 154, [10, 21, 954, 0]), (.iconst 1, []), (.iadd, []), (.goto 5, [40])]),
  (38, [(.bipush 100, [])]),
  (40, [(.putfield 154, [10, 21, 954, 0]), (.return_, [])])]
def zc_mo_times : List (Nat × List zIns) := [
  (0, [(.aload_n 0, []), (.invokevirtual 139, [160, 1095, 0, 1, 1, 10])]),
  (4, [(.bipush 48, []), (.bipush 57, []), (.invokestatic 94, [146, 1060, 1, 3, 4, 10])]),
  (11, [(.ifCond .ne 4, [15]), (.return_, [])]),
  (15, [(.aload_n 0, []), (.invokevirtual 139, [160, 1095, 0, 1, 1, 10])]),
  (19, [(.bipush 48, []), (.isub, []), (.istore_n 2, []), (.aload_n 0, []), (.dup, []), (.getfield 133, [10, 18, 951, 0]), (.iconst 1, []), (.iadd, []), (.putfield 133, [10, 18, 951, 0]), (.aload_n 0, []), (.getfield 154, [10, 21, 954, 0]), (.iload_n 1, []), (.isub, []), (.istore_n 3, []), (.iload_n 2, []), (.ifCond .ne 8, [49]), (.aload_n 0, []), (.iload_n 1, []), (.putfield 154, [10, 21, 954, 0])]),
  (49, [(.iconst 1, []), (.istore 4, [])]),
  (52, [(.iload 4, []), (.iload_n 2, []), (.if_icmp .ge 50, [105]), (.iconst 0, []), (.istore 5, [])]),
  (61, [(.iload 5, []), (.iload_n 3, []), (.if_icmp .ge 35, [99]), (.aload_n 0, []), (.iload_n 1, []), (.iload 5, []), (.iadd, []), (.bipush 14, []), (.if_icmp .ge 15, [89]), (.aload_n 0, []), (.getfield 52, [10, 22, 955, 2]), (.iload_n 1, []), (.iload 5, []), (.iadd, []), (.iaload, []), (.goto 4, [90])]),
  (89, [(.iconst 0, [])]),
  (90, [(.invokevirtual 157, [165, 1115, 0, 2, 0, 10])]),
  (93, [(.iinc 5 1, []), (.goto (-35), [61])]),
  (99, [(.iinc 4 1, []), (.goto (-50), [52])]),
  (105, [(.return_, [])])]
def zc_mo_reads : List (Nat × List zIns) := [
  (0, [(.aload_n 0, []), (.getfield 136, [10, 19, 952, 0]), (.bipush (-9), []), (.if_icmp .ne 123, [129]), (.aload_n 0, []), (.invokevirtual 143, [162, 1099, 0, 1, 4, 10])]),
  (13, [(.ifCond .ne 12, [25]), (.aload_n 0, []), (.invokevirtual 139, [160, 1095, 0, 1, 1, 10])]),
  (20, [(.bipush 40, []), (.if_icmp .ne 107, [129])]),
  (25, [(.aload_n 0, []), (.getfield 154, [10, 21, 954, 0]), (.istore_n 2, []), (.aload_n 0, []), (.invokevirtual 143, [162, 1099, 0, 1, 4, 10])]),
  (34, [(.ifCond .eq 27, [61]), (.aload_n 0, []), (.aload_n 0, []), (.invokevirtual 139, [160, 1095, 0, 1, 1, 10])]),
  (42, [(.bipush 97, []), (.isub, []), (.invokevirtual 157, [165, 1115, 0, 2, 0, 10])]),
  (48, [(.aload_n 0, []), (.dup, []), (.getfield 133, [10, 18, 951, 0]), (.iconst 1, []), (.iadd, []), (.putfield 133, [10, 18, 951, 0]), (.goto 63, [121])]),
  (61, [(.iload_n 1, []), (.iconst 5, []), (.if_icmp .ne 8, [71]), (.aload_n 0, []), (.invokevirtual 147, [161, 1103, 0, 1, 0, 10])]),
  (70, [(.return_, [])]),
  (71, [(.aload_n 0, []), (.dup, []), (.getfield 133, [10, 18, 951, 0]), (.iconst 1, []), (.iadd, []), (.putfield 133, [10, 18, 951, 0]), (.aload_n 0, []), (.iload_n 1, []), (.iconst 1, []), (.iadd, []), (.invokevirtual 160, [167, 1111, 0, 2, 0, 10])]),
  (88, [(.aload_n 0, []), (.getfield 136, [10, 19, 952, 0]), (.bipush (-9), []), (.if_icmp .ne 12, [106]), (.aload_n 0, []), (.invokevirtual 139, [160, 1095, 0, 1, 1, 10])]),
  (101, [(.bipush 41, []), (.if_icmp .eq 8, [111])]),
  (106, [(.aload_n 0, []), (.invokevirtual 147, [161, 1103, 0, 1, 0, 10])]),
  (110, [(.return_, [])]),
  (111, [(.aload_n 0, []), (.dup, []), (.getfield 133, [10, 18, 951, 0]), (.iconst 1, []), (.iadd, []), (.putfield 133, [10, 18, 951, 0])]),
  (121, [(.aload_n 0, []), (.iload_n 2, []), (.invokevirtual 163, [166, 1119, 0, 2, 0, 10])]),
  (126, [(.goto (-126), [0])]),
  (129, [(.return_, [])])]
def zc_mo_comes : List (Nat × List zIns) := [
  (0, [(.iconst 0, []), (.istore_n 3, [])]),
  (2, [(.iload_n 3, []), (.iload_n 2, []), (.if_icmp .ge 26, [30]), (.aload_n 0, []), (.getfield 19, [10, 4, 937, 2]), (.bipush 14, []), (.aload_n 0, []), (.getfield 98, [10, 2, 935, 0]), (.imul, []), (.iload_n 3, []), (.iadd, []), (.aload_n 1, []), (.iload_n 3, []), (.iaload, []), (.iastore, []), (.iinc 3 1, []), (.goto (-25), [2])]),
  (30, [(.aload_n 0, []), (.getfield 16, [10, 3, 936, 2]), (.aload_n 0, []), (.getfield 98, [10, 2, 935, 0]), (.iload_n 2, []), (.iastore, []), (.aload_n 0, []), (.dup, []), (.getfield 98, [10, 2, 935, 0]), (.iconst 1, []), (.iadd, []), (.putfield 98, [10, 2, 935, 0]), (.aload_n 0, []), (.getfield 98, [10, 2, 935, 0]), (.iconst 1, []), (.isub, []), (.ireturn, [])])]
def zc_mo_word : List (Nat × List zIns) := [
  (0, [(.aload_n 0, []), (.iconst 0, []), (.putfield 133, [10, 18, 951, 0]), (.aload_n 0, []), (.bipush (-9), []), (.putfield 136, [10, 19, 952, 0]), (.aload_n 0, []), (.iconst 0, []), (.putfield 154, [10, 21, 954, 0]), (.aload_n 0, []), (.iconst 0, []), (.invokevirtual 160, [167, 1111, 0, 2, 0, 10])]),
  (21, [(.aload_n 0, []), (.getfield 133, [10, 18, 951, 0]), (.aload_n 0, []), (.getfield 106, [10, 7, 940, 0]), (.if_icmp .ge 7, [36]), (.aload_n 0, []), (.invokevirtual 147, [161, 1103, 0, 1, 0, 10])]),
  (36, [(.aload_n 0, []), (.iconst 0, []), (.putfield 106, [10, 7, 940, 0]), (.aload_n 0, []), (.getfield 136, [10, 19, 952, 0]), (.bipush (-9), []), (.if_icmp .eq 12, [59]), (.sipush (-1000), []), (.aload_n 0, []), (.getfield 136, [10, 19, 952, 0]), (.isub, []), (.ireturn, [])]),
  (59, [(.aload_n 0, []), (.getfield 154, [10, 21, 954, 0]), (.bipush 14, []), (.if_icmp .gt 11, [76]), (.aload_n 0, []), (.getfield 98, [10, 2, 935, 0]), (.iconst 5, []), (.if_icmp .ne 9, [82])]),
  (76, [(.sipush (-2000), []), (.goto 15, [94])]),
  (82, [(.aload_n 0, []), (.aload_n 0, []), (.getfield 52, [10, 22, 955, 2]), (.aload_n 0, []), (.getfield 154, [10, 21, 954, 0]), (.invokevirtual 166, [168, 1123, 0, 3, 1, 10])]),
  (94, [(.ireturn, [])])]
def zc_mo_at : List (Nat × List zIns) := [
  (0, [(.aload_n 0, []), (.iload_n 1, []), (.invokevirtual 170, [150, 1131, 0, 2, 4, 10])]),
  (5, [(.ifCond .ne 9, [14]), (.aload_n 0, []), (.iconst (-1), []), (.invokevirtual 102, [147, 1046, 0, 2, 1, 10])]),
  (13, [(.ireturn, [])]),
  (14, [(.iload_n 2, []), (.iconst (-1), []), (.if_icmp .ge 10, [26]), (.aload_n 0, []), (.bipush (-4), []), (.invokevirtual 102, [147, 1046, 0, 2, 1, 10])]),
  (25, [(.ireturn, [])]),
  (26, [(.iload_n 2, []), (.iconst (-1), []), (.if_icmp .ne 12, [40]), (.aload_n 0, []), (.getfield 16, [10, 3, 936, 2]), (.iload_n 1, []), (.iaload, []), (.goto 29, [66])]),
  (40, [(.iload_n 2, []), (.aload_n 0, []), (.getfield 16, [10, 3, 936, 2]), (.iload_n 1, []), (.iaload, []), (.if_icmp .ge 17, [64]), (.aload_n 0, []), (.getfield 19, [10, 4, 937, 2]), (.bipush 14, []), (.iload_n 1, []), (.imul, []), (.iload_n 2, []), (.iadd, []), (.iaload, []), (.goto 5, [66])]),
  (64, [(.bipush (-9), [])]),
  (66, [(.ireturn, [])])]
def zc_mo_drop : List (Nat × List zIns) := [
  (0, [(.aload_n 0, []), (.getfield 98, [10, 2, 935, 0]), (.ifCond .ne 10, [14]), (.aload_n 0, []), (.bipush (-3), []), (.invokevirtual 102, [147, 1046, 0, 2, 1, 10])]),
  (13, [(.ireturn, [])]),
  (14, [(.aload_n 0, []), (.dup, []), (.getfield 98, [10, 2, 935, 0]), (.iconst 1, []), (.isub, []), (.putfield 98, [10, 2, 935, 0]), (.aload_n 0, []), (.getfield 98, [10, 2, 935, 0]), (.ireturn, [])])]
def zc_mo_loads : List (Nat × List zIns) := [
  (0, [(.iconst 0, []), (.istore 4, [])]),
  (3, [(.iload 4, []), (.aload_n 0, []), (.getfield 16, [10, 3, 936, 2]), (.iload_n 3, []), (.iaload, []), (.if_icmp .ge 27, [38]), (.aload_n 1, []), (.iload_n 2, []), (.iload 4, []), (.iadd, []), (.aload_n 0, []), (.getfield 19, [10, 4, 937, 2]), (.bipush 14, []), (.iload_n 3, []), (.imul, []), (.iload 4, []), (.iadd, []), (.iaload, []), (.iastore, []), (.iinc 4 1, []), (.goto (-32), [3])]),
  (38, [(.iload_n 2, []), (.aload_n 0, []), (.getfield 16, [10, 3, 936, 2]), (.iload_n 3, []), (.iaload, []), (.iadd, []), (.ireturn, [])])]
def zc_mo_isReady : List (Nat × List zIns) := [
  (0, [(.iconst 0, []), (.istore_n 3, [])]),
  (2, [(.iload_n 3, []), (.iload_n 2, []), (.if_icmp .ge 24, [28]), (.aload_n 0, []), (.aload_n 1, []), (.iload_n 2, []), (.iaload, []), (.aload_n 1, []), (.iload_n 3, []), (.iaload, []), (.invokevirtual 127, [151, 1071, 0, 3, 4, 10])]),
  (17, [(.ifCond .ne 5, [22]), (.iconst 0, []), (.ireturn, [])]),
  (22, [(.iinc 3 1, []), (.goto (-23), [2])]),
  (28, [(.iconst 1, []), (.ireturn, [])])]
def zc_mo_goes : List (Nat × List zIns) := [
  (0, [(.iload_n 2, []), (.istore_n 3, [])]),
  (2, [(.iload_n 3, []), (.iload_n 1, []), (.iconst 1, []), (.isub, []), (.if_icmp .ge 17, [23]), (.aload_n 0, []), (.iload_n 3, []), (.aload_n 0, []), (.iload_n 3, []), (.iconst 1, []), (.iadd, []), (.iaload, []), (.iastore, []), (.iinc 3 1, []), (.goto (-18), [2])]),
  (23, [(.return_, [])])]
def zc_mo_takes : List (Nat × List zIns) := [
  (0, [(.iconst 0, []), (.istore 5, [])]),
  (3, [(.iload 5, []), (.iload_n 2, []), (.if_icmp .ge 20, [26]), (.aload_n 0, []), (.getfield 61, [10, 25, 958, 2]), (.iload 5, []), (.aload_n 1, []), (.iload 5, []), (.iaload, []), (.iastore, []), (.iinc 5 1, []), (.goto (-20), [3])]),
  (26, [(.iconst 0, []), (.istore 5, [])]),
  (29, [(.iload 5, []), (.iload_n 2, []), (.if_icmp .ge 119, [151]), (.bipush (-9), []), (.istore 6, []), (.iconst 0, []), (.istore 7, [])]),
  (42, [(.iload 7, []), (.iload_n 2, []), (.iload 5, []), (.isub, []), (.if_icmp .ge 73, [121]), (.aload_n 0, []), (.aload_n 0, []), (.getfield 61, [10, 25, 958, 2]), (.iload 7, []), (.invokevirtual 173, [173, 1155, 0, 3, 4, 10])]),
  (61, [(.ifCond .ne 6, [67]), (.goto 51, [115])]),
  (67, [(.iload 6, []), (.bipush (-9), []), (.if_icmp .eq 40, [111]), (.aload_n 0, []), (.getfield 13, [10, 1, 934, 2]), (.aload_n 0, []), (.getfield 61, [10, 25, 958, 2]), (.iload 7, []), (.iaload, []), (.iaload, []), (.aload_n 0, []), (.getfield 13, [10, 1, 934, 2]), (.aload_n 0, []), (.getfield 61, [10, 25, 958, 2]), (.iload 6, []), (.iaload, []), (.iaload, []), (.if_icmp .ge 7, [105]), (.iconst 1, []), (.goto 4, [106])]),
  (105, [(.iconst 0, [])]),
  (106, [(.iload 4, []), (.if_icmp .eq 7, [115])]),
  (111, [(.iload 7, []), (.istore 6, [])]),
  (115, [(.iinc 7 1, []), (.goto (-76), [42])]),
  (121, [(.aload_n 3, []), (.iload 5, []), (.aload_n 0, []), (.getfield 61, [10, 25, 958, 2]), (.iload 6, []), (.iaload, []), (.iastore, []), (.aload_n 0, []), (.getfield 61, [10, 25, 958, 2]), (.iload_n 2, []), (.iload 5, []), (.isub, []), (.iload 6, []), (.invokestatic 177, [174, 1159, 1, 3, 0, 10])]),
  (145, [(.iinc 5 1, []), (.goto (-119), [29])]),
  (151, [(.return_, [])])]
def zc_mo_areAlike : List (Nat × List zIns) := [
  (0, [(.aload_n 0, []), (.aload_n 1, []), (.iload_n 3, []), (.aload_n 0, []), (.getfield 64, [10, 26, 959, 2]), (.iconst 0, []), (.invokevirtual 181, [175, 1151, 0, 5, 0, 10])]),
  (11, [(.aload_n 0, []), (.aload_n 2, []), (.iload_n 3, []), (.aload_n 0, []), (.getfield 67, [10, 27, 960, 2]), (.iconst 0, []), (.invokevirtual 181, [175, 1151, 0, 5, 0, 10])]),
  (22, [(.iconst 0, []), (.istore 4, [])]),
  (25, [(.iload 4, []), (.iload_n 3, []), (.if_icmp .ge 28, [56]), (.aload_n 0, []), (.getfield 64, [10, 26, 959, 2]), (.iload 4, []), (.iaload, []), (.aload_n 0, []), (.getfield 67, [10, 27, 960, 2]), (.iload 4, []), (.iaload, []), (.if_icmp .eq 5, [50]), (.iconst 0, []), (.ireturn, [])]),
  (50, [(.iinc 4 1, []), (.goto (-28), [25])]),
  (56, [(.iconst 1, []), (.ireturn, [])])]
def zc_mo_alike : List (Nat × List zIns) := [
  (0, [(.aload_n 0, []), (.iload_n 1, []), (.invokevirtual 170, [150, 1131, 0, 2, 4, 10])]),
  (5, [(.ifCond .eq 11, [16]), (.aload_n 0, []), (.iload_n 2, []), (.invokevirtual 170, [150, 1131, 0, 2, 4, 10])]),
  (13, [(.ifCond .ne 9, [22])]),
  (16, [(.aload_n 0, []), (.iconst (-1), []), (.invokevirtual 102, [147, 1046, 0, 2, 1, 10])]),
  (21, [(.ireturn, [])]),
  (22, [(.aload_n 0, []), (.getfield 16, [10, 3, 936, 2]), (.iload_n 1, []), (.iaload, []), (.aload_n 0, []), (.getfield 16, [10, 3, 936, 2]), (.iload_n 2, []), (.iaload, []), (.if_icmp .eq 5, [39]), (.iconst 0, []), (.ireturn, [])]),
  (39, [(.aload_n 0, []), (.aload_n 0, []), (.getfield 55, [10, 23, 956, 2]), (.iconst 0, []), (.iload_n 1, []), (.invokevirtual 185, [172, 1143, 0, 4, 1, 10])]),
  (49, [(.pop, []), (.aload_n 0, []), (.aload_n 0, []), (.getfield 58, [10, 24, 957, 2]), (.iconst 0, []), (.iload_n 2, []), (.invokevirtual 185, [172, 1143, 0, 4, 1, 10])]),
  (60, [(.pop, []), (.aload_n 0, []), (.aload_n 0, []), (.getfield 55, [10, 23, 956, 2]), (.aload_n 0, []), (.getfield 58, [10, 24, 957, 2]), (.aload_n 0, []), (.getfield 16, [10, 3, 936, 2]), (.iload_n 1, []), (.iaload, []), (.invokevirtual 189, [176, 1147, 0, 4, 4, 10])]),
  (79, [(.ifCond .eq 7, [86]), (.iconst 1, []), (.goto 4, [87])]),
  (86, [(.iconst 0, [])]),
  (87, [(.ireturn, [])])]
def zc_mo_block : List (Nat × List zIns) := [
  (0, [(.iconst 0, []), (.istore_n 2, []), (.iconst 0, []), (.istore_n 3, []), (.iconst 0, []), (.istore 4, []), (.iconst 0, []), (.istore 5, [])]),
  (10, [(.iload 5, []), (.iload_n 1, []), (.if_icmp .ge 35, [48]), (.iload 4, []), (.aload_n 0, []), (.aload_n 0, []), (.getfield 55, [10, 23, 956, 2]), (.iload 5, []), (.invokevirtual 173, [173, 1155, 0, 3, 4, 10])]),
  (28, [(.ifCond .eq 10, [38]), (.iconst 1, []), (.iload 5, []), (.ishl, []), (.goto 4, [39])]),
  (38, [(.iconst 0, [])]),
  (39, [(.ior, []), (.istore 4, []), (.iinc 5 1, []), (.goto (-35), [10])]),
  (48, [(.iconst 0, []), (.istore 5, [])]),
  (51, [(.iload 5, []), (.iload_n 1, []), (.if_icmp .ge 51, [105]), (.iload 4, []), (.iload 5, []), (.ishr, []), (.iconst 1, []), (.iand, []), (.iconst 1, []), (.if_icmp .ne 18, [83]), (.iload_n 2, []), (.iconst 1, []), (.aload_n 0, []), (.getfield 55, [10, 23, 956, 2]), (.iload 5, []), (.iaload, []), (.ishl, []), (.ior, []), (.istore_n 2, []), (.goto 19, [99])]),
  (83, [(.aload_n 0, []), (.getfield 55, [10, 23, 956, 2]), (.iload_n 3, []), (.aload_n 0, []), (.getfield 55, [10, 23, 956, 2]), (.iload 5, []), (.iaload, []), (.iastore, []), (.iinc 3 1, [])]),
  (99, [(.iinc 5 1, []), (.goto (-51), [51])]),
  (105, [(.iload_n 2, []), (.ireturn, [])])]
def zc_mo_blocks : List (Nat × List zIns) := [
  (0, [(.aload_n 0, []), (.iload_n 1, []), (.invokevirtual 170, [150, 1131, 0, 2, 4, 10])]),
  (5, [(.ifCond .ne 9, [14]), (.aload_n 0, []), (.iconst (-1), []), (.invokevirtual 102, [147, 1046, 0, 2, 1, 10])]),
  (13, [(.ireturn, [])]),
  (14, [(.iload_n 2, []), (.iconst (-1), []), (.if_icmp .ge 10, [26]), (.aload_n 0, []), (.bipush (-4), []), (.invokevirtual 102, [147, 1046, 0, 2, 1, 10])]),
  (25, [(.ireturn, [])]),
  (26, [(.aload_n 0, []), (.aload_n 0, []), (.getfield 55, [10, 23, 956, 2]), (.iconst 0, []), (.iload_n 1, []), (.invokevirtual 185, [172, 1143, 0, 4, 1, 10])]),
  (36, [(.istore_n 3, []), (.iconst 0, []), (.istore 4, [])]),
  (40, [(.iload_n 3, []), (.ifCond .le 51, [92]), (.aload_n 0, []), (.iload_n 3, []), (.invokevirtual 193, [178, 1166, 0, 2, 1, 10])]),
  (49, [(.istore 5, []), (.iload 4, []), (.iload_n 2, []), (.if_icmp .ne 6, [60]), (.iload 5, []), (.ireturn, [])]),
  (60, [(.iinc 4 1, []), (.iconst 0, []), (.istore 6, [])]),
  (66, [(.iload 6, []), (.bipush 6, []), (.if_icmp .ge 19, [89]), (.iload_n 3, []), (.iload 5, []), (.iload 6, []), (.ishr, []), (.iconst 1, []), (.iand, []), (.isub, []), (.istore_n 3, []), (.iinc 6 1, []), (.goto (-20), [66])]),
  (89, [(.goto (-49), [40])]),
  (92, [(.iload_n 2, []), (.iconst (-1), []), (.if_icmp .ne 8, [102]), (.iload 4, []), (.goto 4, [103])]),
  (102, [(.iconst 0, [])]),
  (103, [(.ireturn, [])])]
def zc_mo_least : List (Nat × List zIns) := [
  (0, [(.aload_n 0, []), (.iload_n 1, []), (.invokevirtual 170, [150, 1131, 0, 2, 4, 10])]),
  (5, [(.ifCond .ne 9, [14]), (.aload_n 0, []), (.iconst (-1), []), (.invokevirtual 102, [147, 1046, 0, 2, 1, 10])]),
  (13, [(.ireturn, [])]),
  (14, [(.iload_n 2, []), (.ifCond .ge 10, [25]), (.aload_n 0, []), (.bipush (-4), []), (.invokevirtual 102, [147, 1046, 0, 2, 1, 10])]),
  (24, [(.ireturn, [])]),
  (25, [(.iload_n 3, []), (.iconst 0, []), (.iconst 1, []), (.invokestatic 94, [146, 1060, 1, 3, 4, 10])]),
  (31, [(.ifCond .ne 10, [41]), (.aload_n 0, []), (.bipush (-2), []), (.invokevirtual 102, [147, 1046, 0, 2, 1, 10])]),
  (40, [(.ireturn, [])]),
  (41, [(.aload_n 0, []), (.aload_n 0, []), (.getfield 55, [10, 23, 956, 2]), (.iconst 0, []), (.iload_n 1, []), (.invokevirtual 185, [172, 1143, 0, 4, 1, 10])]),
  (51, [(.istore 4, []), (.aload_n 0, []), (.aload_n 0, []), (.getfield 55, [10, 23, 956, 2]), (.iload 4, []), (.aload_n 0, []), (.getfield 64, [10, 26, 959, 2]), (.iload_n 3, []), (.iconst 1, []), (.if_icmp .ne 7, [73]), (.iconst 1, []), (.goto 4, [74])]),
  (73, [(.iconst 0, [])]),
  (74, [(.invokevirtual 181, [175, 1151, 0, 5, 0, 10])]),
  (77, [(.iload_n 2, []), (.iload 4, []), (.if_icmp .ge 12, [92]), (.aload_n 0, []), (.getfield 64, [10, 26, 959, 2]), (.iload_n 2, []), (.iaload, []), (.goto 5, [94])]),
  (92, [(.bipush (-9), [])]),
  (94, [(.ireturn, [])])]
def zc_mo_orders : List (Nat × List zIns) := [
  (0, [(.iconst 0, []), (.istore_n 2, [])]),
  (2, [(.iload_n 2, []), (.iload_n 1, []), (.if_icmp .ge 122, [126]), (.aload_n 0, []), (.getfield 70, [10, 28, 961, 2]), (.iload_n 2, []), (.iconst 0, []), (.iastore, []), (.iconst 0, []), (.istore_n 3, [])]),
  (16, [(.iload_n 3, []), (.iload_n 2, []), (.if_icmp .ge 44, [62]), (.aload_n 0, []), (.getfield 70, [10, 28, 961, 2]), (.iload_n 2, []), (.dup2, []), (.iaload, []), (.aload_n 0, []), (.aload_n 0, []), (.getfield 55, [10, 23, 956, 2]), (.iload_n 2, []), (.iaload, []), (.aload_n 0, []), (.getfield 55, [10, 23, 956, 2]), (.iload_n 3, []), (.iaload, []), (.invokevirtual 127, [151, 1071, 0, 3, 4, 10])]),
  (44, [(.ifCond .eq 7, [51]), (.iconst 0, []), (.goto 6, [54])]),
  (51, [(.iconst 1, []), (.iload_n 3, []), (.ishl, [])]),
  (54, [(.ior, []), (.iastore, []), (.iinc 3 1, []), (.goto (-43), [16])]),
  (62, [(.aload_n 0, []), (.getfield 73, [10, 29, 962, 2]), (.iload_n 2, []), (.aload_n 0, []), (.getfield 70, [10, 28, 961, 2]), (.iload_n 2, []), (.iaload, []), (.iastore, []), (.iconst 0, []), (.istore_n 3, [])]),
  (76, [(.iload_n 3, []), (.iload_n 2, []), (.if_icmp .ge 42, [120]), (.aload_n 0, []), (.getfield 73, [10, 29, 962, 2]), (.iload_n 2, []), (.dup2, []), (.iaload, []), (.aload_n 0, []), (.getfield 70, [10, 28, 961, 2]), (.iload_n 2, []), (.iaload, []), (.iload_n 3, []), (.ishr, []), (.iconst 1, []), (.iand, []), (.iconst 1, []), (.if_icmp .ne 12, [111]), (.aload_n 0, []), (.getfield 73, [10, 29, 962, 2]), (.iload_n 3, []), (.iaload, []), (.goto 4, [112])]),
  (111, [(.iconst 0, [])]),
  (112, [(.ior, []), (.iastore, []), (.iinc 3 1, []), (.goto (-41), [76])]),
  (120, [(.iinc 2 1, []), (.goto (-121), [2])]),
  (126, [(.return_, [])])]
def zc_mo_copies : List (Nat × List zIns) := [
  (0, [(.aload_n 0, []), (.iload_n 1, []), (.invokevirtual 170, [150, 1131, 0, 2, 4, 10])]),
  (5, [(.ifCond .ne 9, [14]), (.aload_n 0, []), (.iconst (-1), []), (.invokevirtual 196, [148, 1178, 0, 2, 2, 10])]),
  (13, [(.lreturn, [])]),
  (14, [(.aload_n 0, []), (.aload_n 0, []), (.getfield 55, [10, 23, 956, 2]), (.iconst 0, []), (.iload_n 1, []), (.invokevirtual 185, [172, 1143, 0, 4, 1, 10])]),
  (24, [(.istore_n 2, []), (.aload_n 0, []), (.iload_n 2, []), (.invokevirtual 200, [181, 1183, 0, 2, 0, 10])]),
  (30, [(.iconst 0, []), (.istore_n 3, [])]),
  (32, [(.iload_n 3, []), (.iconst 1, []), (.iload_n 2, []), (.ishl, []), (.if_icmp .ge 24, [60]), (.aload_n 0, []), (.getfield 76, [10, 30, 963, 2]), (.iload_n 3, []), (.iload_n 3, []), (.ifCond .ne 7, [52]), (.lconst 1, []), (.goto 4, [53])]),
  (52, [(.lconst 0, [])]),
  (53, [(.lastore, []), (.iinc 3 1, []), (.goto (-25), [32])]),
  (60, [(.iconst 0, []), (.istore_n 3, [])]),
  (62, [(.iload_n 3, []), (.iconst 1, []), (.iload_n 2, []), (.ishl, []), (.if_icmp .ge 78, [144]), (.iconst 0, []), (.istore 4, [])]),
  (72, [(.iload 4, []), (.iload_n 2, []), (.if_icmp .ge 63, [138]), (.aload_n 0, []), (.getfield 76, [10, 30, 963, 2]), (.iload_n 3, []), (.laload, []), (.lconst 0, []), (.lcmp, []), (.ifCond .le 52, [138]), (.iload_n 3, []), (.iload 4, []), (.ishr, []), (.iconst 1, []), (.iand, []), (.ifCond .ne 37, [132]), (.aload_n 0, []), (.getfield 70, [10, 28, 961, 2]), (.iload 4, []), (.iaload, []), (.iload_n 3, []), (.iconst (-1), []), (.ixor, []), (.iand, []), (.ifCond .ne 23, [132]), (.aload_n 0, []), (.getfield 76, [10, 30, 963, 2]), (.iload_n 3, []), (.iconst 1, []), (.iload 4, []), (.ishl, []), (.ior, []), (.dup2, []), (.laload, []), (.aload_n 0, []), (.getfield 76, [10, 30, 963, 2]), (.iload_n 3, []), (.laload, []), (.ladd, []), (.lastore, [])]),
  (132, [(.iinc 4 1, []), (.goto (-63), [72])]),
  (138, [(.iinc 3 1, []), (.goto (-79), [62])]),
  (144, [(.aload_n 0, []), (.getfield 76, [10, 30, 963, 2]), (.iconst 1, []), (.iload_n 2, []), (.ishl, []), (.iconst 1, []), (.isub, []), (.laload, []), (.lreturn, [])])]
def zc_mo_seen : List (Nat × List zIns) := [
  (0, [(.aload_n 0, []), (.iload_n 1, []), (.invokevirtual 170, [150, 1131, 0, 2, 4, 10])]),
  (5, [(.ifCond .eq 17, [22]), (.iload_n 2, []), (.invokestatic 112, [149, 1057, 1, 1, 4, 10])]),
  (12, [(.ifCond .eq 10, [22]), (.iload_n 3, []), (.invokestatic 112, [149, 1057, 1, 1, 4, 10])]),
  (19, [(.ifCond .ne 9, [28])]),
  (22, [(.aload_n 0, []), (.iconst (-1), []), (.invokevirtual 102, [147, 1046, 0, 2, 1, 10])]),
  (27, [(.ireturn, [])]),
  (28, [(.iload 4, []), (.ifCond .ge 10, [40]), (.aload_n 0, []), (.bipush (-4), []), (.invokevirtual 102, [147, 1046, 0, 2, 1, 10])]),
  (39, [(.ireturn, [])]),
  (40, [(.iconst 0, []), (.istore 5, []), (.iconst 0, []), (.istore 6, [])]),
  (46, [(.iload 6, []), (.aload_n 0, []), (.getfield 16, [10, 3, 936, 2]), (.iload_n 1, []), (.iaload, []), (.if_icmp .ge 51, [105]), (.aload_n 0, []), (.getfield 19, [10, 4, 937, 2]), (.bipush 14, []), (.iload_n 1, []), (.imul, []), (.iload 6, []), (.iadd, []), (.iaload, []), (.istore 7, []), (.iload 7, []), (.iload_n 2, []), (.if_icmp .eq 12, [86]), (.iload 7, []), (.iload_n 3, []), (.if_icmp .eq 6, [86]), (.goto 16, [99])]),
  (86, [(.iload 5, []), (.iload 4, []), (.if_icmp .ne 6, [96]), (.iload 7, []), (.ireturn, [])]),
  (96, [(.iinc 5 1, [])]),
  (99, [(.iinc 6 1, []), (.goto (-56), [46])]),
  (105, [(.bipush (-9), []), (.ireturn, [])])]
def zc_mo_spread : List (Nat × List zIns) := [
  (0, [(.aload_n 0, []), (.iload_n 1, []), (.invokevirtual 170, [150, 1131, 0, 2, 4, 10])]),
  (5, [(.ifCond .eq 10, [15]), (.iload_n 2, []), (.invokestatic 112, [149, 1057, 1, 1, 4, 10])]),
  (12, [(.ifCond .ne 9, [21])]),
  (15, [(.aload_n 0, []), (.iconst (-1), []), (.invokevirtual 102, [147, 1046, 0, 2, 1, 10])]),
  (20, [(.ireturn, [])]),
  (21, [(.iload_n 3, []), (.ifCond .ge 10, [32]), (.aload_n 0, []), (.bipush (-4), []), (.invokevirtual 102, [147, 1046, 0, 2, 1, 10])]),
  (31, [(.ireturn, [])]),
  (32, [(.iload 4, []), (.iconst 0, []), (.iconst 1, []), (.invokestatic 94, [146, 1060, 1, 3, 4, 10])]),
  (39, [(.ifCond .ne 10, [49]), (.aload_n 0, []), (.bipush (-2), []), (.invokevirtual 102, [147, 1046, 0, 2, 1, 10])]),
  (48, [(.ireturn, [])]),
  (49, [(.aload_n 0, []), (.aload_n 0, []), (.getfield 55, [10, 23, 956, 2]), (.iconst 0, []), (.iload_n 1, []), (.invokevirtual 185, [172, 1143, 0, 4, 1, 10])]),
  (59, [(.istore 5, []), (.aload_n 0, []), (.iload 5, []), (.invokevirtual 200, [181, 1183, 0, 2, 0, 10])]),
  (67, [(.iconst 0, []), (.istore 6, []), (.iconst 0, []), (.istore 7, [])]),
  (73, [(.iload 6, []), (.iload 5, []), (.if_icmp .ge 47, [124]), (.aload_n 0, []), (.getfield 55, [10, 23, 956, 2]), (.iload 6, []), (.iaload, []), (.iload_n 2, []), (.if_icmp .ne 9, [97]), (.iload 7, []), (.iload_n 3, []), (.if_icmp .ge 30, [124])]),
  (97, [(.iload 7, []), (.aload_n 0, []), (.getfield 55, [10, 23, 956, 2]), (.iload 6, []), (.iaload, []), (.iload_n 2, []), (.if_icmp .ne 7, [114]), (.iconst 1, []), (.goto 4, [115])]),
  (114, [(.iconst 0, [])]),
  (115, [(.iadd, []), (.istore 7, []), (.iinc 6 1, []), (.goto (-48), [73])]),
  (124, [(.iload 6, []), (.iload 5, []), (.if_icmp .ne 6, [134]), (.bipush (-9), []), (.ireturn, [])]),
  (134, [(.iload 4, []), (.ifCond .ne 7, [143]), (.iconst 0, []), (.goto 7, [147])]),
  (143, [(.iload 5, []), (.iconst 1, []), (.isub, [])]),
  (147, [(.istore 8, []), (.iconst 0, []), (.istore 9, [])]),
  (152, [(.iload 9, []), (.iload 5, []), (.if_icmp .ge 47, [203]), (.iload 8, []), (.iload 4, []), (.ifCond .ne 18, [181]), (.aload_n 0, []), (.getfield 73, [10, 29, 962, 2]), (.iload 6, []), (.iaload, []), (.iload 9, []), (.ishr, []), (.iconst 1, []), (.iand, []), (.goto 16, [194])]),
  (181, [(.aload_n 0, []), (.getfield 73, [10, 29, 962, 2]), (.iload 9, []), (.iaload, []), (.iload 6, []), (.ishr, []), (.iconst 1, []), (.iand, []), (.ineg, [])]),
  (194, [(.iadd, []), (.istore 8, []), (.iinc 9 1, []), (.goto (-48), [152])]),
  (203, [(.iload 8, []), (.ireturn, [])])]
def zc_mo_common_ : List (Nat × List zIns) := [
  (0, [(.lload_n 2, []), (.lconst 0, []), (.lcmp, []), (.ifCond .ne 7, [10]), (.lload_n 0, []), (.goto 10, [17])]),
  (10, [(.lload_n 2, []), (.lload_n 0, []), (.lload_n 2, []), (.lrem, []), (.invokestatic 203, [185, 1199, 1, 2, 2, 10])]),
  (17, [(.lreturn, [])])]
def zc_mo_odds : List (Nat × List zIns) := [
  (0, [(.aload_n 0, []), (.iload_n 1, []), (.invokevirtual 170, [150, 1131, 0, 2, 4, 10])]),
  (5, [(.ifCond .ne 9, [14]), (.aload_n 0, []), (.iconst (-1), []), (.invokevirtual 196, [148, 1178, 0, 2, 2, 10])]),
  (13, [(.lreturn, [])]),
  (14, [(.iload_n 2, []), (.iconst 0, []), (.iconst 1, []), (.invokestatic 94, [146, 1060, 1, 3, 4, 10])]),
  (20, [(.ifCond .ne 10, [30]), (.aload_n 0, []), (.bipush (-2), []), (.invokevirtual 196, [148, 1178, 0, 2, 2, 10])]),
  (29, [(.lreturn, [])]),
  (30, [(.aload_n 0, []), (.aload_n 0, []), (.getfield 55, [10, 23, 956, 2]), (.iconst 0, []), (.iload_n 1, []), (.invokevirtual 185, [172, 1143, 0, 4, 1, 10])]),
  (40, [(.istore_n 3, []), (.iload_n 3, []), (.ifCond .ne 6, [48]), (.iload_n 2, []), (.i2l, []), (.lreturn, [])]),
  (48, [(.lconst 0, []), (.lstore 4, []), (.lconst 0, []), (.lstore 6, []), (.iconst 0, []), (.istore 8, [])]),
  (57, [(.iload 8, []), (.iload_n 3, []), (.if_icmp .ge 57, [117]), (.aload_n 0, []), (.aload_n 0, []), (.getfield 55, [10, 23, 956, 2]), (.iload 8, []), (.invokevirtual 173, [173, 1155, 0, 3, 4, 10])]),
  (73, [(.ifCond .ne 6, [79]), (.goto 35, [111])]),
  (79, [(.lload 6, []), (.lconst 1, []), (.ladd, []), (.lstore 6, []), (.lload 4, []), (.aload_n 0, []), (.getfield 13, [10, 1, 934, 2]), (.aload_n 0, []), (.getfield 55, [10, 23, 956, 2]), (.iload 8, []), (.iaload, []), (.iaload, []), (.iconst 3, []), (.if_icmp .ge 7, [107]), (.lconst 1, []), (.goto 4, [108])]),
  (107, [(.lconst 0, [])]),
  (108, [(.ladd, []), (.lstore 4, [])]),
  (111, [(.iinc 8 1, []), (.goto (-57), [57])]),
  (117, [(.iload_n 2, []), (.ifCond .ne 8, [126]), (.lload 4, []), (.goto 5, [128])]),
  (126, [(.lload 6, [])]),
  (128, [(.lload 4, []), (.lload 6, []), (.invokestatic 203, [185, 1199, 1, 2, 2, 10])]),
  (135, [(.ldiv, []), (.lreturn, [])])]
def zc_mo_placeOf : List (Nat × List zIns) := [
  (0, [(.iconst 0, []), (.istore 4, [])]),
  (3, [(.iload 4, []), (.iload_n 2, []), (.if_icmp .ge 35, [41]), (.aload_n 1, []), (.iload 4, []), (.iaload, []), (.iload_n 3, []), (.if_icmp .ne 21, [35]), (.aload_n 0, []), (.aload_n 1, []), (.iload 4, []), (.invokevirtual 173, [173, 1155, 0, 3, 4, 10])]),
  (24, [(.ifCond .eq 8, [32]), (.iload 4, []), (.goto 5, [34])]),
  (32, [(.bipush (-9), [])]),
  (34, [(.ireturn, [])]),
  (35, [(.iinc 4 1, []), (.goto (-35), [3])]),
  (41, [(.bipush (-9), []), (.ireturn, [])])]
def zc_mo_begins : List (Nat × List zIns) := [
  (0, [(.aload_n 0, []), (.iload_n 1, []), (.invokevirtual 170, [150, 1131, 0, 2, 4, 10])]),
  (5, [(.ifCond .eq 11, [16]), (.aload_n 0, []), (.iload_n 2, []), (.invokevirtual 170, [150, 1131, 0, 2, 4, 10])]),
  (13, [(.ifCond .ne 9, [22])]),
  (16, [(.aload_n 0, []), (.iconst (-1), []), (.invokevirtual 102, [147, 1046, 0, 2, 1, 10])]),
  (21, [(.ireturn, [])]),
  (22, [(.iload_n 3, []), (.iconst (-1), []), (.if_icmp .ge 10, [34]), (.aload_n 0, []), (.bipush (-4), []), (.invokevirtual 102, [147, 1046, 0, 2, 1, 10])]),
  (33, [(.ireturn, [])]),
  (34, [(.aload_n 0, []), (.aload_n 0, []), (.getfield 55, [10, 23, 956, 2]), (.iconst 0, []), (.iload_n 1, []), (.invokevirtual 185, [172, 1143, 0, 4, 1, 10])]),
  (44, [(.istore 4, []), (.iconst 0, []), (.istore 5, [])]),
  (49, [(.iload 5, []), (.aload_n 0, []), (.getfield 16, [10, 3, 936, 2]), (.iload_n 2, []), (.iaload, []), (.if_icmp .ge 66, [123]), (.aload_n 0, []), (.aload_n 0, []), (.getfield 55, [10, 23, 956, 2]), (.iload 4, []), (.aload_n 0, []), (.getfield 19, [10, 4, 937, 2]), (.bipush 14, []), (.iload_n 2, []), (.imul, []), (.iload 5, []), (.iadd, []), (.iaload, []), (.invokevirtual 207, [187, 1206, 0, 4, 1, 10])]),
  (82, [(.istore 6, []), (.iload 6, []), (.bipush (-9), []), (.if_icmp .ne 15, [103]), (.iload_n 3, []), (.iconst (-1), []), (.if_icmp .ne 7, [100]), (.iconst 0, []), (.goto 5, [102])]),
  (100, [(.bipush (-9), [])]),
  (102, [(.ireturn, [])]),
  (103, [(.aload_n 0, []), (.getfield 55, [10, 23, 956, 2]), (.iload 4, []), (.iload 6, []), (.invokestatic 177, [174, 1159, 1, 3, 0, 10])]),
  (114, [(.iinc 4 (-1), []), (.iinc 5 1, []), (.goto (-71), [49])]),
  (123, [(.iload_n 3, []), (.iconst (-1), []), (.if_icmp .ne 5, [130]), (.iconst 1, []), (.ireturn, [])]),
  (130, [(.aload_n 0, []), (.aload_n 0, []), (.getfield 55, [10, 23, 956, 2]), (.iload 4, []), (.aload_n 0, []), (.getfield 64, [10, 26, 959, 2]), (.iconst 0, []), (.invokevirtual 181, [175, 1151, 0, 5, 0, 10])]),
  (145, [(.iload_n 3, []), (.iload 4, []), (.if_icmp .ge 12, [160]), (.aload_n 0, []), (.getfield 64, [10, 26, 959, 2]), (.iload_n 3, []), (.iaload, []), (.goto 5, [162])]),
  (160, [(.bipush (-9), [])]),
  (162, [(.ireturn, [])])]
def zc_mo_common : List (Nat × List zIns) := [
  (0, [(.aload_n 0, []), (.iload_n 1, []), (.invokevirtual 170, [150, 1131, 0, 2, 4, 10])]),
  (5, [(.ifCond .eq 11, [16]), (.aload_n 0, []), (.iload_n 2, []), (.invokevirtual 170, [150, 1131, 0, 2, 4, 10])]),
  (13, [(.ifCond .ne 9, [22])]),
  (16, [(.aload_n 0, []), (.iconst (-1), []), (.invokevirtual 102, [147, 1046, 0, 2, 1, 10])]),
  (21, [(.ireturn, [])]),
  (22, [(.iload_n 3, []), (.iconst (-1), []), (.if_icmp .ge 10, [34]), (.aload_n 0, []), (.bipush (-4), []), (.invokevirtual 102, [147, 1046, 0, 2, 1, 10])]),
  (33, [(.ireturn, [])]),
  (34, [(.aload_n 0, []), (.aload_n 0, []), (.getfield 55, [10, 23, 956, 2]), (.iconst 0, []), (.iload_n 1, []), (.invokevirtual 185, [172, 1143, 0, 4, 1, 10])]),
  (44, [(.istore 4, []), (.aload_n 0, []), (.aload_n 0, []), (.getfield 58, [10, 24, 957, 2]), (.iconst 0, []), (.iload_n 2, []), (.invokevirtual 185, [172, 1143, 0, 4, 1, 10])]),
  (56, [(.istore 5, []), (.iconst 0, []), (.istore 6, []), (.iconst 0, []), (.istore 7, [])]),
  (64, [(.iload 7, []), (.bipush 6, []), (.if_icmp .ge 97, [165]), (.aload_n 0, []), (.aload_n 0, []), (.getfield 55, [10, 23, 956, 2]), (.iload 4, []), (.iload 7, []), (.invokevirtual 207, [187, 1206, 0, 4, 1, 10])]),
  (83, [(.istore 8, []), (.aload_n 0, []), (.aload_n 0, []), (.getfield 58, [10, 24, 957, 2]), (.iload 5, []), (.iload 7, []), (.invokevirtual 207, [187, 1206, 0, 4, 1, 10])]),
  (97, [(.istore 9, []), (.iload 8, []), (.bipush (-9), []), (.if_icmp .eq 10, [113]), (.iload 9, []), (.bipush (-9), []), (.if_icmp .ne 9, [119])]),
  (113, [(.iinc 7 1, []), (.goto (-52), [64])]),
  (119, [(.aload_n 0, []), (.getfield 80, [10, 31, 964, 2]), (.iload 6, []), (.iload 7, []), (.iastore, []), (.iinc 6 1, []), (.aload_n 0, []), (.getfield 55, [10, 23, 956, 2]), (.iload 4, []), (.iload 8, []), (.invokestatic 177, [174, 1159, 1, 3, 0, 10])]),
  (142, [(.aload_n 0, []), (.getfield 58, [10, 24, 957, 2]), (.iload 5, []), (.iload 9, []), (.invokestatic 177, [174, 1159, 1, 3, 0, 10])]),
  (153, [(.iinc 4 (-1), []), (.iinc 5 (-1), []), (.iconst 0, []), (.istore 7, []), (.goto (-98), [64])]),
  (165, [(.iload_n 3, []), (.iconst (-1), []), (.if_icmp .ne 6, [173]), (.iload 6, []), (.ireturn, [])]),
  (173, [(.aload_n 0, []), (.aload_n 0, []), (.getfield 80, [10, 31, 964, 2]), (.iload 6, []), (.aload_n 0, []), (.getfield 64, [10, 26, 959, 2]), (.iconst 0, []), (.invokevirtual 181, [175, 1151, 0, 5, 0, 10])]),
  (188, [(.iload_n 3, []), (.iload 6, []), (.if_icmp .ge 12, [203]), (.aload_n 0, []), (.getfield 64, [10, 26, 959, 2]), (.iload_n 3, []), (.iaload, []), (.goto 5, [205])]),
  (203, [(.bipush (-9), [])]),
  (205, [(.ireturn, [])])]
def zc_mo_product : List (Nat × List zIns) := [
  (0, [(.aload_n 0, []), (.iload_n 1, []), (.invokevirtual 170, [150, 1131, 0, 2, 4, 10])]),
  (5, [(.ifCond .eq 11, [16]), (.aload_n 0, []), (.iload_n 2, []), (.invokevirtual 170, [150, 1131, 0, 2, 4, 10])]),
  (13, [(.ifCond .ne 9, [22])]),
  (16, [(.aload_n 0, []), (.iconst (-1), []), (.invokevirtual 102, [147, 1046, 0, 2, 1, 10])]),
  (21, [(.ireturn, [])]),
  (22, [(.aload_n 0, []), (.getfield 16, [10, 3, 936, 2]), (.iload_n 1, []), (.iaload, []), (.aload_n 0, []), (.getfield 16, [10, 3, 936, 2]), (.iload_n 2, []), (.iaload, []), (.iadd, []), (.bipush 14, []), (.if_icmp .gt 11, [48]), (.aload_n 0, []), (.getfield 98, [10, 2, 935, 0]), (.iconst 5, []), (.if_icmp .ne 10, [55])]),
  (48, [(.aload_n 0, []), (.bipush (-6), []), (.invokevirtual 102, [147, 1046, 0, 2, 1, 10])]),
  (54, [(.ireturn, [])]),
  (55, [(.aload_n 0, []), (.aload_n 0, []), (.getfield 55, [10, 23, 956, 2]), (.aload_n 0, []), (.aload_n 0, []), (.getfield 55, [10, 23, 956, 2]), (.aload_n 0, []), (.aload_n 0, []), (.getfield 55, [10, 23, 956, 2]), (.iconst 0, []), (.iload_n 1, []), (.invokevirtual 185, [172, 1143, 0, 4, 1, 10])]),
  (75, [(.iload_n 2, []), (.invokevirtual 185, [172, 1143, 0, 4, 1, 10])]),
  (79, [(.invokevirtual 166, [168, 1123, 0, 3, 1, 10])]),
  (82, [(.ireturn, [])])]
def zc_mo_power : List (Nat × List zIns) := [
  (0, [(.aload_n 0, []), (.iload_n 1, []), (.invokevirtual 170, [150, 1131, 0, 2, 4, 10])]),
  (5, [(.ifCond .ne 9, [14]), (.aload_n 0, []), (.iconst (-1), []), (.invokevirtual 102, [147, 1046, 0, 2, 1, 10])]),
  (13, [(.ireturn, [])]),
  (14, [(.iload_n 2, []), (.ifCond .ge 10, [25]), (.aload_n 0, []), (.bipush (-4), []), (.invokevirtual 102, [147, 1046, 0, 2, 1, 10])]),
  (24, [(.ireturn, [])]),
  (25, [(.aload_n 0, []), (.getfield 16, [10, 3, 936, 2]), (.iload_n 1, []), (.iaload, []), (.i2l, []), (.iload_n 2, []), (.i2l, []), (.lmul, []), (.ldc2_w 210, [14, 1222]), (.lcmp, []), (.ifCond .gt 11, [50]), (.aload_n 0, []), (.getfield 98, [10, 2, 935, 0]), (.iconst 5, []), (.if_icmp .ne 10, [57])]),
  (50, [(.aload_n 0, []), (.bipush (-6), []), (.invokevirtual 102, [147, 1046, 0, 2, 1, 10])]),
  (56, [(.ireturn, [])]),
  (57, [(.iconst 0, []), (.istore_n 3, []), (.iconst 0, []), (.istore 4, [])]),
  (62, [(.iload 4, []), (.iload_n 2, []), (.if_icmp .ge 29, [94]), (.aload_n 0, []), (.getfield 16, [10, 3, 936, 2]), (.iload_n 1, []), (.iaload, []), (.ifCond .le 20, [94]), (.aload_n 0, []), (.aload_n 0, []), (.getfield 55, [10, 23, 956, 2]), (.iload_n 3, []), (.iload_n 1, []), (.invokevirtual 185, [172, 1143, 0, 4, 1, 10])]),
  (87, [(.istore_n 3, []), (.iinc 4 1, []), (.goto (-29), [62])]),
  (94, [(.aload_n 0, []), (.aload_n 0, []), (.getfield 55, [10, 23, 956, 2]), (.iload_n 3, []), (.invokevirtual 166, [168, 1123, 0, 3, 1, 10])]),
  (103, [(.ireturn, [])])]
def zc_mo_changes : List (Nat × List zIns) := [
  (0, [(.aload_n 0, []), (.iload_n 1, []), (.invokevirtual 170, [150, 1131, 0, 2, 4, 10])]),
  (5, [(.ifCond .eq 11, [16]), (.aload_n 0, []), (.iload_n 2, []), (.invokevirtual 170, [150, 1131, 0, 2, 4, 10])]),
  (13, [(.ifCond .ne 9, [22])]),
  (16, [(.aload_n 0, []), (.iconst (-1), []), (.invokevirtual 102, [147, 1046, 0, 2, 1, 10])]),
  (21, [(.ireturn, [])]),
  (22, [(.aload_n 0, []), (.aload_n 0, []), (.getfield 55, [10, 23, 956, 2]), (.aload_n 0, []), (.aload_n 0, []), (.getfield 55, [10, 23, 956, 2]), (.iconst 0, []), (.iload_n 1, []), (.invokevirtual 185, [172, 1143, 0, 4, 1, 10])]),
  (37, [(.iload_n 2, []), (.invokevirtual 185, [172, 1143, 0, 4, 1, 10])]),
  (41, [(.istore_n 3, []), (.aload_n 0, []), (.aload_n 0, []), (.getfield 58, [10, 24, 957, 2]), (.aload_n 0, []), (.aload_n 0, []), (.getfield 58, [10, 24, 957, 2]), (.iconst 0, []), (.iload_n 2, []), (.invokevirtual 185, [172, 1143, 0, 4, 1, 10])]),
  (57, [(.iload_n 1, []), (.invokevirtual 185, [172, 1143, 0, 4, 1, 10])]),
  (61, [(.pop, []), (.aload_n 0, []), (.aload_n 0, []), (.getfield 55, [10, 23, 956, 2]), (.aload_n 0, []), (.getfield 58, [10, 24, 957, 2]), (.iload_n 3, []), (.invokevirtual 189, [176, 1147, 0, 4, 4, 10])]),
  (75, [(.ifCond .eq 7, [82]), (.iconst 1, []), (.goto 4, [83])]),
  (82, [(.iconst 0, [])]),
  (83, [(.ireturn, [])])]
def zc_mo_rootBy : List (Nat × List zIns) := [
  (0, [(.iconst 0, []), (.istore_n 3, [])]),
  (2, [(.iload_n 3, []), (.bipush 6, []), (.if_icmp .ge 16, [21]), (.aload_n 0, []), (.getfield 83, [10, 32, 965, 2]), (.iload_n 3, []), (.iconst 0, []), (.iastore, []), (.iinc 3 1, []), (.goto (-16), [2])]),
  (21, [(.iconst 0, []), (.istore_n 3, [])]),
  (23, [(.iload_n 3, []), (.aload_n 0, []), (.getfield 16, [10, 3, 936, 2]), (.iload_n 1, []), (.iaload, []), (.if_icmp .ge 29, [59]), (.aload_n 0, []), (.getfield 83, [10, 32, 965, 2]), (.aload_n 0, []), (.getfield 19, [10, 4, 937, 2]), (.bipush 14, []), (.iload_n 1, []), (.imul, []), (.iload_n 3, []), (.iadd, []), (.iaload, []), (.dup2, []), (.iaload, []), (.iconst 1, []), (.iadd, []), (.iastore, []), (.iinc 3 1, []), (.goto (-33), [23])]),
  (59, [(.iconst 0, []), (.istore_n 3, [])]),
  (61, [(.iload_n 3, []), (.bipush 6, []), (.if_icmp .ge 33, [97]), (.aload_n 0, []), (.getfield 83, [10, 32, 965, 2]), (.iload_n 3, []), (.iaload, []), (.iload_n 2, []), (.irem, []), (.ifCond .eq 6, [81]), (.bipush (-9), []), (.ireturn, [])]),
  (81, [(.aload_n 0, []), (.getfield 83, [10, 32, 965, 2]), (.iload_n 3, []), (.dup2, []), (.iaload, []), (.iload_n 2, []), (.idiv, []), (.iastore, []), (.iinc 3 1, []), (.goto (-33), [61])]),
  (97, [(.iconst 0, []), (.istore_n 3, []), (.iconst 0, []), (.istore 4, [])]),
  (102, [(.iload 4, []), (.aload_n 0, []), (.getfield 16, [10, 3, 936, 2]), (.iload_n 1, []), (.iaload, []), (.if_icmp .ge 58, [168]), (.aload_n 0, []), (.getfield 19, [10, 4, 937, 2]), (.bipush 14, []), (.iload_n 1, []), (.imul, []), (.iload 4, []), (.iadd, []), (.iaload, []), (.istore 5, []), (.aload_n 0, []), (.getfield 83, [10, 32, 965, 2]), (.iload 5, []), (.iaload, []), (.ifCond .ne 6, [140]), (.goto 25, [162])]),
  (140, [(.aload_n 0, []), (.getfield 83, [10, 32, 965, 2]), (.iload 5, []), (.dup2, []), (.iaload, []), (.iconst 1, []), (.isub, []), (.iastore, []), (.aload_n 0, []), (.getfield 58, [10, 24, 957, 2]), (.iload_n 3, []), (.iload 5, []), (.iastore, []), (.iinc 3 1, [])]),
  (162, [(.iinc 4 1, []), (.goto (-63), [102])]),
  (168, [(.iload_n 3, []), (.ireturn, [])])]
def zc_mo_isRoot : List (Nat × List zIns) := [
  (0, [(.iconst 1, []), (.istore 4, [])]),
  (3, [(.iload 4, []), (.iload_n 2, []), (.if_icmp .ge 43, [49]), (.iconst 0, []), (.istore 5, [])]),
  (12, [(.iload 5, []), (.iload_n 3, []), (.if_icmp .ge 28, [43]), (.aload_n 0, []), (.getfield 58, [10, 24, 957, 2]), (.iload_n 3, []), (.iload 4, []), (.imul, []), (.iload 5, []), (.iadd, []), (.aload_n 0, []), (.getfield 58, [10, 24, 957, 2]), (.iload 5, []), (.iaload, []), (.iastore, []), (.iinc 5 1, []), (.goto (-28), [12])]),
  (43, [(.iinc 4 1, []), (.goto (-43), [3])]),
  (49, [(.aload_n 0, []), (.aload_n 0, []), (.getfield 55, [10, 23, 956, 2]), (.iconst 0, []), (.iload_n 1, []), (.invokevirtual 185, [172, 1143, 0, 4, 1, 10])]),
  (59, [(.pop, []), (.aload_n 0, []), (.aload_n 0, []), (.getfield 55, [10, 23, 956, 2]), (.aload_n 0, []), (.getfield 58, [10, 24, 957, 2]), (.aload_n 0, []), (.getfield 16, [10, 3, 936, 2]), (.iload_n 1, []), (.iaload, []), (.invokevirtual 189, [176, 1147, 0, 4, 4, 10])]),
  (78, [(.ireturn, [])])]
def zc_mo_root : List (Nat × List zIns) := [
  (0, [(.aload_n 0, []), (.iload_n 1, []), (.invokevirtual 170, [150, 1131, 0, 2, 4, 10])]),
  (5, [(.ifCond .ne 9, [14]), (.aload_n 0, []), (.iconst (-1), []), (.invokevirtual 102, [147, 1046, 0, 2, 1, 10])]),
  (13, [(.ireturn, [])]),
  (14, [(.iload_n 2, []), (.iconst (-1), []), (.if_icmp .ge 10, [26]), (.aload_n 0, []), (.bipush (-4), []), (.invokevirtual 102, [147, 1046, 0, 2, 1, 10])]),
  (25, [(.ireturn, [])]),
  (26, [(.aload_n 0, []), (.getfield 16, [10, 3, 936, 2]), (.iload_n 1, []), (.iaload, []), (.ifCond .ne 10, [42]), (.aload_n 0, []), (.bipush (-3), []), (.invokevirtual 102, [147, 1046, 0, 2, 1, 10])]),
  (41, [(.ireturn, [])]),
  (42, [(.aload_n 0, []), (.getfield 16, [10, 3, 936, 2]), (.iload_n 1, []), (.iaload, []), (.istore_n 3, []), (.aload_n 0, []), (.iload_n 1, []), (.iload_n 3, []), (.invokevirtual 212, [193, 1231, 0, 3, 1, 10])]),
  (55, [(.istore 4, [])]),
  (57, [(.iload 4, []), (.bipush (-9), []), (.if_icmp .eq 14, [75]), (.aload_n 0, []), (.iload_n 1, []), (.iload_n 3, []), (.iload 4, []), (.invokevirtual 216, [194, 1235, 0, 4, 4, 10])]),
  (72, [(.ifCond .ne 17, [89])]),
  (75, [(.iinc 3 (-1), []), (.aload_n 0, []), (.iload_n 1, []), (.iload_n 3, []), (.invokevirtual 212, [193, 1231, 0, 3, 1, 10])]),
  (84, [(.istore 4, []), (.goto (-29), [57])]),
  (89, [(.iload_n 2, []), (.iconst (-1), []), (.if_icmp .ne 5, [96]), (.iload_n 3, []), (.ireturn, [])]),
  (96, [(.aload_n 0, []), (.aload_n 0, []), (.getfield 58, [10, 24, 957, 2]), (.iload 4, []), (.aload_n 0, []), (.getfield 64, [10, 26, 959, 2]), (.iconst 0, []), (.invokevirtual 181, [175, 1151, 0, 5, 0, 10])]),
  (111, [(.iload_n 2, []), (.iload 4, []), (.if_icmp .ge 12, [126]), (.aload_n 0, []), (.getfield 64, [10, 26, 959, 2]), (.iload_n 2, []), (.iaload, []), (.goto 5, [128])]),
  (126, [(.bipush (-9), [])]),
  (128, [(.ireturn, [])])]
def zc_mo_stands : List (Nat × List zIns) := [
  (0, [(.iconst 0, []), (.istore_n 2, []), (.iconst 0, []), (.istore_n 3, [])]),
  (4, [(.iload_n 3, []), (.aload_n 0, []), (.getfield 16, [10, 3, 936, 2]), (.iload_n 1, []), (.iaload, []), (.if_icmp .ge 25, [36]), (.iload_n 2, []), (.iconst 1, []), (.aload_n 0, []), (.getfield 19, [10, 4, 937, 2]), (.bipush 14, []), (.iload_n 1, []), (.imul, []), (.iload_n 3, []), (.iadd, []), (.iaload, []), (.ishl, []), (.ior, []), (.istore_n 2, []), (.iinc 3 1, []), (.goto (-29), [4])]),
  (36, [(.iload_n 2, []), (.ireturn, [])])]
def zc_mo_partOf : List (Nat × List zIns) := [
  (0, [(.iconst 1, []), (.iload_n 1, []), (.ishl, []), (.istore_n 3, []), (.iconst 0, []), (.istore 4, [])]),
  (7, [(.iload 4, []), (.bipush 6, []), (.if_icmp .ge 53, [64]), (.iconst 0, []), (.istore 5, [])]),
  (17, [(.iload 5, []), (.bipush 6, []), (.if_icmp .ge 37, [58]), (.iload_n 3, []), (.iload_n 3, []), (.iload 5, []), (.ishr, []), (.iconst 1, []), (.iand, []), (.iconst 1, []), (.if_icmp .ne 17, [49]), (.iload_n 2, []), (.aload_n 0, []), (.getfield 9, [10, 0, 933, 2]), (.iload 5, []), (.iaload, []), (.iconst (-1), []), (.ixor, []), (.iand, []), (.goto 4, [50])]),
  (49, [(.iconst 0, [])]),
  (50, [(.ior, []), (.istore_n 3, []), (.iinc 5 1, []), (.goto (-38), [17])]),
  (58, [(.iinc 4 1, []), (.goto (-54), [7])]),
  (64, [(.iload_n 3, []), (.ireturn, [])])]
def zc_mo_parts : List (Nat × List zIns) := [
  (0, [(.aload_n 0, []), (.iload_n 1, []), (.invokevirtual 170, [150, 1131, 0, 2, 4, 10])]),
  (5, [(.ifCond .eq 12, [17]), (.iload_n 2, []), (.iconst (-1), []), (.iconst 5, []), (.invokestatic 94, [146, 1060, 1, 3, 4, 10])]),
  (14, [(.ifCond .ne 9, [23])]),
  (17, [(.aload_n 0, []), (.iconst (-1), []), (.invokevirtual 102, [147, 1046, 0, 2, 1, 10])]),
  (22, [(.ireturn, [])]),
  (23, [(.aload_n 0, []), (.iload_n 1, []), (.invokevirtual 219, [196, 1243, 0, 2, 1, 10])]),
  (28, [(.istore_n 3, []), (.iload_n 2, []), (.ifCond .lt 23, [53]), (.iload_n 3, []), (.iload_n 2, []), (.ishr, []), (.iconst 1, []), (.iand, []), (.iconst 1, []), (.if_icmp .ne 12, [51]), (.aload_n 0, []), (.iload_n 2, []), (.iload_n 3, []), (.invokevirtual 222, [197, 1247, 0, 3, 1, 10])]),
  (48, [(.goto 4, [52])]),
  (51, [(.iconst 0, [])]),
  (52, [(.ireturn, [])]),
  (53, [(.iconst 0, []), (.istore 4, []), (.iconst 0, []), (.istore 5, [])]),
  (59, [(.iload 5, []), (.bipush 6, []), (.if_icmp .ge 46, [109]), (.iload 4, []), (.iload_n 3, []), (.iload 5, []), (.ishr, []), (.iconst 1, []), (.iand, []), (.iconst 1, []), (.if_icmp .ne 24, [99]), (.aload_n 0, []), (.iload 5, []), (.iload_n 3, []), (.invokevirtual 222, [197, 1247, 0, 3, 1, 10])]),
  (85, [(.iconst 1, []), (.iload 5, []), (.ishl, []), (.iconst 1, []), (.isub, []), (.iand, []), (.ifCond .ne 7, [99]), (.iconst 1, []), (.goto 4, [100])]),
  (99, [(.iconst 0, [])]),
  (100, [(.iadd, []), (.istore 4, []), (.iinc 5 1, []), (.goto (-47), [59])]),
  (109, [(.iload 4, []), (.ireturn, [])])]
def zc_mo_numberOf : List (Nat × List zIns) := [
  (0, [(.iconst 0, []), (.istore_n 3, []), (.iconst 0, []), (.istore 4, [])]),
  (5, [(.iload 4, []), (.iload_n 2, []), (.if_icmp .ge 19, [27]), (.bipush 6, []), (.iload_n 3, []), (.imul, []), (.aload_n 1, []), (.iload 4, []), (.iaload, []), (.iadd, []), (.istore_n 3, []), (.iinc 4 1, []), (.goto (-19), [5])]),
  (27, [(.iload_n 3, []), (.ireturn, [])])]
def zc_mo_lays_ : List (Nat × List zIns) := [
  (0, [(.iload_n 1, []), (.istore 4, []), (.iload_n 3, []), (.iconst 1, []), (.isub, []), (.istore 5, [])]),
  (8, [(.iload 5, []), (.ifCond .lt 25, [35]), (.aload_n 2, []), (.iload 5, []), (.iload 4, []), (.bipush 6, []), (.irem, []), (.iastore, []), (.iload 4, []), (.bipush 6, []), (.idiv, []), (.istore 4, []), (.iinc 5 (-1), []), (.goto (-24), [8])]),
  (35, [(.return_, [])])]
def zc_mo_finds : List (Nat × List zIns) := [
  (0, [(.iconst 0, []), (.istore_n 3, [])]),
  (2, [(.iload_n 3, []), (.aload_n 0, []), (.getfield 225, [10, 33, 966, 0]), (.if_icmp .ge 20, [27]), (.aload_n 0, []), (.getfield 86, [10, 34, 967, 2]), (.iload_n 3, []), (.iaload, []), (.iload_n 1, []), (.if_icmp .ne 4, [21]), (.return_, [])]),
  (21, [(.iinc 3 1, []), (.goto (-22), [2])]),
  (27, [(.aload_n 0, []), (.getfield 86, [10, 34, 967, 2]), (.aload_n 0, []), (.getfield 225, [10, 33, 966, 0]), (.iload_n 1, []), (.iastore, []), (.aload_n 0, []), (.getfield 89, [10, 35, 968, 2]), (.aload_n 0, []), (.getfield 225, [10, 33, 966, 0]), (.iload_n 2, []), (.iastore, []), (.aload_n 0, []), (.dup, []), (.getfield 225, [10, 33, 966, 0]), (.iconst 1, []), (.iadd, []), (.putfield 225, [10, 33, 966, 0]), (.return_, [])])]
def zc_mo_turnsAll : List (Nat × List zIns) := [
  (0, [(.aload_n 0, []), (.aload_n 0, []), (.getfield 55, [10, 23, 956, 2]), (.iconst 0, []), (.iload_n 1, []), (.invokevirtual 185, [172, 1143, 0, 4, 1, 10])]),
  (10, [(.istore_n 2, []), (.aload_n 0, []), (.aload_n 0, []), (.getfield 55, [10, 23, 956, 2]), (.iload_n 2, []), (.aload_n 0, []), (.getfield 64, [10, 26, 959, 2]), (.iconst 0, []), (.invokevirtual 181, [175, 1151, 0, 5, 0, 10])]),
  (25, [(.aload_n 0, []), (.iconst 0, []), (.putfield 225, [10, 33, 966, 0]), (.aload_n 0, []), (.aload_n 0, []), (.aload_n 0, []), (.getfield 64, [10, 26, 959, 2]), (.iload_n 2, []), (.invokevirtual 228, [199, 1259, 0, 3, 1, 10])]),
  (40, [(.iconst 0, []), (.invokevirtual 231, [201, 1263, 0, 3, 0, 10])]),
  (44, [(.iconst 0, []), (.istore_n 3, [])]),
  (46, [(.iload_n 3, []), (.aload_n 0, []), (.getfield 225, [10, 33, 966, 0]), (.if_icmp .ge 119, [170]), (.iconst 0, []), (.istore 4, [])]),
  (57, [(.iload 4, []), (.iload_n 2, []), (.if_icmp .ge 104, [164]), (.aload_n 0, []), (.aload_n 0, []), (.getfield 86, [10, 34, 967, 2]), (.iload_n 3, []), (.iaload, []), (.aload_n 0, []), (.getfield 55, [10, 23, 956, 2]), (.iload_n 2, []), (.invokevirtual 234, [200, 1267, 0, 4, 0, 10])]),
  (78, [(.aload_n 0, []), (.aload_n 0, []), (.getfield 55, [10, 23, 956, 2]), (.iload 4, []), (.invokevirtual 173, [173, 1155, 0, 3, 4, 10])]),
  (88, [(.ifCond .ne 6, [94]), (.goto 67, [158])]),
  (94, [(.aload_n 0, []), (.getfield 55, [10, 23, 956, 2]), (.iload 4, []), (.iaload, []), (.istore 5, []), (.aload_n 0, []), (.getfield 55, [10, 23, 956, 2]), (.iload_n 2, []), (.iload 4, []), (.invokestatic 177, [174, 1159, 1, 3, 0, 10])]),
  (113, [(.aload_n 0, []), (.getfield 55, [10, 23, 956, 2]), (.iload_n 2, []), (.iconst 1, []), (.isub, []), (.iload 5, []), (.iastore, []), (.aload_n 0, []), (.aload_n 0, []), (.getfield 55, [10, 23, 956, 2]), (.iload_n 2, []), (.aload_n 0, []), (.getfield 64, [10, 26, 959, 2]), (.iconst 0, []), (.invokevirtual 181, [175, 1151, 0, 5, 0, 10])]),
  (137, [(.aload_n 0, []), (.aload_n 0, []), (.aload_n 0, []), (.getfield 64, [10, 26, 959, 2]), (.iload_n 2, []), (.invokevirtual 228, [199, 1259, 0, 3, 1, 10])]),
  (147, [(.aload_n 0, []), (.getfield 89, [10, 35, 968, 2]), (.iload_n 3, []), (.iaload, []), (.iconst 1, []), (.iadd, []), (.invokevirtual 231, [201, 1263, 0, 3, 0, 10])]),
  (158, [(.iinc 4 1, []), (.goto (-104), [57])]),
  (164, [(.iinc 3 1, []), (.goto (-121), [46])]),
  (170, [(.return_, [])])]
def zc_mo_turned : List (Nat × List zIns) := [
  (0, [(.aload_n 0, []), (.iload_n 1, []), (.invokevirtual 170, [150, 1131, 0, 2, 4, 10])]),
  (5, [(.ifCond .ne 9, [14]), (.aload_n 0, []), (.iconst (-1), []), (.invokevirtual 102, [147, 1046, 0, 2, 1, 10])]),
  (13, [(.ireturn, [])]),
  (14, [(.aload_n 0, []), (.getfield 16, [10, 3, 936, 2]), (.iload_n 1, []), (.iaload, []), (.bipush 7, []), (.if_icmp .le 10, [32]), (.aload_n 0, []), (.bipush (-6), []), (.invokevirtual 102, [147, 1046, 0, 2, 1, 10])]),
  (31, [(.ireturn, [])]),
  (32, [(.aload_n 0, []), (.iload_n 1, []), (.invokevirtual 238, [202, 1255, 0, 2, 0, 10])]),
  (37, [(.aload_n 0, []), (.getfield 225, [10, 33, 966, 0]), (.ireturn, [])])]
def zc_mo_turn : List (Nat × List zIns) := [
  (0, [(.aload_n 0, []), (.iload_n 1, []), (.invokevirtual 170, [150, 1131, 0, 2, 4, 10])]),
  (5, [(.ifCond .ne 9, [14]), (.aload_n 0, []), (.iconst (-1), []), (.invokevirtual 102, [147, 1046, 0, 2, 1, 10])]),
  (13, [(.ireturn, [])]),
  (14, [(.iload_n 2, []), (.ifCond .lt 7, [22]), (.iload_n 3, []), (.ifCond .ge 10, [29])]),
  (22, [(.aload_n 0, []), (.bipush (-4), []), (.invokevirtual 102, [147, 1046, 0, 2, 1, 10])]),
  (28, [(.ireturn, [])]),
  (29, [(.aload_n 0, []), (.getfield 16, [10, 3, 936, 2]), (.iload_n 1, []), (.iaload, []), (.bipush 7, []), (.if_icmp .le 10, [47]), (.aload_n 0, []), (.bipush (-6), []), (.invokevirtual 102, [147, 1046, 0, 2, 1, 10])]),
  (46, [(.ireturn, [])]),
  (47, [(.aload_n 0, []), (.iload_n 1, []), (.invokevirtual 238, [202, 1255, 0, 2, 0, 10])]),
  (52, [(.iload_n 2, []), (.aload_n 0, []), (.getfield 225, [10, 33, 966, 0]), (.if_icmp .ge 13, [70]), (.iload_n 3, []), (.aload_n 0, []), (.getfield 16, [10, 3, 936, 2]), (.iload_n 1, []), (.iaload, []), (.if_icmp .lt 6, [73])]),
  (70, [(.bipush (-9), []), (.ireturn, [])]),
  (73, [(.bipush (-9), []), (.istore 4, []), (.iconst 0, []), (.istore 5, [])]),
  (80, [(.iload 5, []), (.aload_n 0, []), (.getfield 225, [10, 33, 966, 0]), (.if_icmp .ge 79, [165]), (.iload 4, []), (.bipush (-9), []), (.if_icmp .ne 72, [165]), (.iconst 0, []), (.istore 6, []), (.iconst 0, []), (.istore 7, [])]),
  (102, [(.iload 7, []), (.aload_n 0, []), (.getfield 225, [10, 33, 966, 0]), (.if_icmp .ge 36, [144]), (.iload 6, []), (.aload_n 0, []), (.getfield 86, [10, 34, 967, 2]), (.iload 7, []), (.iaload, []), (.aload_n 0, []), (.getfield 86, [10, 34, 967, 2]), (.iload 5, []), (.iaload, []), (.if_icmp .ge 7, [134]), (.iconst 1, []), (.goto 4, [135])]),
  (134, [(.iconst 0, [])]),
  (135, [(.iadd, []), (.istore 6, []), (.iinc 7 1, []), (.goto (-39), [102])]),
  (144, [(.iload 6, []), (.iload_n 2, []), (.if_icmp .ne 8, [155]), (.iload 5, []), (.goto 5, [157])]),
  (155, [(.bipush (-9), [])]),
  (157, [(.istore 4, []), (.iinc 5 1, []), (.goto (-82), [80])]),
  (165, [(.aload_n 0, []), (.aload_n 0, []), (.getfield 86, [10, 34, 967, 2]), (.iload 4, []), (.iaload, []), (.aload_n 0, []), (.getfield 55, [10, 23, 956, 2]), (.aload_n 0, []), (.getfield 16, [10, 3, 936, 2]), (.iload_n 1, []), (.iaload, []), (.invokevirtual 234, [200, 1267, 0, 4, 0, 10])]),
  (186, [(.aload_n 0, []), (.getfield 55, [10, 23, 956, 2]), (.iload_n 3, []), (.iaload, []), (.ireturn, [])])]
def zc_mo_apart : List (Nat × List zIns) := [
  (0, [(.aload_n 0, []), (.iload_n 1, []), (.invokevirtual 170, [150, 1131, 0, 2, 4, 10])]),
  (5, [(.ifCond .eq 11, [16]), (.aload_n 0, []), (.iload_n 2, []), (.invokevirtual 170, [150, 1131, 0, 2, 4, 10])]),
  (13, [(.ifCond .ne 9, [22])]),
  (16, [(.aload_n 0, []), (.iconst (-1), []), (.invokevirtual 102, [147, 1046, 0, 2, 1, 10])]),
  (21, [(.ireturn, [])]),
  (22, [(.aload_n 0, []), (.getfield 16, [10, 3, 936, 2]), (.iload_n 1, []), (.iaload, []), (.bipush 7, []), (.if_icmp .gt 14, [44]), (.aload_n 0, []), (.getfield 16, [10, 3, 936, 2]), (.iload_n 2, []), (.iaload, []), (.bipush 7, []), (.if_icmp .le 10, [51])]),
  (44, [(.aload_n 0, []), (.bipush (-6), []), (.invokevirtual 102, [147, 1046, 0, 2, 1, 10])]),
  (50, [(.ireturn, [])]),
  (51, [(.aload_n 0, []), (.getfield 16, [10, 3, 936, 2]), (.iload_n 1, []), (.iaload, []), (.aload_n 0, []), (.getfield 16, [10, 3, 936, 2]), (.iload_n 2, []), (.iaload, []), (.if_icmp .eq 6, [69]), (.bipush (-9), []), (.ireturn, [])]),
  (69, [(.aload_n 0, []), (.iload_n 1, []), (.invokevirtual 238, [202, 1255, 0, 2, 0, 10])]),
  (74, [(.aload_n 0, []), (.aload_n 0, []), (.getfield 58, [10, 24, 957, 2]), (.iconst 0, []), (.iload_n 2, []), (.invokevirtual 185, [172, 1143, 0, 4, 1, 10])]),
  (84, [(.istore_n 3, []), (.aload_n 0, []), (.aload_n 0, []), (.getfield 58, [10, 24, 957, 2]), (.iload_n 3, []), (.aload_n 0, []), (.getfield 64, [10, 26, 959, 2]), (.iconst 0, []), (.invokevirtual 181, [175, 1151, 0, 5, 0, 10])]),
  (99, [(.aload_n 0, []), (.aload_n 0, []), (.getfield 64, [10, 26, 959, 2]), (.iload_n 3, []), (.invokevirtual 228, [199, 1259, 0, 3, 1, 10])]),
  (108, [(.istore 4, []), (.iconst 0, []), (.istore 5, [])]),
  (113, [(.iload 5, []), (.aload_n 0, []), (.getfield 225, [10, 33, 966, 0]), (.if_icmp .ge 29, [148]), (.aload_n 0, []), (.getfield 86, [10, 34, 967, 2]), (.iload 5, []), (.iaload, []), (.iload 4, []), (.if_icmp .ne 11, [142]), (.aload_n 0, []), (.getfield 89, [10, 35, 968, 2]), (.iload 5, []), (.iaload, []), (.ireturn, [])]),
  (142, [(.iinc 5 1, []), (.goto (-32), [113])]),
  (148, [(.bipush (-9), []), (.ireturn, [])])]
def zc_mo_isFree : List (Nat × List zIns) := [
  (0, [(.iconst 0, []), (.istore_n 2, [])]),
  (2, [(.iload_n 2, []), (.bipush 6, []), (.if_icmp .ge 39, [44]), (.iload_n 1, []), (.iload_n 2, []), (.ishr, []), (.iconst 1, []), (.iand, []), (.iconst 1, []), (.if_icmp .ne 24, [38]), (.iload_n 1, []), (.iconst 1, []), (.iload_n 2, []), (.ishl, []), (.iconst (-1), []), (.ixor, []), (.iand, []), (.aload_n 0, []), (.getfield 9, [10, 0, 933, 2]), (.iload_n 2, []), (.iaload, []), (.iconst (-1), []), (.ixor, []), (.iand, []), (.ifCond .eq 5, [38]), (.iconst 0, []), (.ireturn, [])]),
  (38, [(.iinc 2 1, []), (.goto (-39), [2])]),
  (44, [(.iconst 1, []), (.ireturn, [])])]
def zc_mo_unlike : List (Nat × List zIns) := [
  (0, [(.iload_n 1, []), (.ifCond .lt 8, [9]), (.iload_n 2, []), (.iconst 1, []), (.if_icmp .ge 10, [16])]),
  (9, [(.aload_n 0, []), (.bipush (-4), []), (.invokevirtual 196, [148, 1178, 0, 2, 2, 10])]),
  (15, [(.lreturn, [])]),
  (16, [(.iload_n 1, []), (.bipush 12, []), (.if_icmp .gt 9, [28]), (.iload_n 2, []), (.bipush 6, []), (.if_icmp .le 10, [35])]),
  (28, [(.aload_n 0, []), (.bipush (-6), []), (.invokevirtual 196, [148, 1178, 0, 2, 2, 10])]),
  (34, [(.lreturn, [])]),
  (35, [(.iconst 0, []), (.istore_n 3, [])]),
  (37, [(.iload_n 3, []), (.bipush 6, []), (.if_icmp .ge 16, [56]), (.aload_n 0, []), (.getfield 83, [10, 32, 965, 2]), (.iload_n 3, []), (.iconst 0, []), (.iastore, []), (.iinc 3 1, []), (.goto (-16), [37])]),
  (56, [(.iconst 1, []), (.istore_n 3, [])]),
  (58, [(.iload_n 3, []), (.iconst 1, []), (.iload_n 2, []), (.ishl, []), (.if_icmp .ge 60, [122]), (.aload_n 0, []), (.iload_n 3, []), (.invokevirtual 241, [206, 1283, 0, 2, 4, 10])]),
  (70, [(.ifCond .ne 6, [76]), (.goto 43, [116])]),
  (76, [(.iconst (-1), []), (.istore 4, []), (.iconst 0, []), (.istore 5, [])]),
  (82, [(.iload 5, []), (.iload_n 2, []), (.if_icmp .ge 20, [105]), (.iload 4, []), (.iload_n 3, []), (.iload 5, []), (.ishr, []), (.iconst 1, []), (.iand, []), (.iadd, []), (.istore 4, []), (.iinc 5 1, []), (.goto (-20), [82])]),
  (105, [(.aload_n 0, []), (.getfield 83, [10, 32, 965, 2]), (.iload 4, []), (.dup2, []), (.iaload, []), (.iconst 1, []), (.iadd, []), (.iastore, [])]),
  (116, [(.iinc 3 1, []), (.goto (-61), [58])]),
  (122, [(.aload_n 0, []), (.getfield 76, [10, 30, 963, 2]), (.iconst 0, []), (.lconst 1, []), (.lastore, []), (.iconst 1, []), (.istore_n 3, [])]),
  (131, [(.iload_n 3, []), (.iload_n 1, []), (.if_icmp .gt 88, [221]), (.aload_n 0, []), (.getfield 76, [10, 30, 963, 2]), (.iload_n 3, []), (.lconst 0, []), (.lastore, []), (.iconst 1, []), (.istore 4, [])]),
  (146, [(.iload 4, []), (.iload_n 3, []), (.if_icmp .gt 66, [215]), (.iload 4, []), (.bipush 6, []), (.if_icmp .gt 59, [215]), (.aload_n 0, []), (.getfield 76, [10, 30, 963, 2]), (.iload_n 3, []), (.dup2, []), (.laload, []), (.iload 4, []), (.iconst 2, []), (.irem, []), (.iconst 1, []), (.if_icmp .ne 15, [186]), (.aload_n 0, []), (.getfield 83, [10, 32, 965, 2]), (.iload 4, []), (.iconst 1, []), (.isub, []), (.iaload, []), (.goto 13, [196])]),
  (186, [(.aload_n 0, []), (.getfield 83, [10, 32, 965, 2]), (.iload 4, []), (.iconst 1, []), (.isub, []), (.iaload, []), (.ineg, [])]),
  (196, [(.i2l, []), (.aload_n 0, []), (.getfield 76, [10, 30, 963, 2]), (.iload_n 3, []), (.iload 4, []), (.isub, []), (.laload, []), (.lmul, []), (.ladd, []), (.lastore, []), (.iinc 4 1, []), (.goto (-66), [146])]),
  (215, [(.iinc 3 1, []), (.goto (-87), [131])]),
  (221, [(.aload_n 0, []), (.getfield 76, [10, 30, 963, 2]), (.iload_n 1, []), (.laload, []), (.lreturn, [])])]
def zc_mo_free : List (Nat × List zIns) := [
  (0, [(.iconst 0, []), (.istore_n 1, []), (.iconst 0, []), (.istore_n 2, [])]),
  (4, [(.iload_n 2, []), (.bipush 64, []), (.if_icmp .ge 25, [32]), (.iload_n 1, []), (.aload_n 0, []), (.iload_n 2, []), (.invokevirtual 241, [206, 1283, 0, 2, 4, 10])]),
  (16, [(.ifCond .eq 7, [23]), (.iconst 1, []), (.goto 4, [24])]),
  (23, [(.iconst 0, [])]),
  (24, [(.iadd, []), (.istore_n 1, []), (.iinc 2 1, []), (.goto (-25), [4])]),
  (32, [(.iload_n 1, []), (.ireturn, [])])]
def zc_mo_lots : List (Nat × List zIns) := [
  (0, [(.aload_n 0, []), (.iload_n 1, []), (.invokevirtual 170, [150, 1131, 0, 2, 4, 10])]),
  (5, [(.ifCond .ne 9, [14]), (.aload_n 0, []), (.iconst (-1), []), (.invokevirtual 102, [147, 1046, 0, 2, 1, 10])]),
  (13, [(.ireturn, [])]),
  (14, [(.iload_n 2, []), (.iconst 1, []), (.if_icmp .ge 10, [26]), (.aload_n 0, []), (.bipush (-4), []), (.invokevirtual 102, [147, 1046, 0, 2, 1, 10])]),
  (25, [(.ireturn, [])]),
  (26, [(.iload_n 2, []), (.bipush 60, []), (.if_icmp .le 10, [39]), (.aload_n 0, []), (.bipush (-6), []), (.invokevirtual 102, [147, 1046, 0, 2, 1, 10])]),
  (38, [(.ireturn, [])]),
  (39, [(.iload 4, []), (.iconst 0, []), (.iconst 1, []), (.invokestatic 94, [146, 1060, 1, 3, 4, 10])]),
  (46, [(.ifCond .ne 10, [56]), (.aload_n 0, []), (.bipush (-2), []), (.invokevirtual 102, [147, 1046, 0, 2, 1, 10])]),
  (55, [(.ireturn, [])]),
  (56, [(.aload_n 0, []), (.getfield 16, [10, 3, 936, 2]), (.iload_n 1, []), (.iaload, []), (.iconst 2, []), (.if_icmp .ge 10, [73]), (.aload_n 0, []), (.bipush (-3), []), (.invokevirtual 102, [147, 1046, 0, 2, 1, 10])]),
  (72, [(.ireturn, [])]),
  (73, [(.aload_n 0, []), (.aload_n 0, []), (.getfield 55, [10, 23, 956, 2]), (.iconst 0, []), (.iload_n 1, []), (.invokevirtual 185, [172, 1143, 0, 4, 1, 10])]),
  (83, [(.istore 5, []), (.iload_n 3, []), (.istore 6, []), (.iconst 0, []), (.istore 7, []), (.iconst 0, []), (.istore 8, [])]),
  (94, [(.iload 8, []), (.iload_n 2, []), (.if_icmp .ge 100, [197]), (.iload 6, []), (.ldc 244, [1664525, 1295]), (.imul, []), (.ldc 245, [1013904223, 1296]), (.iadd, []), (.istore 6, []), (.iload 6, []), (.ldc 246, [2147483647, 1297]), (.iand, []), (.sipush 256, []), (.idiv, []), (.iload 5, []), (.iconst 1, []), (.isub, []), (.irem, []), (.istore 9, []), (.aload_n 0, []), (.aload_n 0, []), (.getfield 55, [10, 23, 956, 2]), (.iload 9, []), (.iaload, []), (.aload_n 0, []), (.getfield 55, [10, 23, 956, 2]), (.iload 9, []), (.iconst 1, []), (.iadd, []), (.iaload, []), (.invokevirtual 127, [151, 1071, 0, 3, 4, 10])]),
  (146, [(.ifCond .ne 6, [152]), (.goto 42, [191])]),
  (152, [(.aload_n 0, []), (.getfield 55, [10, 23, 956, 2]), (.iload 9, []), (.iaload, []), (.istore 10, []), (.aload_n 0, []), (.getfield 55, [10, 23, 956, 2]), (.iload 9, []), (.aload_n 0, []), (.getfield 55, [10, 23, 956, 2]), (.iload 9, []), (.iconst 1, []), (.iadd, []), (.iaload, []), (.iastore, []), (.aload_n 0, []), (.getfield 55, [10, 23, 956, 2]), (.iload 9, []), (.iconst 1, []), (.iadd, []), (.iload 10, []), (.iastore, []), (.iinc 7 1, [])]),
  (191, [(.iinc 8 1, []), (.goto (-100), [94])]),
  (197, [(.iload 4, []), (.ifCond .ne 6, [205]), (.iload 7, []), (.ireturn, [])]),
  (205, [(.iconst 0, []), (.istore 8, []), (.iconst 0, []), (.istore 9, [])]),
  (211, [(.iload 9, []), (.iload 5, []), (.if_icmp .ge 41, [256]), (.iload 8, []), (.aload_n 0, []), (.getfield 55, [10, 23, 956, 2]), (.iload 9, []), (.iaload, []), (.aload_n 0, []), (.getfield 19, [10, 4, 937, 2]), (.bipush 14, []), (.iload_n 1, []), (.imul, []), (.iload 9, []), (.iadd, []), (.iaload, []), (.if_icmp .ne 7, [246]), (.iconst 0, []), (.goto 4, [247])]),
  (246, [(.iconst 1, [])]),
  (247, [(.iadd, []), (.istore 8, []), (.iinc 9 1, []), (.goto (-42), [211])]),
  (256, [(.iload 8, []), (.ireturn, [])])]
def zc_mo_isList : List (Nat × List zIns) := [
  (0, [(.iload_n 0, []), (.iconst 0, []), (.iconst 2, []), (.invokestatic 94, [146, 1060, 1, 3, 4, 10])]),
  (6, [(.ireturn, [])])]
def zc_mo_list : List (Nat × List zIns) := [
  (0, [(.iload_n 1, []), (.invokestatic 247, [210, 1302, 1, 1, 4, 10])]),
  (4, [(.ifCond .ne 9, [13]), (.aload_n 0, []), (.iconst (-1), []), (.invokevirtual 102, [147, 1046, 0, 2, 1, 10])]),
  (12, [(.ireturn, [])]),
  (13, [(.iload_n 2, []), (.bipush 40, []), (.if_icmp .le 10, [26]), (.aload_n 0, []), (.bipush (-6), []), (.invokevirtual 102, [147, 1046, 0, 2, 1, 10])]),
  (25, [(.ireturn, [])]),
  (26, [(.iload_n 2, []), (.ifCond .ge 6, [33]), (.bipush (-14), []), (.ireturn, [])]),
  (33, [(.aload_n 0, []), (.getfield 43, [10, 16, 949, 2]), (.iload_n 1, []), (.iload_n 2, []), (.iastore, []), (.iconst 0, []), (.istore_n 3, [])]),
  (42, [(.iload_n 3, []), (.bipush 40, []), (.if_icmp .ge 21, [66]), (.aload_n 0, []), (.getfield 46, [10, 17, 950, 2]), (.bipush 40, []), (.iload_n 1, []), (.imul, []), (.iload_n 3, []), (.iadd, []), (.iconst 0, []), (.iastore, []), (.iinc 3 1, []), (.goto (-21), [42])]),
  (66, [(.iconst 1, []), (.ireturn, [])])]
def zc_mo_put : List (Nat × List zIns) := [
  (0, [(.iload_n 1, []), (.invokestatic 247, [210, 1302, 1, 1, 4, 10])]),
  (4, [(.ifCond .ne 9, [13]), (.aload_n 0, []), (.iconst (-1), []), (.invokevirtual 102, [147, 1046, 0, 2, 1, 10])]),
  (12, [(.ireturn, [])]),
  (13, [(.aload_n 0, []), (.getfield 43, [10, 16, 949, 2]), (.iload_n 1, []), (.iaload, []), (.bipush (-9), []), (.if_icmp .ne 6, [27]), (.bipush (-11), []), (.ireturn, [])]),
  (27, [(.iload_n 2, []), (.iconst 0, []), (.aload_n 0, []), (.getfield 43, [10, 16, 949, 2]), (.iload_n 1, []), (.iaload, []), (.iconst 1, []), (.isub, []), (.invokestatic 94, [146, 1060, 1, 3, 4, 10])]),
  (40, [(.ifCond .ne 6, [46]), (.bipush (-13), []), (.ireturn, [])]),
  (46, [(.aload_n 0, []), (.getfield 46, [10, 17, 950, 2]), (.bipush 40, []), (.iload_n 1, []), (.imul, []), (.iload_n 2, []), (.iadd, []), (.iload_n 3, []), (.iastore, []), (.iconst 1, []), (.ireturn, [])])]
def zc_mo_look : List (Nat × List zIns) := [
  (0, [(.iload_n 1, []), (.invokestatic 247, [210, 1302, 1, 1, 4, 10])]),
  (4, [(.ifCond .ne 9, [13]), (.aload_n 0, []), (.iconst (-1), []), (.invokevirtual 196, [148, 1178, 0, 2, 2, 10])]),
  (12, [(.lreturn, [])]),
  (13, [(.aload_n 0, []), (.getfield 43, [10, 16, 949, 2]), (.iload_n 1, []), (.iaload, []), (.bipush (-9), []), (.if_icmp .ne 7, [28]), (.ldc2_w 250, [4000000000000000011, 1313]), (.lreturn, [])]),
  (28, [(.iload_n 2, []), (.iconst 0, []), (.aload_n 0, []), (.getfield 43, [10, 16, 949, 2]), (.iload_n 1, []), (.iaload, []), (.iconst 1, []), (.isub, []), (.invokestatic 94, [146, 1060, 1, 3, 4, 10])]),
  (41, [(.ifCond .ne 7, [48]), (.ldc2_w 252, [4000000000000000013, 1314]), (.lreturn, [])]),
  (48, [(.aload_n 0, []), (.getfield 46, [10, 17, 950, 2]), (.bipush 40, []), (.iload_n 1, []), (.imul, []), (.iload_n 2, []), (.iadd, []), (.iaload, []), (.i2l, []), (.lreturn, [])])]
def zc_mo_areThere : List (Nat × List zIns) := [
  (0, [(.iload_n 3, []), (.ifCond .eq 23, [24]), (.iload_n 2, []), (.ifCond .lt 23, [28]), (.iload_n 2, []), (.i2l, []), (.iload_n 3, []), (.i2l, []), (.ladd, []), (.aload_n 0, []), (.getfield 43, [10, 16, 949, 2]), (.iload_n 1, []), (.iaload, []), (.i2l, []), (.lcmp, []), (.ifCond .gt 7, [28])]),
  (24, [(.iconst 1, []), (.goto 4, [29])]),
  (28, [(.iconst 0, [])]),
  (29, [(.ireturn, [])])]
def zc_mo_from : List (Nat × List zIns) := [
  (0, [(.iload_n 1, []), (.invokestatic 247, [210, 1302, 1, 1, 4, 10])]),
  (4, [(.ifCond .ne 9, [13]), (.aload_n 0, []), (.iconst (-1), []), (.invokevirtual 102, [147, 1046, 0, 2, 1, 10])]),
  (12, [(.ireturn, [])]),
  (13, [(.iload_n 3, []), (.ifCond .ge 10, [24]), (.aload_n 0, []), (.bipush (-4), []), (.invokevirtual 102, [147, 1046, 0, 2, 1, 10])]),
  (23, [(.ireturn, [])]),
  (24, [(.iload_n 3, []), (.bipush 14, []), (.if_icmp .gt 11, [38]), (.aload_n 0, []), (.getfield 98, [10, 2, 935, 0]), (.iconst 5, []), (.if_icmp .ne 10, [45])]),
  (38, [(.aload_n 0, []), (.bipush (-6), []), (.invokevirtual 102, [147, 1046, 0, 2, 1, 10])]),
  (44, [(.ireturn, [])]),
  (45, [(.aload_n 0, []), (.getfield 43, [10, 16, 949, 2]), (.iload_n 1, []), (.iaload, []), (.bipush (-9), []), (.if_icmp .ne 6, [59]), (.bipush (-11), []), (.ireturn, [])]),
  (59, [(.aload_n 0, []), (.iload_n 1, []), (.iload_n 2, []), (.iload_n 3, []), (.invokevirtual 254, [214, 1319, 0, 4, 4, 10])]),
  (66, [(.ifCond .ne 6, [72]), (.bipush (-13), []), (.ireturn, [])]),
  (72, [(.iconst 0, []), (.istore 4, [])]),
  (75, [(.iload 4, []), (.iload_n 3, []), (.if_icmp .ge 50, [128]), (.aload_n 0, []), (.getfield 55, [10, 23, 956, 2]), (.iload 4, []), (.aload_n 0, []), (.getfield 46, [10, 17, 950, 2]), (.bipush 40, []), (.iload_n 1, []), (.imul, []), (.iload_n 2, []), (.iadd, []), (.iload 4, []), (.iadd, []), (.iaload, []), (.iastore, []), (.aload_n 0, []), (.getfield 55, [10, 23, 956, 2]), (.iload 4, []), (.iaload, []), (.invokestatic 112, [149, 1057, 1, 1, 4, 10])]),
  (112, [(.ifCond .ne 10, [122]), (.aload_n 0, []), (.bipush (-3), []), (.invokevirtual 102, [147, 1046, 0, 2, 1, 10])]),
  (121, [(.ireturn, [])]),
  (122, [(.iinc 4 1, []), (.goto (-50), [75])]),
  (128, [(.aload_n 0, []), (.aload_n 0, []), (.getfield 55, [10, 23, 956, 2]), (.iload_n 3, []), (.invokevirtual 166, [168, 1123, 0, 3, 1, 10])]),
  (137, [(.ireturn, [])])]
def zc_mo_lays : List (Nat × List zIns) := [
  (0, [(.iload_n 1, []), (.invokestatic 247, [210, 1302, 1, 1, 4, 10])]),
  (4, [(.ifCond .eq 11, [15]), (.aload_n 0, []), (.iload_n 3, []), (.invokevirtual 170, [150, 1131, 0, 2, 4, 10])]),
  (12, [(.ifCond .ne 9, [21])]),
  (15, [(.aload_n 0, []), (.iconst (-1), []), (.invokevirtual 102, [147, 1046, 0, 2, 1, 10])]),
  (20, [(.ireturn, [])]),
  (21, [(.aload_n 0, []), (.getfield 43, [10, 16, 949, 2]), (.iload_n 1, []), (.iaload, []), (.bipush (-9), []), (.if_icmp .ne 6, [35]), (.bipush (-11), []), (.ireturn, [])]),
  (35, [(.aload_n 0, []), (.iload_n 1, []), (.iload_n 2, []), (.aload_n 0, []), (.getfield 16, [10, 3, 936, 2]), (.iload_n 3, []), (.iaload, []), (.invokevirtual 254, [214, 1319, 0, 4, 4, 10])]),
  (47, [(.ifCond .ne 6, [53]), (.bipush (-13), []), (.ireturn, [])]),
  (53, [(.aload_n 0, []), (.aload_n 0, []), (.getfield 55, [10, 23, 956, 2]), (.iconst 0, []), (.iload_n 3, []), (.invokevirtual 185, [172, 1143, 0, 4, 1, 10])]),
  (63, [(.istore 4, []), (.aload_n 0, []), (.aload_n 0, []), (.getfield 55, [10, 23, 956, 2]), (.iload 4, []), (.aload_n 0, []), (.getfield 64, [10, 26, 959, 2]), (.iconst 0, []), (.invokevirtual 181, [175, 1151, 0, 5, 0, 10])]),
  (80, [(.iconst 0, []), (.istore 5, [])]),
  (83, [(.iload 5, []), (.iload 4, []), (.if_icmp .ge 30, [117]), (.aload_n 0, []), (.getfield 46, [10, 17, 950, 2]), (.bipush 40, []), (.iload_n 1, []), (.imul, []), (.iload_n 2, []), (.iadd, []), (.iload 5, []), (.iadd, []), (.aload_n 0, []), (.getfield 64, [10, 26, 959, 2]), (.iload 5, []), (.iaload, []), (.iastore, []), (.iinc 5 1, []), (.goto (-31), [83])]),
  (117, [(.iload 4, []), (.ireturn, [])])]
def zc_mo_judge : List (Nat × List zIns) := [
  (0, [(.iload_n 1, []), (.invokestatic 247, [210, 1302, 1, 1, 4, 10])]),
  (4, [(.ifCond .eq 11, [15]), (.aload_n 0, []), (.iload_n 2, []), (.invokevirtual 170, [150, 1131, 0, 2, 4, 10])]),
  (12, [(.ifCond .ne 9, [21])]),
  (15, [(.aload_n 0, []), (.iconst (-1), []), (.invokevirtual 102, [147, 1046, 0, 2, 1, 10])]),
  (20, [(.ireturn, [])]),
  (21, [(.aload_n 0, []), (.getfield 43, [10, 16, 949, 2]), (.iload_n 1, []), (.iaload, []), (.bipush (-9), []), (.if_icmp .ne 6, [35]), (.bipush (-11), []), (.ireturn, [])]),
  (35, [(.iconst 0, []), (.istore_n 3, [])]),
  (37, [(.iload_n 3, []), (.aload_n 0, []), (.getfield 43, [10, 16, 949, 2]), (.iload_n 1, []), (.iaload, []), (.if_icmp .ge 46, [90]), (.iload_n 3, []), (.aload_n 0, []), (.getfield 16, [10, 3, 936, 2]), (.iload_n 2, []), (.iaload, []), (.if_icmp .ge 28, [82]), (.aload_n 0, []), (.getfield 46, [10, 17, 950, 2]), (.bipush 40, []), (.iload_n 1, []), (.imul, []), (.iload_n 3, []), (.iadd, []), (.iaload, []), (.aload_n 0, []), (.getfield 19, [10, 4, 937, 2]), (.bipush 14, []), (.iload_n 2, []), (.imul, []), (.iload_n 3, []), (.iadd, []), (.iaload, []), (.if_icmp .eq 5, [84])]),
  (82, [(.iload_n 3, []), (.ireturn, [])]),
  (84, [(.iinc 3 1, []), (.goto (-50), [37])]),
  (90, [(.bipush (-9), []), (.ireturn, [])])]
def zc_mo_undo : List (Nat × List zIns) := [
  (0, [(.aload_n 0, []), (.getfield 109, [10, 8, 941, 0]), (.ifCond .ne 10, [14]), (.aload_n 0, []), (.bipush (-3), []), (.invokevirtual 102, [147, 1046, 0, 2, 1, 10])]),
  (13, [(.ireturn, [])]),
  (14, [(.aload_n 0, []), (.dup, []), (.getfield 109, [10, 8, 941, 0]), (.iconst 1, []), (.isub, []), (.putfield 109, [10, 8, 941, 0]), (.iconst 0, []), (.istore_n 1, [])]),
  (26, [(.iload_n 1, []), (.bipush 6, []), (.if_icmp .ge 52, [81]), (.aload_n 0, []), (.getfield 9, [10, 0, 933, 2]), (.iload_n 1, []), (.aload_n 0, []), (.getfield 28, [10, 9, 942, 2]), (.bipush 12, []), (.aload_n 0, []), (.getfield 109, [10, 8, 941, 0]), (.imul, []), (.iload_n 1, []), (.iadd, []), (.iaload, []), (.iastore, []), (.aload_n 0, []), (.getfield 13, [10, 1, 934, 2]), (.iload_n 1, []), (.aload_n 0, []), (.getfield 28, [10, 9, 942, 2]), (.bipush 12, []), (.aload_n 0, []), (.getfield 109, [10, 8, 941, 0]), (.imul, []), (.bipush 6, []), (.iadd, []), (.iload_n 1, []), (.iadd, []), (.iaload, []), (.iastore, []), (.iinc 1 1, []), (.goto (-52), [26])]),
  (81, [(.aload_n 0, []), (.getfield 109, [10, 8, 941, 0]), (.ireturn, [])])]
def zc_mo_copies_ : List (Nat × List zIns) := [
  (0, [(.iconst 0, []), (.istore_n 2, [])]),
  (2, [(.iload_n 2, []), (.aload_n 1, []), (.arraylength, []), (.if_icmp .ge 15, [20]), (.aload_n 1, []), (.iload_n 2, []), (.aload_n 0, []), (.iload_n 2, []), (.iaload, []), (.iastore, []), (.iinc 2 1, []), (.goto (-15), [2])]),
  (20, [(.return_, [])])]
def zc_mo_image : List (Nat × List zIns) := [
  (0, [(.aload_n 0, []), (.getfield 9, [10, 0, 933, 2]), (.aload_n 0, []), (.getfield 31, [10, 12, 945, 2]), (.invokestatic 257, [219, 1339, 1, 2, 0, 10])]),
  (11, [(.aload_n 0, []), (.getfield 13, [10, 1, 934, 2]), (.aload_n 0, []), (.getfield 34, [10, 13, 946, 2]), (.invokestatic 257, [219, 1339, 1, 2, 0, 10])]),
  (22, [(.aload_n 0, []), (.getfield 16, [10, 3, 936, 2]), (.aload_n 0, []), (.getfield 37, [10, 14, 947, 2]), (.invokestatic 257, [219, 1339, 1, 2, 0, 10])]),
  (33, [(.aload_n 0, []), (.getfield 19, [10, 4, 937, 2]), (.aload_n 0, []), (.getfield 40, [10, 15, 948, 2]), (.invokestatic 257, [219, 1339, 1, 2, 0, 10])]),
  (44, [(.aload_n 0, []), (.aload_n 0, []), (.getfield 98, [10, 2, 935, 0]), (.putfield 261, [10, 11, 944, 0]), (.aload_n 0, []), (.iconst 1, []), (.putfield 264, [10, 10, 943, 1]), (.aload_n 0, []), (.getfield 98, [10, 2, 935, 0]), (.ireturn, [])])]
def zc_mo_on : List (Nat × List zIns) := [
  (0, [(.aload_n 0, []), (.getfield 264, [10, 10, 943, 1]), (.ifCond .ne 10, [14]), (.aload_n 0, []), (.bipush (-3), []), (.invokevirtual 102, [147, 1046, 0, 2, 1, 10])]),
  (13, [(.ireturn, [])]),
  (14, [(.aload_n 0, []), (.getfield 31, [10, 12, 945, 2]), (.aload_n 0, []), (.getfield 9, [10, 0, 933, 2]), (.invokestatic 257, [219, 1339, 1, 2, 0, 10])]),
  (25, [(.aload_n 0, []), (.getfield 34, [10, 13, 946, 2]), (.aload_n 0, []), (.getfield 13, [10, 1, 934, 2]), (.invokestatic 257, [219, 1339, 1, 2, 0, 10])]),
  (36, [(.aload_n 0, []), (.getfield 37, [10, 14, 947, 2]), (.aload_n 0, []), (.getfield 16, [10, 3, 936, 2]), (.invokestatic 257, [219, 1339, 1, 2, 0, 10])]),
  (47, [(.aload_n 0, []), (.getfield 40, [10, 15, 948, 2]), (.aload_n 0, []), (.getfield 19, [10, 4, 937, 2]), (.invokestatic 257, [219, 1339, 1, 2, 0, 10])]),
  (58, [(.aload_n 0, []), (.aload_n 0, []), (.getfield 261, [10, 11, 944, 0]), (.putfield 98, [10, 2, 935, 0]), (.aload_n 0, []), (.iconst 0, []), (.putfield 109, [10, 8, 941, 0]), (.aload_n 0, []), (.getfield 98, [10, 2, 935, 0]), (.ireturn, [])])]
def zc_mo_count : List (Nat × List zIns) := [
  (0, [(.iconst 0, []), (.istore_n 2, []), (.iload_n 1, []), (.tableswitch 120 0 4 #[33, 38, 43, 70, 115], [])]),
  (36, [(.aload_n 0, []), (.getfield 98, [10, 2, 935, 0]), (.ireturn, [])]),
  (41, [(.aload_n 0, []), (.getfield 106, [10, 7, 940, 0]), (.ireturn, [])]),
  (46, [(.iconst 0, []), (.istore_n 3, [])]),
  (48, [(.iload_n 3, []), (.aload_n 0, []), (.getfield 98, [10, 2, 935, 0]), (.if_icmp .ge 18, [71]), (.iload_n 2, []), (.aload_n 0, []), (.getfield 16, [10, 3, 936, 2]), (.iload_n 3, []), (.iaload, []), (.iadd, []), (.istore_n 2, []), (.iinc 3 1, []), (.goto (-20), [48])]),
  (71, [(.iload_n 2, []), (.ireturn, [])]),
  (73, [(.iconst 0, []), (.istore_n 3, [])]),
  (75, [(.iload_n 3, []), (.bipush 6, []), (.if_icmp .ge 38, [116]), (.iconst 0, []), (.istore 4, [])]),
  (84, [(.iload 4, []), (.iload_n 3, []), (.if_icmp .ge 23, [110]), (.iload_n 2, []), (.aload_n 0, []), (.getfield 9, [10, 0, 933, 2]), (.iload_n 3, []), (.iaload, []), (.iload 4, []), (.ishr, []), (.iconst 1, []), (.iand, []), (.iadd, []), (.istore_n 2, []), (.iinc 4 1, []), (.goto (-23), [84])]),
  (110, [(.iinc 3 1, []), (.goto (-38), [75])]),
  (116, [(.iload_n 2, []), (.ireturn, [])]),
  (118, [(.aload_n 0, []), (.getfield 109, [10, 8, 941, 0]), (.ireturn, [])]),
  (123, [(.iload_n 1, []), (.bipush 11, []), (.bipush 16, []), (.invokestatic 94, [146, 1060, 1, 3, 4, 10])]),
  (131, [(.ifCond .eq 15, [146]), (.aload_n 0, []), (.getfield 22, [10, 5, 938, 2]), (.iload_n 1, []), (.bipush 10, []), (.isub, []), (.iaload, []), (.goto 5, [148])]),
  (146, [(.bipush (-9), [])]),
  (148, [(.ireturn, [])])]
def zc_jd_numberOfTrailingZeros : List (Nat × List zIns) := [
  (0, [(.iload_n 0, []), (.iconst (-1), []), (.ixor, []), (.iload_n 0, []), (.iconst 1, []), (.isub, []), (.iand, []), (.istore_n 0, []), (.iload_n 0, []), (.ifCond .gt 8, [17]), (.iload_n 0, []), (.bipush 32, []), (.iand, []), (.ireturn, [])]),
  (17, [(.iconst 1, []), (.istore_n 1, []), (.iload_n 0, []), (.ldc_w 264, [65536, 602]), (.if_icmp .le 11, [34]), (.iinc 1 16, []), (.iload_n 0, []), (.bipush 16, []), (.iushr, []), (.istore_n 0, [])]),
  (34, [(.iload_n 0, []), (.sipush 256, []), (.if_icmp .le 11, [49]), (.iinc 1 8, []), (.iload_n 0, []), (.bipush 8, []), (.iushr, []), (.istore_n 0, [])]),
  (49, [(.iload_n 0, []), (.bipush 16, []), (.if_icmp .le 10, [62]), (.iinc 1 4, []), (.iload_n 0, []), (.iconst 4, []), (.iushr, []), (.istore_n 0, [])]),
  (62, [(.iload_n 0, []), (.iconst 4, []), (.if_icmp .le 10, [74]), (.iinc 1 2, []), (.iload_n 0, []), (.iconst 2, []), (.iushr, []), (.istore_n 0, [])]),
  (74, [(.iload_n 1, []), (.iload_n 0, []), (.iconst 1, []), (.iushr, []), (.iadd, []), (.ireturn, [])])]
def zc_jd_bitCount : List (Nat × List zIns) := [
  (0, [(.iload_n 0, []), (.iload_n 0, []), (.iconst 1, []), (.iushr, []), (.ldc_w 265, [1431655765, 592]), (.iand, []), (.isub, []), (.istore_n 0, []), (.iload_n 0, []), (.ldc_w 266, [858993459, 593]), (.iand, []), (.iload_n 0, []), (.iconst 2, []), (.iushr, []), (.ldc_w 266, [858993459, 593]), (.iand, []), (.iadd, []), (.istore_n 0, []), (.iload_n 0, []), (.iload_n 0, []), (.iconst 4, []), (.iushr, []), (.iadd, []), (.ldc_w 267, [252645135, 594]), (.iand, []), (.istore_n 0, []), (.iload_n 0, []), (.iload_n 0, []), (.bipush 8, []), (.iushr, []), (.iadd, []), (.istore_n 0, []), (.iload_n 0, []), (.iload_n 0, []), (.bipush 16, []), (.iushr, []), (.iadd, []), (.istore_n 0, []), (.iload_n 0, []), (.bipush 63, []), (.iand, []), (.ireturn, [])])]
def zcd : List (List (Nat × List zIns)) := [zc_be_init, zc_be_arrange, zc_be_turnToBeTaken, zc_be_sameKind, zc_be_layBlocks, zc_be_takeBeginning, zc_be_takeCommon, zc_be_takeRoot, zc_be_isPower, zc_be_takeShare, zc_hi_init, zc_hi_size, zc_hi_clear, zc_hi_remember, zc_hi_takeBack, zc_la_init, zc_la_passedBy, zc_la_rankOf, zc_la_letPass, zc_la_flip, zc_la_swapRanks, zc_la_copy, zc_la_same, zc_la_howManyPairs, zc_la_readyLetters, zc_la_howManyLow, zc_la_howManyTied, zc_la_partOf, zc_la_howManyParts, zc_la_isFree, zc_la_howManyFree, zc_la_drawLots, zc_nu_init, zc_nu_lacks, zc_nu_row, zc_nu_begin, zc_pa_init, zc_pa_told, zc_pa_readWord, zc_pa_takeSign, zc_pa_takeOpening, zc_pa_takeClosing, zc_pa_takeTimes, zc_pa_readRules, zc_pa_change, zc_pa_isLetter, zc_ro_init, zc_ro_size, zc_ro_get, zc_ro_set, zc_ro_has, zc_ro_clear, zc_ro_shorten, zc_ro_add, zc_ro_insert, zc_ro_addTimes, zc_ro_append, zc_ro_appendPiece, zc_ro_appendTimes, zc_ro_appendOnly, zc_ro_copy, zc_ro_overwrite, zc_ro_swapWithNext, zc_ro_removeFirst, zc_ro_placeOfTime, zc_ro_timesOf, zc_ro_letters, zc_ro_isWord, zc_ro_same, zc_ro_firstOther, zc_ro_howManyOther, zc_sh_init, zc_sh_size, zc_sh_isFull, zc_sh_row, zc_sh_place, zc_sh_removeLast, zc_sh_copy, zc_sh_allLetters, zc_ta_init, zc_ta_countAlike, zc_ta_prepare, zc_ta_goOn, zc_ta_countUnlike, zc_tu_init, zc_tu_found, zc_tu_explore, zc_tu_moveAll, zc_tu_note, zc_tu_find, zc_tu_sortCodes, zc_tu_letterOf, zc_tu_movesTo, zc_tu_codeOf, zc_tu_decode, zc_lt_init, zc_lt_letter, zc_lt_passes, zc_lt_ranks, zc_lt_of, zc_lt_rules, zc_lt_word, zc_lt_at, zc_lt_drop, zc_lt_alike, zc_lt_blocks, zc_lt_least, zc_lt_copies, zc_lt_seen, zc_lt_spread, zc_lt_odds, zc_lt_begins, zc_lt_common, zc_lt_product, zc_lt_power, zc_lt_changes, zc_lt_root, zc_lt_parts, zc_lt_turned, zc_lt_turn, zc_lt_apart, zc_lt_unlike, zc_lt_free, zc_lt_lots, zc_lt_list, zc_lt_put, zc_lt_look, zc_lt_from, zc_lt_lays, zc_lt_judge, zc_lt_undo, zc_lt_image, zc_lt_on, zc_lt_count, zc_lt_refuse, zc_lt_refuseFar, zc_lt_noWord, zc_lt_tooLongToTurn, zc_lt_noLetter, zc_lt_notTwoLetters, zc_lt_noList, zc_lt_noSuch, zc_lt_answer, zc_lt_sizeOrCell, zc_lt_commonDivisor, zc_mo_init, zc_mo_isIn, zc_mo_no, zc_mo_noLong, zc_mo_isLetter, zc_mo_isWord, zc_mo_passes_, zc_mo_letter, zc_mo_remembers, zc_mo_turns, zc_mo_swaps, zc_mo_areTwo, zc_mo_passes, zc_mo_ranks, zc_mo_of, zc_mo_here, zc_mo_fails, zc_mo_isSign, zc_mo_rule, zc_mo_rules, zc_mo_makes, zc_mo_times, zc_mo_reads, zc_mo_comes, zc_mo_word, zc_mo_at, zc_mo_drop, zc_mo_loads, zc_mo_isReady, zc_mo_goes, zc_mo_takes, zc_mo_areAlike, zc_mo_alike, zc_mo_block, zc_mo_blocks, zc_mo_least, zc_mo_orders, zc_mo_copies, zc_mo_seen, zc_mo_spread, zc_mo_common_, zc_mo_odds, zc_mo_placeOf, zc_mo_begins, zc_mo_common, zc_mo_product, zc_mo_power, zc_mo_changes, zc_mo_rootBy, zc_mo_isRoot, zc_mo_root, zc_mo_stands, zc_mo_partOf, zc_mo_parts, zc_mo_numberOf, zc_mo_lays_, zc_mo_finds, zc_mo_turnsAll, zc_mo_turned, zc_mo_turn, zc_mo_apart, zc_mo_isFree, zc_mo_unlike, zc_mo_free, zc_mo_lots, zc_mo_isList, zc_mo_list, zc_mo_put, zc_mo_look, zc_mo_areThere, zc_mo_from, zc_mo_lays, zc_mo_judge, zc_mo_undo, zc_mo_copies_, zc_mo_image, zc_mo_on, zc_mo_count, zc_jd_numberOfTrailingZeros, zc_jd_bitCount]
/-- kind of the answer, values taken from the stack; places of the words: code, instance or static, selects, initialized; the class; static -/
def zmt : List (List Nat) := [
  [0, 2, 183, 182, 0, 58, 0, 0],
  [0, 4, 517, 515, 516, 58, 0, 0],
  [1, 4, 524, 523, 6, 58, 0, 0],
  [4, 3, 512, 510, 511, 58, 0, 0],
  [0, 3, 547, 545, 546, 58, 0, 0],
  [4, 4, 641, 639, 640, 58, 0, 0],
  [0, 4, 649, 647, 648, 58, 0, 0],
  [1, 3, 681, 679, 680, 58, 0, 0],
  [4, 4, 685, 684, 10, 58, 0, 0],
  [0, 3, 692, 691, 0, 58, 0, 1],
  [0, 1, 122, 121, 0, 55, 1, 0],
  [1, 1, 892, 890, 891, 55, 1, 0],
  [0, 1, 912, 910, 911, 55, 1, 0],
  [0, 2, 348, 346, 347, 55, 1, 0],
  [0, 2, 896, 894, 895, 55, 1, 0],
  [0, 1, 75, 74, 0, 51, 2, 0],
  [1, 2, 368, 366, 367, 51, 2, 0],
  [1, 2, 384, 382, 383, 51, 2, 0],
  [4, 3, 364, 362, 363, 51, 2, 0],
  [0, 3, 359, 357, 358, 51, 2, 0],
  [0, 3, 380, 378, 379, 51, 2, 0],
  [0, 2, 352, 350, 351, 51, 2, 0],
  [4, 2, 732, 730, 731, 51, 2, 0],
  [1, 1, 925, 923, 924, 51, 2, 0],
  [1, 2, 551, 549, 550, 51, 2, 0],
  [1, 2, 630, 628, 629, 51, 2, 0],
  [1, 4, 620, 618, 619, 51, 2, 0],
  [1, 3, 709, 707, 708, 51, 2, 0],
  [1, 2, 705, 703, 704, 51, 2, 0],
  [4, 2, 791, 789, 790, 51, 2, 0],
  [1, 1, 799, 797, 798, 51, 2, 0],
  [1, 4, 808, 806, 807, 51, 2, 0],
  [0, 1, 164, 163, 0, 57, 3, 0],
  [4, 2, 849, 847, 848, 57, 3, 0],
  [3, 2, 853, 851, 852, 57, 3, 0],
  [0, 3, 835, 833, 834, 57, 3, 0],
  [0, 1, 143, 142, 0, 56, 4, 0],
  [3, 1, 461, 459, 460, 56, 4, 0],
  [1, 2, 426, 424, 425, 56, 4, 0],
  [4, 2, 431, 430, 1, 56, 4, 0],
  [4, 1, 453, 452, 3, 56, 4, 0],
  [4, 1, 457, 456, 4, 56, 4, 0],
  [4, 2, 436, 435, 2, 56, 4, 0],
  [1, 3, 401, 399, 400, 56, 4, 0],
  [0, 4, 412, 411, 0, 56, 4, 1],
  [4, 1, 409, 408, 0, 56, 4, 1],
  [0, 2, 96, 95, 0, 53, 5, 0],
  [1, 1, 330, 328, 329, 53, 5, 0],
  [1, 2, 406, 404, 405, 53, 5, 0],
  [0, 3, 820, 818, 819, 53, 5, 0],
  [4, 3, 448, 446, 447, 53, 5, 0],
  [0, 1, 418, 416, 417, 53, 5, 0],
  [0, 2, 440, 438, 439, 53, 5, 0],
  [0, 2, 334, 332, 333, 53, 5, 0],
  [0, 3, 530, 528, 529, 53, 5, 0],
  [0, 3, 841, 839, 840, 53, 5, 0],
  [0, 2, 659, 657, 658, 53, 5, 0],
  [0, 4, 444, 442, 443, 53, 5, 0],
  [0, 3, 668, 666, 667, 53, 5, 0],
  [0, 3, 610, 608, 609, 53, 5, 0],
  [0, 2, 474, 472, 473, 53, 5, 0],
  [0, 3, 879, 877, 878, 53, 5, 0],
  [0, 2, 816, 814, 815, 53, 5, 0],
  [0, 2, 557, 555, 556, 53, 5, 0],
  [1, 3, 561, 559, 560, 53, 5, 0],
  [1, 2, 689, 687, 688, 53, 5, 0],
  [1, 1, 701, 699, 700, 53, 5, 0],
  [4, 1, 870, 868, 869, 53, 5, 0],
  [4, 2, 534, 532, 533, 53, 5, 0],
  [1, 2, 538, 536, 537, 53, 5, 0],
  [1, 2, 824, 822, 823, 53, 5, 0],
  [0, 1, 89, 88, 0, 52, 6, 0],
  [1, 1, 488, 486, 487, 52, 6, 0],
  [4, 1, 465, 463, 464, 52, 6, 0],
  [3, 2, 492, 490, 491, 52, 6, 0],
  [1, 2, 469, 467, 468, 52, 6, 0],
  [0, 1, 504, 502, 503, 52, 6, 0],
  [0, 2, 904, 902, 903, 52, 6, 0],
  [1, 1, 920, 918, 919, 52, 6, 0],
  [0, 1, 204, 203, 0, 59, 7, 0],
  [2, 3, 580, 578, 579, 59, 7, 0],
  [1, 3, 585, 584, 8, 59, 7, 0],
  [0, 3, 598, 597, 9, 59, 7, 0],
  [2, 4, 786, 784, 785, 59, 7, 0],
  [0, 3, 233, 232, 0, 60, 8, 0],
  [1, 1, 762, 760, 761, 60, 8, 0],
  [0, 2, 722, 720, 721, 60, 8, 0],
  [0, 2, 745, 744, 14, 60, 8, 0],
  [0, 3, 737, 736, 12, 60, 8, 0],
  [1, 2, 741, 740, 13, 60, 8, 0],
  [0, 1, 758, 757, 16, 60, 8, 0],
  [1, 3, 770, 768, 769, 60, 8, 0],
  [1, 2, 778, 776, 777, 60, 8, 0],
  [1, 1, 726, 725, 0, 60, 8, 1],
  [0, 2, 749, 748, 15, 60, 8, 0],
  [0, 1, 67, 66, 0, 50, 9, 0],
  [1, 2, 322, 320, 321, 50, 9, 0],
  [1, 3, 338, 336, 337, 50, 9, 0],
  [1, 3, 376, 374, 375, 50, 9, 0],
  [1, 3, 388, 386, 387, 50, 9, 0],
  [1, 1, 396, 394, 395, 50, 9, 0],
  [1, 1, 422, 420, 421, 50, 9, 0],
  [1, 3, 480, 478, 479, 50, 9, 0],
  [1, 1, 500, 498, 499, 50, 9, 0],
  [1, 3, 508, 506, 507, 50, 9, 0],
  [1, 3, 543, 541, 542, 50, 9, 0],
  [1, 4, 566, 564, 565, 50, 9, 0],
  [2, 2, 571, 569, 570, 50, 9, 0],
  [1, 5, 606, 604, 605, 50, 9, 0],
  [1, 5, 615, 613, 614, 50, 9, 0],
  [2, 3, 624, 622, 623, 50, 9, 0],
  [1, 4, 637, 635, 636, 50, 9, 0],
  [1, 4, 645, 643, 644, 50, 9, 0],
  [1, 3, 654, 652, 653, 50, 9, 0],
  [1, 3, 663, 661, 662, 50, 9, 0],
  [1, 3, 673, 671, 672, 50, 9, 0],
  [1, 3, 677, 675, 676, 50, 9, 0],
  [1, 3, 697, 695, 696, 50, 9, 0],
  [1, 2, 714, 712, 713, 50, 9, 0],
  [1, 4, 766, 764, 765, 50, 9, 0],
  [1, 3, 774, 772, 773, 50, 9, 0],
  [2, 3, 782, 780, 781, 50, 9, 0],
  [1, 1, 795, 793, 794, 50, 9, 0],
  [1, 5, 804, 802, 803, 50, 9, 0],
  [1, 3, 828, 826, 827, 50, 9, 0],
  [1, 4, 845, 843, 844, 50, 9, 0],
  [2, 3, 859, 857, 858, 50, 9, 0],
  [1, 4, 865, 863, 864, 50, 9, 0],
  [1, 4, 875, 873, 874, 50, 9, 0],
  [1, 3, 883, 881, 882, 50, 9, 0],
  [1, 1, 888, 886, 887, 50, 9, 0],
  [1, 1, 900, 898, 899, 50, 9, 0],
  [1, 1, 908, 906, 907, 50, 9, 0],
  [1, 2, 916, 914, 915, 50, 9, 0],
  [1, 2, 326, 325, 0, 50, 9, 0],
  [2, 2, 575, 574, 7, 50, 9, 0],
  [4, 2, 484, 483, 5, 50, 9, 0],
  [4, 2, 718, 717, 11, 50, 9, 0],
  [4, 1, 344, 343, 0, 50, 9, 1],
  [4, 2, 341, 340, 0, 50, 9, 1],
  [4, 1, 831, 830, 0, 50, 9, 1],
  [4, 1, 391, 390, 0, 50, 9, 1],
  [1, 1, 372, 371, 0, 50, 9, 1],
  [1, 2, 495, 494, 0, 50, 9, 1],
  [1, 2, 633, 632, 0, 50, 9, 1],
  [0, 1, 931, 930, 0, 61, 10, 0],
  [4, 3, 1062, 1061, 0, 61, 10, 1],
  [1, 2, 1049, 1048, 17, 61, 10, 0],
  [2, 2, 1181, 1180, 36, 61, 10, 0],
  [4, 1, 1059, 1058, 0, 61, 10, 1],
  [4, 2, 1134, 1133, 30, 61, 10, 0],
  [4, 3, 1074, 1073, 20, 61, 10, 0],
  [1, 2, 1045, 1043, 1044, 61, 10, 0],
  [0, 1, 1066, 1065, 18, 61, 10, 0],
  [0, 3, 1070, 1069, 19, 61, 10, 0],
  [0, 3, 1082, 1081, 21, 61, 10, 0],
  [4, 2, 1056, 1055, 0, 61, 10, 1],
  [1, 3, 1053, 1051, 1052, 61, 10, 0],
  [1, 3, 1078, 1076, 1077, 61, 10, 0],
  [1, 3, 1086, 1084, 1085, 61, 10, 0],
  [1, 1, 1098, 1097, 23, 61, 10, 0],
  [0, 1, 1106, 1105, 25, 61, 10, 0],
  [4, 1, 1102, 1101, 24, 61, 10, 0],
  [0, 2, 1094, 1093, 22, 61, 10, 0],
  [1, 1, 1090, 1088, 1089, 61, 10, 0],
  [0, 2, 1118, 1117, 27, 61, 10, 0],
  [0, 2, 1122, 1121, 28, 61, 10, 0],
  [0, 2, 1114, 1113, 26, 61, 10, 0],
  [1, 3, 1126, 1125, 29, 61, 10, 0],
  [1, 1, 1110, 1108, 1109, 61, 10, 0],
  [1, 3, 1130, 1128, 1129, 61, 10, 0],
  [1, 1, 1138, 1136, 1137, 61, 10, 0],
  [1, 4, 1146, 1145, 31, 61, 10, 0],
  [4, 3, 1158, 1157, 34, 61, 10, 0],
  [0, 3, 1161, 1160, 0, 61, 10, 1],
  [0, 5, 1154, 1153, 33, 61, 10, 0],
  [4, 4, 1150, 1149, 32, 61, 10, 0],
  [1, 3, 1142, 1140, 1141, 61, 10, 0],
  [1, 2, 1169, 1168, 35, 61, 10, 0],
  [1, 3, 1165, 1163, 1164, 61, 10, 0],
  [1, 4, 1173, 1171, 1172, 61, 10, 0],
  [0, 2, 1186, 1185, 37, 61, 10, 0],
  [2, 2, 1177, 1175, 1176, 61, 10, 0],
  [1, 5, 1190, 1188, 1189, 61, 10, 0],
  [1, 5, 1194, 1192, 1193, 61, 10, 0],
  [2, 2, 1201, 1200, 0, 61, 10, 1],
  [2, 3, 1198, 1196, 1197, 61, 10, 0],
  [1, 4, 1209, 1208, 38, 61, 10, 0],
  [1, 4, 1205, 1203, 1204, 61, 10, 0],
  [1, 4, 1213, 1211, 1212, 61, 10, 0],
  [1, 3, 1217, 1215, 1216, 61, 10, 0],
  [1, 3, 1221, 1219, 1220, 61, 10, 0],
  [1, 3, 1226, 1224, 1225, 61, 10, 0],
  [1, 3, 1234, 1233, 39, 61, 10, 0],
  [4, 4, 1238, 1237, 40, 61, 10, 0],
  [1, 3, 1230, 1228, 1229, 61, 10, 0],
  [1, 2, 1246, 1245, 41, 61, 10, 0],
  [1, 3, 1250, 1249, 42, 61, 10, 0],
  [1, 3, 1242, 1240, 1241, 61, 10, 0],
  [1, 3, 1262, 1261, 44, 61, 10, 0],
  [0, 4, 1270, 1269, 46, 61, 10, 0],
  [0, 3, 1266, 1265, 45, 61, 10, 0],
  [0, 2, 1258, 1257, 43, 61, 10, 0],
  [1, 2, 1254, 1252, 1253, 61, 10, 0],
  [1, 4, 1274, 1272, 1273, 61, 10, 0],
  [1, 3, 1278, 1276, 1277, 61, 10, 0],
  [4, 2, 1286, 1285, 47, 61, 10, 0],
  [2, 3, 1282, 1280, 1281, 61, 10, 0],
  [1, 1, 1290, 1288, 1289, 61, 10, 0],
  [1, 5, 1294, 1292, 1293, 61, 10, 0],
  [4, 1, 1304, 1303, 0, 61, 10, 1],
  [1, 3, 1301, 1299, 1300, 61, 10, 0],
  [1, 4, 1308, 1306, 1307, 61, 10, 0],
  [2, 3, 1312, 1310, 1311, 61, 10, 0],
  [4, 4, 1322, 1321, 48, 61, 10, 0],
  [1, 4, 1318, 1316, 1317, 61, 10, 0],
  [1, 4, 1326, 1324, 1325, 61, 10, 0],
  [1, 3, 1330, 1328, 1329, 61, 10, 0],
  [1, 1, 1334, 1332, 1333, 61, 10, 0],
  [0, 2, 1341, 1340, 0, 61, 10, 1],
  [1, 1, 1338, 1336, 1337, 61, 10, 0],
  [1, 1, 1345, 1343, 1344, 61, 10, 0],
  [1, 2, 1349, 1347, 1348, 61, 10, 0],
  [1, 1, 601, 600, 0, 62, 99, 1],
  [1, 1, 591, 590, 0, 62, 99, 1]]
/-- which fields are ints (0), booleans (1), references (2) -/
def zFT : List (List Nat) := [[2, 2, 2, 2], [2, 0, 0], [2, 2], [2, 2, 2], [2, 2, 0, 0], [2, 0], [2, 2, 0], [2, 2, 2, 2, 2, 2, 2], [2, 2, 2, 2, 2, 2, 2, 2, 0, 0], [2, 2, 2, 2, 2, 2, 1, 2, 2, 2, 2, 2, 2, 2, 2, 2], [2, 2, 0, 2, 2, 2, 2, 0, 0, 2, 1, 0, 2, 2, 2, 2, 2, 2, 0, 0, 2, 0, 2, 2, 2, 2, 2, 2, 2, 2, 2, 2, 2, 0, 2, 2]]
