set_option maxRecDepth 100000 in
theorem qcok_X0_init : qcodeok 0 := by decide +kernel
set_option maxRecDepth 100000 in
theorem qcok_X0_draw : qcodeok 1 := by decide +kernel
set_option maxRecDepth 100000 in
theorem qcok_X0_act : qcodeok 2 := by decide +kernel
set_option maxRecDepth 100000 in
theorem qcok_X0_start : qcodeok 3 := by decide +kernel
set_option maxRecDepth 100000 in
theorem qcok_X0_labour : qcodeok 4 := by decide +kernel
set_option maxRecDepth 100000 in
theorem qcok_X0_lock : qcodeok 5 := by decide +kernel
set_option maxRecDepth 100000 in
theorem qcok_X0_unlock : qcodeok 6 := by decide +kernel
set_option maxRecDepth 100000 in
theorem qcok_X0_finish : qcodeok 7 := by decide +kernel
set_option maxRecDepth 100000 in
theorem qcok_X0_collect : qcodeok 8 := by decide +kernel
set_option maxRecDepth 100000 in
theorem qcok_X0_setBulk : qcodeok 9 := by decide +kernel
set_option maxRecDepth 100000 in
theorem qcok_X0_fellAll : qcodeok 10 := by decide +kernel
set_option maxRecDepth 100000 in
theorem qcok_X0_cheapest : qcodeok 11 := by decide +kernel
set_option maxRecDepth 100000 in
theorem qcok_X0_costOf : qcodeok 12 := by decide +kernel
set_option maxRecDepth 100000 in
theorem qcok_X0_leave : qcodeok 13 := by decide +kernel
set_option maxRecDepth 100000 in
theorem qcok_X0_idle : qcodeok 14 := by decide +kernel
set_option maxRecDepth 100000 in
theorem qcok_X0_release : qcodeok 15 := by decide +kernel
set_option maxRecDepth 100000 in
theorem qcok_X0_takeDue : qcodeok 16 := by decide +kernel
set_option maxRecDepth 100000 in
theorem qcok_X0_serve : qcodeok 17 := by decide +kernel
set_option maxRecDepth 100000 in
theorem qcok_X0_goOn : qcodeok 18 := by decide +kernel
set_option maxRecDepth 100000 in
theorem qcok_X0_gatherAt : qcodeok 19 := by decide +kernel
set_option maxRecDepth 100000 in
theorem qcok_X1_init : qcodeok 20 := by decide +kernel
set_option maxRecDepth 100000 in
theorem qcok_X1_mark : qcodeok 21 := by decide +kernel
set_option maxRecDepth 100000 in
theorem qcok_X1_commit : qcodeok 22 := by decide +kernel
set_option maxRecDepth 100000 in
theorem qcok_X1_back : qcodeok 23 := by decide +kernel
set_option maxRecDepth 100000 in
theorem qcok_X2_init : qcodeok 24 := by decide +kernel
set_option maxRecDepth 100000 in
theorem qcok_X2_read : qcodeok 25 := by decide +kernel
set_option maxRecDepth 100000 in
theorem qcok_X2_waiters : qcodeok 26 := by decide +kernel
set_option maxRecDepth 100000 in
theorem qcok_X2_reachers : qcodeok 27 := by decide +kernel
set_option maxRecDepth 100000 in
theorem qcok_X2_inRings : qcodeok 28 := by decide +kernel
set_option maxRecDepth 100000 in
theorem qcok_X2_shortest : qcodeok 29 := by decide +kernel
set_option maxRecDepth 100000 in
theorem qcok_X2_measure : qcodeok 30 := by decide +kernel
set_option maxRecDepth 100000 in
theorem qcok_X2_nearer : qcodeok 31 := by decide +kernel
set_option maxRecDepth 100000 in
theorem qcok_X3_init : qcodeok 32 := by decide +kernel
set_option maxRecDepth 100000 in
theorem qcok_X3_add : qcodeok 33 := by decide +kernel
set_option maxRecDepth 100000 in
theorem qcok_X3_one : qcodeok 34 := by decide +kernel
set_option maxRecDepth 100000 in
theorem qcok_X3_two : qcodeok 35 := by decide +kernel
set_option maxRecDepth 100000 in
theorem qcok_X3_list : qcodeok 36 := by decide +kernel
set_option maxRecDepth 100000 in
theorem qcok_X4_init : qcodeok 37 := by decide +kernel
set_option maxRecDepth 100000 in
theorem qcok_X4_copy : qcodeok 38 := by decide +kernel
set_option maxRecDepth 100000 in
theorem qcok_X4_read : qcodeok 39 := by decide +kernel
set_option maxRecDepth 100000 in
theorem qcok_X4_takeThing : qcodeok 40 := by decide +kernel
set_option maxRecDepth 100000 in
theorem qcok_X4_takeBehind : qcodeok 41 := by decide +kernel
set_option maxRecDepth 100000 in
theorem qcok_X4_takeDigit : qcodeok 42 := by decide +kernel
set_option maxRecDepth 100000 in
theorem qcok_X4_close : qcodeok 43 := by decide +kernel
set_option maxRecDepth 100000 in
theorem qcok_X4_settle : qcodeok 44 := by decide +kernel
set_option maxRecDepth 100000 in
theorem qcok_X4_postpone : qcodeok 45 := by decide +kernel
set_option maxRecDepth 100000 in
theorem qcok_X4_put : qcodeok 46 := by decide +kernel
set_option maxRecDepth 100000 in
theorem qcok_X4_cost : qcodeok 47 := by decide +kernel
set_option maxRecDepth 100000 in
theorem qcok_X4_valueOf : qcodeok 48 := by decide +kernel
set_option maxRecDepth 100000 in
theorem qcok_X4_reckon : qcodeok 49 := by decide +kernel
set_option maxRecDepth 100000 in
theorem qcok_X4_rankOf : qcodeok 50 := by decide +kernel
set_option maxRecDepth 100000 in
theorem qcok_X4_isLetter : qcodeok 51 := by decide +kernel
set_option maxRecDepth 100000 in
theorem qcok_X5_init : qcodeok 52 := by decide +kernel
set_option maxRecDepth 100000 in
theorem qcok_X5_copy : qcodeok 53 := by decide +kernel
set_option maxRecDepth 100000 in
theorem qcok_X5_modeAt : qcodeok 54 := by decide +kernel
set_option maxRecDepth 100000 in
theorem qcok_X5_setMode : qcodeok 55 := by decide +kernel
set_option maxRecDepth 100000 in
theorem qcok_X5_standing : qcodeok 56 := by decide +kernel
set_option maxRecDepth 100000 in
theorem qcok_X5_firstRunning : qcodeok 57 := by decide +kernel
set_option maxRecDepth 100000 in
theorem qcok_X5_holdings : qcodeok 58 := by decide +kernel
set_option maxRecDepth 100000 in
theorem qcok_X5_allHoldings : qcodeok 59 := by decide +kernel
set_option maxRecDepth 100000 in
theorem qcok_X5_allFalls : qcodeok 60 := by decide +kernel
set_option maxRecDepth 100000 in
theorem qcok_X5_heldSum : qcodeok 61 := by decide +kernel
set_option maxRecDepth 100000 in
theorem qcok_X5_holdingsBelow : qcodeok 62 := by decide +kernel
set_option maxRecDepth 100000 in
theorem qcok_X5_gatherMode : qcodeok 63 := by decide +kernel
set_option maxRecDepth 100000 in
theorem qcok_X5_firstAbove : qcodeok 64 := by decide +kernel
set_option maxRecDepth 100000 in
theorem qcok_X5_isCovered : qcodeok 65 := by decide +kernel
set_option maxRecDepth 100000 in
theorem qcok_X5_fits : qcodeok 66 := by decide +kernel
set_option maxRecDepth 100000 in
theorem qcok_X5_isOpen : qcodeok 67 := by decide +kernel
set_option maxRecDepth 100000 in
theorem qcok_X5_stopLevel : qcodeok 68 := by decide +kernel
set_option maxRecDepth 100000 in
theorem qcok_X5_newSteps : qcodeok 69 := by decide +kernel
set_option maxRecDepth 100000 in
theorem qcok_X5_requests : qcodeok 70 := by decide +kernel
set_option maxRecDepth 100000 in
theorem qcok_X5_changes : qcodeok 71 := by decide +kernel
set_option maxRecDepth 100000 in
theorem qcok_X5_isChange : qcodeok 72 := by decide +kernel
set_option maxRecDepth 100000 in
theorem qcok_X5_isAhead : qcodeok 73 := by decide +kernel
set_option maxRecDepth 100000 in
theorem qcok_X5_position : qcodeok 74 := by decide +kernel
set_option maxRecDepth 100000 in
theorem qcok_X5_firstInQueue : qcodeok 75 := by decide +kernel
set_option maxRecDepth 100000 in
theorem qcok_X5_forWhom : qcodeok 76 := by decide +kernel
set_option maxRecDepth 100000 in
theorem qcok_X5_enqueue : qcodeok 77 := by decide +kernel
set_option maxRecDepth 100000 in
theorem qcok_X5_grant : qcodeok 78 := by decide +kernel
set_option maxRecDepth 100000 in
theorem qcok_X6_init : qcodeok 79 := by decide +kernel
set_option maxRecDepth 100000 in
theorem qcok_X6_addFour : qcodeok 80 := by decide +kernel
set_option maxRecDepth 100000 in
theorem qcok_X6_at : qcodeok 81 := by decide +kernel
set_option maxRecDepth 100000 in
theorem qcok_X6_digit : qcodeok 82 := by decide +kernel
set_option maxRecDepth 100000 in
theorem qcok_X6_says : qcodeok 83 := by decide +kernel
set_option maxRecDepth 100000 in
theorem qcok_X6_modeName : qcodeok 84 := by decide +kernel
set_option maxRecDepth 100000 in
theorem qcok_X6_wrongInDay : qcodeok 85 := by decide +kernel
set_option maxRecDepth 100000 in
theorem qcok_X6_digitsOf : qcodeok 86 := by decide +kernel
set_option maxRecDepth 100000 in
theorem qcok_X7_init : qcodeok 87 := by decide +kernel
set_option maxRecDepth 100000 in
theorem qcok_X7_sign : qcodeok 88 := by decide +kernel
set_option maxRecDepth 100000 in
theorem qcok_X7_end : qcodeok 89 := by decide +kernel
set_option maxRecDepth 100000 in
theorem qcok_X7_rule : qcodeok 90 := by decide +kernel
set_option maxRecDepth 100000 in
theorem qcok_X7_modes : qcodeok 91 := by decide +kernel
set_option maxRecDepth 100000 in
theorem qcok_X7_named : qcodeok 92 := by decide +kernel
set_option maxRecDepth 100000 in
theorem qcok_X7_owner : qcodeok 93 := by decide +kernel
set_option maxRecDepth 100000 in
theorem qcok_X7_held : qcodeok 94 := by decide +kernel
set_option maxRecDepth 100000 in
theorem qcok_X7_begins : qcodeok 95 := by decide +kernel
set_option maxRecDepth 100000 in
theorem qcok_X7_works : qcodeok 96 := by decide +kernel
set_option maxRecDepth 100000 in
theorem qcok_X7_locks : qcodeok 97 := by decide +kernel
set_option maxRecDepth 100000 in
theorem qcok_X7_unlocks : qcodeok 98 := by decide +kernel
set_option maxRecDepth 100000 in
theorem qcok_X7_ends : qcodeok 99 := by decide +kernel
set_option maxRecDepth 100000 in
theorem qcok_X7_gathers : qcodeok 100 := by decide +kernel
set_option maxRecDepth 100000 in
theorem qcok_X7_bulk : qcodeok 101 := by decide +kernel
set_option maxRecDepth 100000 in
theorem qcok_X7_fells : qcodeok 102 := by decide +kernel
set_option maxRecDepth 100000 in
theorem qcok_X7_day : qcodeok 103 := by decide +kernel
set_option maxRecDepth 100000 in
theorem qcok_X7_undo : qcodeok 104 := by decide +kernel
set_option maxRecDepth 100000 in
theorem qcok_X7_holders : qcodeok 105 := by decide +kernel
set_option maxRecDepth 100000 in
theorem qcok_X7_queue : qcodeok 106 := by decide +kernel
set_option maxRecDepth 100000 in
theorem qcok_X7_waits : qcodeok 107 := by decide +kernel
set_option maxRecDepth 100000 in
theorem qcok_X7_covers : qcodeok 108 := by decide +kernel
set_option maxRecDepth 100000 in
theorem qcok_X7_may : qcodeok 109 := by decide +kernel
set_option maxRecDepth 100000 in
theorem qcok_X7_free : qcodeok 110 := by decide +kernel
set_option maxRecDepth 100000 in
theorem qcok_X7_behind : qcodeok 111 := by decide +kernel
set_option maxRecDepth 100000 in
theorem qcok_X7_stops : qcodeok 112 := by decide +kernel
set_option maxRecDepth 100000 in
theorem qcok_X7_rings : qcodeok 113 := by decide +kernel
set_option maxRecDepth 100000 in
theorem qcok_X7_ring : qcodeok 114 := by decide +kernel
set_option maxRecDepth 100000 in
theorem qcok_X7_victim : qcodeok 115 := by decide +kernel
set_option maxRecDepth 100000 in
theorem qcok_X7_frees : qcodeok 116 := by decide +kernel
set_option maxRecDepth 100000 in
theorem qcok_X7_drains : qcodeok 117 := by decide +kernel
set_option maxRecDepth 100000 in
theorem qcok_X7_saves : qcodeok 118 := by decide +kernel
set_option maxRecDepth 100000 in
theorem qcok_X7_holds : qcodeok 119 := by decide +kernel
set_option maxRecDepth 100000 in
theorem qcok_X7_common : qcodeok 120 := by decide +kernel
set_option maxRecDepth 100000 in
theorem qcok_X7_queues : qcodeok 121 := by decide +kernel
set_option maxRecDepth 100000 in
theorem qcok_X7_sum : qcodeok 122 := by decide +kernel
set_option maxRecDepth 100000 in
theorem qcok_X7_law : qcodeok 123 := by decide +kernel
set_option maxRecDepth 100000 in
theorem qcok_X7_years : qcodeok 124 := by decide +kernel
set_option maxRecDepth 100000 in
theorem qcok_X7_keep : qcodeok 125 := by decide +kernel
set_option maxRecDepth 100000 in
theorem qcok_X7_again : qcodeok 126 := by decide +kernel
set_option maxRecDepth 100000 in
theorem qcok_X7_count : qcodeok 127 := by decide +kernel
set_option maxRecDepth 100000 in
theorem qcok_X7_row : qcodeok 128 := by decide +kernel
set_option maxRecDepth 100000 in
theorem qcok_X7_noted : qcodeok 129 := by decide +kernel
set_option maxRecDepth 100000 in
theorem qcok_X7_runsWithout : qcodeok 130 := by decide +kernel
set_option maxRecDepth 100000 in
theorem qcok_X7_isOwner : qcodeok 131 := by decide +kernel
set_option maxRecDepth 100000 in
theorem qcok_X7_isPlace : qcodeok 132 := by decide +kernel
set_option maxRecDepth 100000 in
theorem qcok_X7_isMode : qcodeok 133 := by decide +kernel
set_option maxRecDepth 100000 in
theorem qcok_X7_isLockMode : qcodeok 134 := by decide +kernel
set_option maxRecDepth 100000 in
theorem qcok_X7_levelOf : qcodeok 135 := by decide +kernel
set_option maxRecDepth 100000 in
theorem qcok_X7_onPath : qcodeok 136 := by decide +kernel
set_option maxRecDepth 100000 in
theorem qcok_X7_stepMode : qcodeok 137 := by decide +kernel
set_option maxRecDepth 100000 in
theorem qcok_X7_isDigit : qcodeok 138 := by decide +kernel
set_option maxRecDepth 100000 in
theorem qcok_X8_thrown : qcodeok 139 := by decide +kernel
set_option maxRecDepth 100000 in
theorem qcok_X8_refuse : qcodeok 140 := by decide +kernel
set_option maxRecDepth 100000 in
theorem qcok_X8_in : qcodeok 141 := by decide +kernel
set_option maxRecDepth 100000 in
theorem qcok_X8_has : qcodeok 142 := by decide +kernel
set_option maxRecDepth 100000 in
theorem qcok_X8_flag : qcodeok 143 := by decide +kernel
set_option maxRecDepth 100000 in
theorem qcok_X8_enters : qcodeok 144 := by decide +kernel
set_option maxRecDepth 100000 in
theorem qcok_X8_parent : qcodeok 145 := by decide +kernel
set_option maxRecDepth 100000 in
theorem qcok_X8_isBelow : qcodeok 146 := by decide +kernel
set_option maxRecDepth 100000 in
theorem qcok_X8_isPlace : qcodeok 147 := by decide +kernel
set_option maxRecDepth 100000 in
theorem qcok_X8_isMode : qcodeok 148 := by decide +kernel
set_option maxRecDepth 100000 in
theorem qcok_X8_together : qcodeok 149 := by decide +kernel
set_option maxRecDepth 100000 in
theorem qcok_X8_both : qcodeok 150 := by decide +kernel
set_option maxRecDepth 100000 in
theorem qcok_X8_modes : qcodeok 151 := by decide +kernel
set_option maxRecDepth 100000 in
theorem qcok_X8_sign : qcodeok 152 := by decide +kernel
set_option maxRecDepth 100000 in
theorem qcok_X8_end : qcodeok 153 := by decide +kernel
set_option maxRecDepth 100000 in
theorem qcok_X8_reads : qcodeok 154 := by decide +kernel
set_option maxRecDepth 100000 in
theorem qcok_X8_takes : qcodeok 155 := by decide +kernel
set_option maxRecDepth 100000 in
theorem qcok_X8_isDigit : qcodeok 156 := by decide +kernel
set_option maxRecDepth 100000 in
theorem qcok_X8_takesOf : qcodeok 157 := by decide +kernel
set_option maxRecDepth 100000 in
theorem qcok_X8_number : qcodeok 158 := by decide +kernel
set_option maxRecDepth 100000 in
theorem qcok_X8_two : qcodeok 159 := by decide +kernel
set_option maxRecDepth 100000 in
theorem qcok_X8_faultOf : qcodeok 160 := by decide +kernel
set_option maxRecDepth 100000 in
theorem qcok_X8_named : qcodeok 161 := by decide +kernel
set_option maxRecDepth 100000 in
theorem qcok_X8_codes : qcodeok 162 := by decide +kernel
set_option maxRecDepth 100000 in
theorem qcok_X8_readsThing : qcodeok 163 := by decide +kernel
set_option maxRecDepth 100000 in
theorem qcok_X8_readsRank : qcodeok 164 := by decide +kernel
set_option maxRecDepth 100000 in
theorem qcok_X8_readsRule : qcodeok 165 := by decide +kernel
set_option maxRecDepth 100000 in
theorem qcok_X8_laysCode : qcodeok 166 := by decide +kernel
set_option maxRecDepth 100000 in
theorem qcok_X8_rule : qcodeok 167 := by decide +kernel
set_option maxRecDepth 100000 in
theorem qcok_X8_worked : qcodeok 168 := by decide +kernel
set_option maxRecDepth 100000 in
theorem qcok_X8_ruled : qcodeok 169 := by decide +kernel
set_option maxRecDepth 100000 in
theorem qcok_X8_init : qcodeok 170 := by decide +kernel
set_option maxRecDepth 100000 in
theorem qcok_X8_isOwner : qcodeok 171 := by decide +kernel
set_option maxRecDepth 100000 in
theorem qcok_X8_held : qcodeok 172 := by decide +kernel
set_option maxRecDepth 100000 in
theorem qcok_X8_heldMany : qcodeok 173 := by decide +kernel
set_option maxRecDepth 100000 in
theorem qcok_X8_aloneMany : qcodeok 174 := by decide +kernel
set_option maxRecDepth 100000 in
theorem qcok_X8_so : qcodeok 175 := by decide +kernel
set_option maxRecDepth 100000 in
theorem qcok_X8_isChange : qcodeok 176 := by decide +kernel
set_option maxRecDepth 100000 in
theorem qcok_X8_isAhead : qcodeok 177 := by decide +kernel
set_option maxRecDepth 100000 in
theorem qcok_X8_isIn : qcodeok 178 := by decide +kernel
set_option maxRecDepth 100000 in
theorem qcok_X8_queued : qcodeok 179 := by decide +kernel
set_option maxRecDepth 100000 in
theorem qcok_X8_hasChange : qcodeok 180 := by decide +kernel
set_option maxRecDepth 100000 in
theorem qcok_X8_aheadOf : qcodeok 181 := by decide +kernel
set_option maxRecDepth 100000 in
theorem qcok_X8_inQueue : qcodeok 182 := by decide +kernel
set_option maxRecDepth 100000 in
theorem qcok_X8_goesWithOthers : qcodeok 183 := by decide +kernel
set_option maxRecDepth 100000 in
theorem qcok_X8_waitsFor : qcodeok 184 := by decide +kernel
set_option maxRecDepth 100000 in
theorem qcok_X8_behindOf : qcodeok 185 := by decide +kernel
set_option maxRecDepth 100000 in
theorem qcok_X8_comesTo : qcodeok 186 := by decide +kernel
set_option maxRecDepth 100000 in
theorem qcok_X8_ringed : qcodeok 187 := by decide +kernel
set_option maxRecDepth 100000 in
theorem qcok_X8_waitersOf : qcodeok 188 := by decide +kernel
set_option maxRecDepth 100000 in
theorem qcok_X8_cost : qcodeok 189 := by decide +kernel
set_option maxRecDepth 100000 in
theorem qcok_X8_holdsNow : qcodeok 190 := by decide +kernel
set_option maxRecDepth 100000 in
theorem qcok_X8_isShared : qcodeok 191 := by decide +kernel
set_option maxRecDepth 100000 in
theorem qcok_X8_wanted : qcodeok 192 := by decide +kernel
set_option maxRecDepth 100000 in
theorem qcok_X8_isGranted : qcodeok 193 := by decide +kernel
set_option maxRecDepth 100000 in
theorem qcok_X8_steps : qcodeok 194 := by decide +kernel
set_option maxRecDepth 100000 in
theorem qcok_X8_nextOn : qcodeok 195 := by decide +kernel
set_option maxRecDepth 100000 in
theorem qcok_X8_modeOn : qcodeok 196 := by decide +kernel
set_option maxRecDepth 100000 in
theorem qcok_X8_isCovered : qcodeok 197 := by decide +kernel
set_option maxRecDepth 100000 in
theorem qcok_X8_goesOn : qcodeok 198 := by decide +kernel
set_option maxRecDepth 100000 in
theorem qcok_X8_rowsHeld : qcodeok 199 := by decide +kernel
set_option maxRecDepth 100000 in
theorem qcok_X8_belowMany : qcodeok 200 := by decide +kernel
set_option maxRecDepth 100000 in
theorem qcok_X8_gatheredMode : qcodeok 201 := by decide +kernel
set_option maxRecDepth 100000 in
theorem qcok_X8_canGather : qcodeok 202 := by decide +kernel
set_option maxRecDepth 100000 in
theorem qcok_X8_gathersOne : qcodeok 203 := by decide +kernel
set_option maxRecDepth 100000 in
theorem qcok_X8_servesAll : qcodeok 204 := by decide +kernel
set_option maxRecDepth 100000 in
theorem qcok_X8_serves : qcodeok 205 := by decide +kernel
set_option maxRecDepth 100000 in
theorem qcok_X8_locksOne : qcodeok 206 := by decide +kernel
set_option maxRecDepth 100000 in
theorem qcok_X8_beginsOne : qcodeok 207 := by decide +kernel
set_option maxRecDepth 100000 in
theorem qcok_X8_worksOne : qcodeok 208 := by decide +kernel
set_option maxRecDepth 100000 in
theorem qcok_X8_unlocksOne : qcodeok 209 := by decide +kernel
set_option maxRecDepth 100000 in
theorem qcok_X8_goes : qcodeok 210 := by decide +kernel
set_option maxRecDepth 100000 in
theorem qcok_X8_endsOne : qcodeok 211 := by decide +kernel
set_option maxRecDepth 100000 in
theorem qcok_X8_gathersAt : qcodeok 212 := by decide +kernel
set_option maxRecDepth 100000 in
theorem qcok_X8_bulksOne : qcodeok 213 := by decide +kernel
set_option maxRecDepth 100000 in
theorem qcok_X8_cheapest : qcodeok 214 := by decide +kernel
set_option maxRecDepth 100000 in
theorem qcok_X8_fellsAll : qcodeok 215 := by decide +kernel
set_option maxRecDepth 100000 in
theorem qcok_X8_putsBy : qcodeok 216 := by decide +kernel
set_option maxRecDepth 100000 in
theorem qcok_X8_adds : qcodeok 217 := by decide +kernel
set_option maxRecDepth 100000 in
theorem qcok_X8_counted : qcodeok 218 := by decide +kernel
set_option maxRecDepth 100000 in
theorem qcok_X8_undo : qcodeok 219 := by decide +kernel
set_option maxRecDepth 100000 in
theorem qcok_X8_owner : qcodeok 220 := by decide +kernel
set_option maxRecDepth 100000 in
theorem qcok_X8_held_ : qcodeok 221 := by decide +kernel
set_option maxRecDepth 100000 in
theorem qcok_X8_begins : qcodeok 222 := by decide +kernel
set_option maxRecDepth 100000 in
theorem qcok_X8_works : qcodeok 223 := by decide +kernel
set_option maxRecDepth 100000 in
theorem qcok_X8_locks : qcodeok 224 := by decide +kernel
set_option maxRecDepth 100000 in
theorem qcok_X8_unlocks : qcodeok 225 := by decide +kernel
set_option maxRecDepth 100000 in
theorem qcok_X8_ends : qcodeok 226 := by decide +kernel
set_option maxRecDepth 100000 in
theorem qcok_X8_gathers : qcodeok 227 := by decide +kernel
set_option maxRecDepth 100000 in
theorem qcok_X8_bulk : qcodeok 228 := by decide +kernel
set_option maxRecDepth 100000 in
theorem qcok_X8_fells : qcodeok 229 := by decide +kernel
set_option maxRecDepth 100000 in
theorem qcok_X8_readsAct : qcodeok 230 := by decide +kernel
set_option maxRecDepth 100000 in
theorem qcok_X8_does : qcodeok 231 := by decide +kernel
set_option maxRecDepth 100000 in
theorem qcok_X8_day : qcodeok 232 := by decide +kernel
set_option maxRecDepth 100000 in
theorem qcok_X8_holders : qcodeok 233 := by decide +kernel
set_option maxRecDepth 100000 in
theorem qcok_X8_queue : qcodeok 234 := by decide +kernel
set_option maxRecDepth 100000 in
theorem qcok_X8_waits : qcodeok 235 := by decide +kernel
set_option maxRecDepth 100000 in
theorem qcok_X8_firstAbove : qcodeok 236 := by decide +kernel
set_option maxRecDepth 100000 in
theorem qcok_X8_covers : qcodeok 237 := by decide +kernel
set_option maxRecDepth 100000 in
theorem qcok_X8_wouldWait : qcodeok 238 := by decide +kernel
set_option maxRecDepth 100000 in
theorem qcok_X8_may : qcodeok 239 := by decide +kernel
set_option maxRecDepth 100000 in
theorem qcok_X8_free : qcodeok 240 := by decide +kernel
set_option maxRecDepth 100000 in
theorem qcok_X8_behind : qcodeok 241 := by decide +kernel
set_option maxRecDepth 100000 in
theorem qcok_X8_stops : qcodeok 242 := by decide +kernel
set_option maxRecDepth 100000 in
theorem qcok_X8_rings : qcodeok 243 := by decide +kernel
set_option maxRecDepth 100000 in
theorem qcok_X8_laysSteps : qcodeok 244 := by decide +kernel
set_option maxRecDepth 100000 in
theorem qcok_X8_ring : qcodeok 245 := by decide +kernel
set_option maxRecDepth 100000 in
theorem qcok_X8_victim : qcodeok 246 := by decide +kernel
set_option maxRecDepth 100000 in
theorem qcok_X8_copies : qcodeok 247 := by decide +kernel
set_option maxRecDepth 100000 in
theorem qcok_X8_frees : qcodeok 248 := by decide +kernel
set_option maxRecDepth 100000 in
theorem qcok_X8_drains : qcodeok 249 := by decide +kernel
set_option maxRecDepth 100000 in
theorem qcok_X8_saves : qcodeok 250 := by decide +kernel
set_option maxRecDepth 100000 in
theorem qcok_X8_holds : qcodeok 251 := by decide +kernel
set_option maxRecDepth 100000 in
theorem qcok_X8_common : qcodeok 252 := by decide +kernel
set_option maxRecDepth 100000 in
theorem qcok_X8_queues : qcodeok 253 := by decide +kernel
set_option maxRecDepth 100000 in
theorem qcok_X8_sumOf : qcodeok 254 := by decide +kernel
set_option maxRecDepth 100000 in
theorem qcok_X8_sum : qcodeok 255 := by decide +kernel
set_option maxRecDepth 100000 in
theorem qcok_X8_law : qcodeok 256 := by decide +kernel
set_option maxRecDepth 100000 in
theorem qcok_X8_draws : qcodeok 257 := by decide +kernel
set_option maxRecDepth 100000 in
theorem qcok_X8_drawnAct : qcodeok 258 := by decide +kernel
set_option maxRecDepth 100000 in
theorem qcok_X8_fallsOf : qcodeok 259 := by decide +kernel
set_option maxRecDepth 100000 in
theorem qcok_X8_years : qcodeok 260 := by decide +kernel
set_option maxRecDepth 100000 in
theorem qcok_X8_keep : qcodeok 261 := by decide +kernel
set_option maxRecDepth 100000 in
theorem qcok_X8_again : qcodeok 262 := by decide +kernel
set_option maxRecDepth 100000 in
theorem qcok_X8_count : qcodeok 263 := by decide +kernel
set_option maxRecDepth 100000 in
theorem qcok_X8_row : qcodeok 264 := by decide +kernel
set_option maxRecDepth 100000 in
theorem qcok_J6_compare_7cf53 : qcodeok 265 := by decide +kernel
set_option maxRecDepth 100000 in
theorem qcok_J6_numberOfTrailingZeros_0f7a4 : qcodeok 266 := by decide +kernel
set_option maxRecDepth 100000 in
theorem qcok_J6_bitCount_0f7a4 : qcodeok 267 := by decide +kernel
set_option maxRecDepth 100000 in
theorem qcok_J0_length_8abf5 : qcodeok 268 := by decide +kernel
set_option maxRecDepth 100000 in
theorem qcok_J0_charAt_5068e : qcodeok 269 := by decide +kernel
set_option maxRecDepth 100000 in
theorem qcok_J0_coder_7d493 : qcodeok 270 := by decide +kernel
set_option maxRecDepth 100000 in
theorem qcok_J0_isLatin1_aae02 : qcodeok 271 := by decide +kernel
set_option maxRecDepth 100000 in
theorem qcok_J0_checkIndex_df160 : qcodeok 272 := by decide +kernel
set_option maxRecDepth 100000 in
theorem qcok_J1_charAt_3b067 : qcodeok 273 := by decide +kernel
set_option maxRecDepth 100000 in
theorem qcok_J3_checkIndex_8e157 : qcodeok 278 := by decide +kernel
