theorem rX0_init : a_ret 0 .return_ [] = some none := by rfl
theorem rX0_begin : a_ret 1 .return_ [] = some none := by rfl
theorem rX0_setCost : a_ret 2 .return_ [] = some none := by rfl
theorem rX0_work : a_ret 3 .return_ [] = some none := by rfl
theorem rX0_cost {x : Int32} : a_ret 4 .ireturn [.int x] = some (some (.int x)) := by rfl
theorem rX0_whoLives {x : Int32} : a_ret 5 .ireturn [.int x] = some (some (.int x)) := by rfl
theorem rX0_cheapest {x : Int32} : a_ret 6 .ireturn [.int x] = some (some (.int x)) := by rfl
theorem rX0_costBy {x : Int32} : a_ret 7 .ireturn [.int x] = some (some (.int x)) := by rfl
theorem rX1_init : a_ret 8 .return_ [] = some none := by rfl
theorem rX1_clear : a_ret 9 .return_ [] = some none := by rfl
theorem rX1_hasName (a : Int) (h : a = 0 ∨ a = 1) : a_ret 10 .ireturn [.int (iI a)] = some (some (.int (iI a))) := by rcases h with rfl | rfl <;> rfl
theorem rX1_addPerson : a_ret 11 .return_ [] = some none := by rfl
theorem rX1_addTask : a_ret 12 .return_ [] = some none := by rfl
theorem rX1_hasDuty (a : Int) (h : a = 0 ∨ a = 1) : a_ret 13 .ireturn [.int (iI a)] = some (some (.int (iI a))) := by rcases h with rfl | rfl <;> rfl
theorem rX1_addDuty : a_ret 14 .return_ [] = some none := by rfl
theorem rX1_sameWard (a : Int) (h : a = 0 ∨ a = 1) : a_ret 15 .ireturn [.int (iI a)] = some (some (.int (iI a))) := by rcases h with rfl | rfl <;> rfl
theorem rX2_init : a_ret 16 .return_ [] = some none := by rfl
theorem rX2_forgetFailures : a_ret 17 .return_ [] = some none := by rfl
theorem rX2_sendAway : a_ret 18 .return_ [] = some none := by rfl
theorem rX2_comes : a_ret 19 .return_ [] = some none := by rfl
theorem rX2_passNight : a_ret 20 .return_ [] = some none := by rfl
theorem rX2_meetDuty : a_ret 21 .return_ [] = some none := by rfl
theorem rX2_fail : a_ret 22 .return_ [] = some none := by rfl
theorem rX2_noticeAll : a_ret 23 .return_ [] = some none := by rfl
theorem rX2_watchAll : a_ret 24 .return_ [] = some none := by rfl
theorem rX2_learned {x : Int32} : a_ret 25 .ireturn [.int x] = some (some (.int x)) := by rfl
theorem rX2_ableNow (a : Int) (h : a = 0 ∨ a = 1) : a_ret 26 .ireturn [.int (iI a)] = some (some (.int (iI a))) := by rcases h with rfl | rfl <;> rfl
theorem rX2_ableInAll (a : Int) (h : a = 0 ∨ a = 1) : a_ret 27 .ireturn [.int (iI a)] = some (some (.int (iI a))) := by rcases h with rfl | rfl <;> rfl
theorem rX2_countAble {x : Int32} : a_ret 28 .ireturn [.int x] = some (some (.int x)) := by rfl
theorem rX2_able (a : Int) (h : a = 0 ∨ a = 1) : a_ret 29 .ireturn [.int (iI a)] = some (some (.int (iI a))) := by rcases h with rfl | rfl <;> rfl
theorem rX2_setTime : a_ret 30 .return_ [] = some none := by rfl
theorem rX2_setKnower : a_ret 31 .return_ [] = some none := by rfl
theorem rX2_setAskFacts : a_ret 32 .return_ [] = some none := by rfl
theorem rX3_init : a_ret 33 .return_ [] = some none := by rfl
theorem rX3_isTold (a : Int) (h : a = 0 ∨ a = 1) : a_ret 34 .ireturn [.int (iI a)] = some (some (.int (iI a))) := by rcases h with rfl | rfl <;> rfl
theorem rX3_clear : a_ret 35 .return_ [] = some none := by rfl
theorem rX3_write : a_ret 36 .return_ [] = some none := by rfl
theorem rX3_value {x : Int32} : a_ret 37 .ireturn [.int x] = some (some (.int x)) := by rfl
theorem rX3_known {x : Int32} : a_ret 38 .ireturn [.int x] = some (some (.int x)) := by rfl
theorem rX3_worked {x : Int32} : a_ret 39 .ireturn [.int x] = some (some (.int x)) := by rfl
theorem rX3_held {x : Int32} : a_ret 40 .ireturn [.int x] = some (some (.int x)) := by rfl
theorem rX4_init : a_ret 41 .return_ [] = some none := by rfl
theorem rX4_begin : a_ret 42 .return_ [] = some none := by rfl
theorem rX4_goHome : a_ret 43 .return_ [] = some none := by rfl
theorem rX4_copy : a_ret 44 .return_ [] = some none := by rfl
theorem rX4_pointsOf {x : Int32} : a_ret 45 .ireturn [.int x] = some (some (.int x)) := by rfl
theorem rX4_setPoints : a_ret 46 .return_ [] = some none := by rfl
theorem rX4_keep : a_ret 47 .return_ [] = some none := by rfl
theorem rX4_keptCount {x : Int32} : a_ret 48 .ireturn [.int x] = some (some (.int x)) := by rfl
theorem rX4_keptPart {x : Int32} : a_ret 49 .ireturn [.int x] = some (some (.int x)) := by rfl
theorem rX5_init : a_ret 50 .return_ [] = some none := by rfl
theorem rX5_size {x : Int32} : a_ret 51 .ireturn [.int x] = some (some (.int x)) := by rfl
theorem rX5_clear : a_ret 52 .return_ [] = some none := by rfl
theorem rX5_remember : a_ret 53 .return_ [] = some none := by rfl
theorem rX5_recall (a : Int) (h : a = 0 ∨ a = 1) : a_ret 54 .ireturn [.int (iI a)] = some (some (.int (iI a))) := by rcases h with rfl | rfl <;> rfl
theorem rX5_slot {x : Nat} : a_ret 55 .areturn [.ref x] = some (some (.ref x)) := by rfl
theorem rX5_slotN : a_ret 55 .areturn [.null] = some (some .null) := by rfl
theorem rX6_init : a_ret 56 .return_ [] = some none := by rfl
theorem rX6_addWords : a_ret 57 .return_ [] = some none := by rfl
theorem rX6_start : a_ret 58 .return_ [] = some none := by rfl
theorem rX6_put : a_ret 59 .return_ [] = some none := by rfl
theorem rX6_scan {x : Int32} : a_ret 60 .ireturn [.int x] = some (some (.int x)) := by rfl
theorem rX6_scanWord {x : Int32} : a_ret 61 .ireturn [.int x] = some (some (.int x)) := by rfl
theorem rX6_scanNumber {x : Int32} : a_ret 62 .ireturn [.int x] = some (some (.int x)) := by rfl
theorem rX6_isLetter (a : Int) (h : a = 0 ∨ a = 1) : a_ret 63 .ireturn [.int (iI a)] = some (some (.int (iI a))) := by rcases h with rfl | rfl <;> rfl
theorem rX6_isDigit (a : Int) (h : a = 0 ∨ a = 1) : a_ret 64 .ireturn [.int (iI a)] = some (some (.int (iI a))) := by rcases h with rfl | rfl <;> rfl
theorem rX6_fine (a : Int) (h : a = 0 ∨ a = 1) : a_ret 65 .ireturn [.int (iI a)] = some (some (.int (iI a))) := by rcases h with rfl | rfl <;> rfl
theorem rX6_fail : a_ret 66 .return_ [] = some none := by rfl
theorem rX6_here {x : Int32} : a_ret 67 .ireturn [.int x] = some (some (.int x)) := by rfl
theorem rX6_word {x : Int32} : a_ret 68 .ireturn [.int x] = some (some (.int x)) := by rfl
theorem rX6_isSign (a : Int) (h : a = 0 ∨ a = 1) : a_ret 69 .ireturn [.int (iI a)] = some (some (.int (iI a))) := by rcases h with rfl | rfl <;> rfl
theorem rX6_isWord (a : Int) (h : a = 0 ∨ a = 1) : a_ret 70 .ireturn [.int (iI a)] = some (some (.int (iI a))) := by rcases h with rfl | rfl <;> rfl
theorem rX6_take : a_ret 71 .return_ [] = some none := by rfl
theorem rX6_takeSign : a_ret 72 .return_ [] = some none := by rfl
theorem rX6_takeWord : a_ret 73 .return_ [] = some none := by rfl
theorem rX6_takeName {x : Int32} : a_ret 74 .ireturn [.int x] = some (some (.int x)) := by rfl
theorem rX6_takeNumber {x : Int32} : a_ret 75 .ireturn [.int x] = some (some (.int x)) := by rfl
theorem rX6_takeOpening : a_ret 76 .return_ [] = some none := by rfl
theorem rX6_readCity : a_ret 77 .return_ [] = some none := by rfl
theorem rX6_isTooMany (a : Int) (h : a = 0 ∨ a = 1) : a_ret 78 .ireturn [.int (iI a)] = some (some (.int (iI a))) := by rcases h with rfl | rfl <;> rfl
theorem rX6_readGiven : a_ret 79 .return_ [] = some none := by rfl
theorem rX6_takeKnown {x : Int32} : a_ret 80 .ireturn [.int x] = some (some (.int x)) := by rfl
theorem rX6_readDuty : a_ret 81 .return_ [] = some none := by rfl
theorem rX6_readCover : a_ret 82 .return_ [] = some none := by rfl
theorem rX6_readKnowing : a_ret 83 .return_ [] = some none := by rfl
theorem rX6_readRule : a_ret 84 .return_ [] = some none := by rfl
theorem rX6_readQuestion : a_ret 85 .return_ [] = some none := by rfl
theorem rX6_readTest : a_ret 86 .return_ [] = some none := by rfl
theorem rX6_readBoth : a_ret 87 .return_ [] = some none := by rfl
theorem rX6_readFact : a_ret 88 .return_ [] = some none := by rfl
theorem rX6_comparison {x : Int32} : a_ret 89 .ireturn [.int x] = some (some (.int x)) := by rfl
theorem rX6_readSum : a_ret 90 .return_ [] = some none := by rfl
theorem rX6_readProduct : a_ret 91 .return_ [] = some none := by rfl
theorem rX6_readPart : a_ret 92 .return_ [] = some none := by rfl
theorem rX6_readPair : a_ret 93 .return_ [] = some none := by rfl
theorem rX7_init : a_ret 94 .return_ [] = some none := by rfl
theorem rX7_size {x : Int32} : a_ret 95 .ireturn [.int x] = some (some (.int x)) := by rfl
theorem rX7_get {x : Int32} : a_ret 96 .ireturn [.int x] = some (some (.int x)) := by rfl
theorem rX7_put : a_ret 97 .return_ [] = some none := by rfl
theorem rX7_add : a_ret 98 .return_ [] = some none := by rfl
theorem rX7_insert : a_ret 99 .return_ [] = some none := by rfl
theorem rX7_cut : a_ret 100 .return_ [] = some none := by rfl
theorem rX7_fill : a_ret 101 .return_ [] = some none := by rfl
theorem rX7_copy : a_ret 102 .return_ [] = some none := by rfl
theorem rX7_find {x : Int32} : a_ret 103 .ireturn [.int x] = some (some (.int x)) := by rfl
theorem rX7_count {x : Int32} : a_ret 104 .ireturn [.int x] = some (some (.int x)) := by rfl
theorem rX8_init : a_ret 105 .return_ [] = some none := by rfl
theorem rX8_count : a_ret 106 .return_ [] = some none := by rfl
theorem rX8_answer {x : Int64} : a_ret 107 .lreturn [.long x] = some (some (.long x)) := by rfl
theorem rX9_init : a_ret 108 .return_ [] = some none := by rfl
theorem rX9_feed {x : Int32} : a_ret 109 .ireturn [.int x] = some (some (.int x)) := by rfl
theorem rX9_end (a : Int) (h : a = 0 ∨ a = 1) : a_ret 110 .ireturn [.int (iI a)] = some (some (.int (iI a))) := by rcases h with rfl | rfl <;> rfl
theorem rX9_city {x : Int32} : a_ret 111 .ireturn [.int x] = some (some (.int x)) := by rfl
theorem rX9_fault {x : Int32} : a_ret 112 .ireturn [.int x] = some (some (.int x)) := by rfl
theorem rX9_has {x : Int32} : a_ret 113 .ireturn [.int x] = some (some (.int x)) := by rfl
theorem rX9_letter {x : Int32} : a_ret 114 .ireturn [.int x] = some (some (.int x)) := by rfl
theorem rX9_person {x : Int32} : a_ret 115 .ireturn [.int x] = some (some (.int x)) := by rfl
theorem rX9_points {x : Int32} : a_ret 116 .ireturn [.int x] = some (some (.int x)) := by rfl
theorem rX9_could {x : Int32} : a_ret 117 .ireturn [.int x] = some (some (.int x)) := by rfl
theorem rX9_kept {x : Int32} : a_ret 118 .ireturn [.int x] = some (some (.int x)) := by rfl
theorem rX9_wave {x : Int32} : a_ret 119 .ireturn [.int x] = some (some (.int x)) := by rfl
theorem rX9_would {x : Int32} : a_ret 120 .ireturn [.int x] = some (some (.int x)) := by rfl
theorem rX9_first {x : Int32} : a_ret 121 .ireturn [.int x] = some (some (.int x)) := by rfl
theorem rX9_best {x : Int32} : a_ret 122 .ireturn [.int x] = some (some (.int x)) := by rfl
theorem rX9_study {x : Int32} : a_ret 123 .ireturn [.int x] = some (some (.int x)) := by rfl
theorem rX9_change {x : Int32} : a_ret 124 .ireturn [.int x] = some (some (.int x)) := by rfl
theorem rX9_ring {x : Int32} : a_ret 125 .ireturn [.int x] = some (some (.int x)) := by rfl
theorem rX9_odds {x : Int32} : a_ret 126 .ireturn [.int x] = some (some (.int x)) := by rfl
theorem rX9_go {x : Int32} : a_ret 127 .ireturn [.int x] = some (some (.int x)) := by rfl
theorem rX9_call {x : Int32} : a_ret 128 .ireturn [.int x] = some (some (.int x)) := by rfl
theorem rX9_watch (a : Int) (h : a = 0 ∨ a = 1) : a_ret 129 .ireturn [.int (iI a)] = some (some (.int (iI a))) := by rcases h with rfl | rfl <;> rfl
theorem rX9_teach {x : Int32} : a_ret 130 .ireturn [.int x] = some (some (.int x)) := by rfl
theorem rX9_bells {x : Int32} : a_ret 131 .ireturn [.int x] = some (some (.int x)) := by rfl
theorem rX9_undo (a : Int) (h : a = 0 ∨ a = 1) : a_ret 132 .ireturn [.int (iI a)] = some (some (.int (iI a))) := by rcases h with rfl | rfl <;> rfl
theorem rX9_seed (a : Int) (h : a = 0 ∨ a = 1) : a_ret 133 .ireturn [.int (iI a)] = some (some (.int (iI a))) := by rcases h with rfl | rfl <;> rfl
theorem rX9_slips {x : Int32} : a_ret 134 .ireturn [.int x] = some (some (.int x)) := by rfl
theorem rX9_who {x : Int32} : a_ret 135 .ireturn [.int x] = some (some (.int x)) := by rfl
theorem rX9_ask {x : Int64} : a_ret 136 .lreturn [.long x] = some (some (.long x)) := by rfl
theorem rX9_image {x : Int32} : a_ret 137 .ireturn [.int x] = some (some (.int x)) := by rfl
theorem rX9_octet {x : Int32} : a_ret 138 .ireturn [.int x] = some (some (.int x)) := by rfl
theorem rX9_on (a : Int) (h : a = 0 ∨ a = 1) : a_ret 139 .ireturn [.int (iI a)] = some (some (.int (iI a))) := by rcases h with rfl | rfl <;> rfl
theorem rX9_status {x : Int32} : a_ret 140 .ireturn [.int x] = some (some (.int x)) := by rfl
theorem rX9_refuse {x : Int32} : a_ret 141 .ireturn [.int x] = some (some (.int x)) := by rfl
theorem rX9_isPerson (a : Int) (h : a = 0 ∨ a = 1) : a_ret 142 .ireturn [.int (iI a)] = some (some (.int (iI a))) := by rcases h with rfl | rfl <;> rfl
theorem rX9_isTask (a : Int) (h : a = 0 ∨ a = 1) : a_ret 143 .ireturn [.int (iI a)] = some (some (.int (iI a))) := by rcases h with rfl | rfl <;> rfl
theorem rX9_isClock (a : Int) (h : a = 0 ∨ a = 1) : a_ret 144 .ireturn [.int (iI a)] = some (some (.int (iI a))) := by rcases h with rfl | rfl <;> rfl
theorem rX9_isHere (a : Int) (h : a = 0 ∨ a = 1) : a_ret 145 .ireturn [.int (iI a)] = some (some (.int (iI a))) := by rcases h with rfl | rfl <;> rfl
theorem rX9_feedNumber : a_ret 146 .return_ [] = some none := by rfl
theorem rX9_countAway {x : Int32} : a_ret 147 .ireturn [.int x] = some (some (.int x)) := by rfl
theorem rX9_countElsewhere {x : Int32} : a_ret 148 .ireturn [.int x] = some (some (.int x)) := by rfl
theorem rX9_bring : a_ret 149 .return_ [] = some none := by rfl
theorem rX9_hoursTillNoon {x : Int32} : a_ret 150 .ireturn [.int x] = some (some (.int x)) := by rfl
theorem rX9_ringBell : a_ret 151 .return_ [] = some none := by rfl
theorem rX9_areSlips (a : Int) (h : a = 0 ∨ a = 1) : a_ret 152 .ireturn [.int (iI a)] = some (some (.int (iI a))) := by rcases h with rfl | rfl <;> rfl
theorem rX9_fitsSlips (a : Int) (h : a = 0 ∨ a = 1) : a_ret 153 .ireturn [.int (iI a)] = some (some (.int (iI a))) := by rcases h with rfl | rfl <;> rfl
theorem rX9_answer {x : Int64} : a_ret 154 .lreturn [.long x] = some (some (.long x)) := by rfl
theorem rX9_checkOf {x : Int32} : a_ret 155 .ireturn [.int x] = some (some (.int x)) := by rfl
theorem rX9_isImage (a : Int) (h : a = 0 ∨ a = 1) : a_ret 156 .ireturn [.int (iI a)] = some (some (.int (iI a))) := by rcases h with rfl | rfl <;> rfl
theorem rX9_takeImage : a_ret 157 .return_ [] = some none := by rfl
theorem rX10_init : a_ret 158 .return_ [] = some none := by rfl
theorem rX10_isIn (a : Int) (h : a = 0 ∨ a = 1) : a_ret 159 .ireturn [.int (iI a)] = some (some (.int (iI a))) := by rcases h with rfl | rfl <;> rfl
theorem rX10_feed {x : Int32} : a_ret 160 .ireturn [.int x] = some (some (.int x)) := by rfl
theorem rX10_end (a : Int) (h : a = 0 ∨ a = 1) : a_ret 161 .ireturn [.int (iI a)] = some (some (.int (iI a))) := by rcases h with rfl | rfl <;> rfl
theorem rX10_fail : a_ret 162 .return_ [] = some none := by rfl
theorem rX10_isLetter (a : Int) (h : a = 0 ∨ a = 1) : a_ret 163 .ireturn [.int (iI a)] = some (some (.int (iI a))) := by rcases h with rfl | rfl <;> rfl
theorem rX10_isDigit (a : Int) (h : a = 0 ∨ a = 1) : a_ret 164 .ireturn [.int (iI a)] = some (some (.int (iI a))) := by rcases h with rfl | rfl <;> rfl
theorem rX10_look {x : Int32} : a_ret 165 .ireturn [.int x] = some (some (.int x)) := by rfl
theorem rX10_isHere (a : Int) (h : a = 0 ∨ a = 1) : a_ret 166 .ireturn [.int (iI a)] = some (some (.int (iI a))) := by rcases h with rfl | rfl <;> rfl
theorem rX10_takes (a : Int) (h : a = 0 ∨ a = 1) : a_ret 167 .ireturn [.int (iI a)] = some (some (.int (iI a))) := by rcases h with rfl | rfl <;> rfl
theorem rX10_asks : a_ret 168 .return_ [] = some none := by rfl
theorem rX10_takesSign (a : Int) (h : a = 0 ∨ a = 1) : a_ret 169 .ireturn [.int (iI a)] = some (some (.int (iI a))) := by rcases h with rfl | rfl <;> rfl
theorem rX10_asksSign : a_ret 170 .return_ [] = some none := by rfl
theorem rX10_number {x : Int32} : a_ret 171 .ireturn [.int x] = some (some (.int x)) := by rfl
theorem rX10_isOwnHere (a : Int) (h : a = 0 ∨ a = 1) : a_ret 172 .ireturn [.int (iI a)] = some (some (.int (iI a))) := by rcases h with rfl | rfl <;> rfl
theorem rX10_name {x : Int64} : a_ret 173 .lreturn [.long x] = some (some (.long x)) := by rfl
theorem rX10_isAllowed (a : Int) (h : a = 0 ∨ a = 1) : a_ret 174 .ireturn [.int (iI a)] = some (some (.int (iI a))) := by rcases h with rfl | rfl <;> rfl
theorem rX10_isFull (a : Int) (h : a = 0 ∨ a = 1) : a_ret 175 .ireturn [.int (iI a)] = some (some (.int (iI a))) := by rcases h with rfl | rfl <;> rfl
theorem rX10_nameOf {x : Int32} : a_ret 176 .ireturn [.int x] = some (some (.int x)) := by rfl
theorem rX10_newName {x : Int64} : a_ret 177 .lreturn [.long x] = some (some (.long x)) := by rfl
theorem rX10_oneOf {x : Int32} : a_ret 178 .ireturn [.int x] = some (some (.int x)) := by rfl
theorem rX10_personTold : a_ret 179 .return_ [] = some none := by rfl
theorem rX10_taskTold : a_ret 180 .return_ [] = some none := by rfl
theorem rX10_dutyTold : a_ret 181 .return_ [] = some none := by rfl
theorem rX10_coverTold : a_ret 182 .return_ [] = some none := by rfl
theorem rX10_knownTold : a_ret 183 .return_ [] = some none := by rfl
theorem rX10_codesTold : a_ret 184 .return_ [] = some none := by rfl
theorem rX10_statementTold : a_ret 185 .return_ [] = some none := by rfl
theorem rX10_city {x : Int32} : a_ret 186 .ireturn [.int x] = some (some (.int x)) := by rfl
theorem rX10_stands : a_ret 187 .return_ [] = some none := by rfl
theorem rX10_fault {x : Int32} : a_ret 188 .ireturn [.int x] = some (some (.int x)) := by rfl
theorem rX10_peopleMany {x : Int32} : a_ret 189 .ireturn [.int x] = some (some (.int x)) := by rfl
theorem rX10_dutyMany {x : Int32} : a_ret 190 .ireturn [.int x] = some (some (.int x)) := by rfl
theorem rX10_isPerson (a : Int) (h : a = 0 ∨ a = 1) : a_ret 191 .ireturn [.int (iI a)] = some (some (.int (iI a))) := by rcases h with rfl | rfl <;> rfl
theorem rX10_wardOf {x : Int32} : a_ret 192 .ireturn [.int x] = some (some (.int x)) := by rfl
theorem rX10_hardOf {x : Int32} : a_ret 193 .ireturn [.int x] = some (some (.int x)) := by rfl
theorem rX10_dutyOf {x : Int32} : a_ret 194 .ireturn [.int x] = some (some (.int x)) := by rfl
theorem rX10_livesNow {x : Int32} : a_ret 195 .ireturn [.int x] = some (some (.int x)) := by rfl
theorem rX10_liveNow : a_ret 196 .return_ [] = some none := by rfl
theorem rX10_watches {x : Int32} : a_ret 197 .ireturn [.int x] = some (some (.int x)) := by rfl
theorem rX10_pointsOf {x : Int32} : a_ret 198 .ireturn [.int x] = some (some (.int x)) := by rfl
theorem rX10_knowsNow : a_ret 199 .return_ [] = some none := by rfl
theorem rX10_whoLives {x : Int32} : a_ret 200 .ireturn [.int x] = some (some (.int x)) := by rfl
theorem rX10_putsAside : a_ret 201 .return_ [] = some none := by rfl
theorem rX10_takesBack : a_ret 202 .return_ [] = some none := by rfl
theorem rX10_codesTell {x : Int64} : a_ret 203 .lreturn [.long x] = some (some (.long x)) := by rfl
theorem rX10_made {x : Int32} : a_ret 204 .ireturn [.int x] = some (some (.int x)) := by rfl
theorem rX10_canBy (a : Int) (h : a = 0 ∨ a = 1) : a_ret 205 .ireturn [.int (iI a)] = some (some (.int (iI a))) := by rcases h with rfl | rfl <;> rfl
theorem rX10_canDo (a : Int) (h : a = 0 ∨ a = 1) : a_ret 206 .ireturn [.int (iI a)] = some (some (.int (iI a))) := by rcases h with rfl | rfl <;> rfl
theorem rX10_notices (a : Int) (h : a = 0 ∨ a = 1) : a_ret 207 .ireturn [.int (iI a)] = some (some (.int (iI a))) := by rcases h with rfl | rfl <;> rfl
theorem rX10_clearsDried : a_ret 208 .return_ [] = some none := by rfl
theorem rX10_happens : a_ret 209 .return_ [] = some none := by rfl
theorem rX10_nightComes : a_ret 210 .return_ [] = some none := by rfl
theorem rX10_dutyComes : a_ret 211 .return_ [] = some none := by rfl
theorem rX10_hasDuty (a : Int) (h : a = 0 ∨ a = 1) : a_ret 212 .ireturn [.int (iI a)] = some (some (.int (iI a))) := by rcases h with rfl | rfl <;> rfl
theorem rX10_hourComes : a_ret 213 .return_ [] = some none := by rfl
theorem rX10_hoursCome : a_ret 214 .return_ [] = some none := by rfl
theorem rX10_isCalled : a_ret 215 .return_ [] = some none := by rfl
theorem rX10_countOf {x : Int32} : a_ret 216 .ireturn [.int x] = some (some (.int x)) := by rfl
theorem rX10_has {x : Int32} : a_ret 217 .ireturn [.int x] = some (some (.int x)) := by rfl
theorem rX10_letter {x : Int32} : a_ret 218 .ireturn [.int x] = some (some (.int x)) := by rfl
theorem rX10_dutiesOf {x : Int32} : a_ret 219 .ireturn [.int x] = some (some (.int x)) := by rfl
theorem rX10_person {x : Int32} : a_ret 220 .ireturn [.int x] = some (some (.int x)) := by rfl
theorem rX10_points {x : Int32} : a_ret 221 .ireturn [.int x] = some (some (.int x)) := by rfl
theorem rX10_isTask (a : Int) (h : a = 0 ∨ a = 1) : a_ret 222 .ireturn [.int (iI a)] = some (some (.int (iI a))) := by rcases h with rfl | rfl <;> rfl
theorem rX10_could {x : Int32} : a_ret 223 .ireturn [.int x] = some (some (.int x)) := by rfl
theorem rX10_kept {x : Int32} : a_ret 224 .ireturn [.int x] = some (some (.int x)) := by rfl
theorem rX10_isHere0 (a : Int) (h : a = 0 ∨ a = 1) : a_ret 225 .ireturn [.int (iI a)] = some (some (.int (iI a))) := by rcases h with rfl | rfl <;> rfl
theorem rX10_wave {x : Int32} : a_ret 226 .ireturn [.int x] = some (some (.int x)) := by rfl
theorem rX10_least {x : Int32} : a_ret 227 .ireturn [.int x] = some (some (.int x)) := by rfl
theorem rX10_would {x : Int32} : a_ret 228 .ireturn [.int x] = some (some (.int x)) := by rfl
theorem rX10_first {x : Int32} : a_ret 229 .ireturn [.int x] = some (some (.int x)) := by rfl
theorem rX10_doable {x : Int32} : a_ret 230 .ireturn [.int x] = some (some (.int x)) := by rfl
theorem rX10_best {x : Int32} : a_ret 231 .ireturn [.int x] = some (some (.int x)) := by rfl
theorem rX10_study {x : Int32} : a_ret 232 .ireturn [.int x] = some (some (.int x)) := by rfl
theorem rX10_laysChange : a_ret 233 .return_ [] = some none := by rfl
theorem rX10_change {x : Int32} : a_ret 234 .ireturn [.int x] = some (some (.int x)) := by rfl
theorem rX10_ring {x : Int32} : a_ret 235 .ireturn [.int x] = some (some (.int x)) := by rfl
theorem rX10_odds {x : Int32} : a_ret 236 .ireturn [.int x] = some (some (.int x)) := by rfl
theorem rX10_keeps : a_ret 237 .return_ [] = some none := by rfl
theorem rX10_undo (a : Int) (h : a = 0 ∨ a = 1) : a_ret 238 .ireturn [.int (iI a)] = some (some (.int (iI a))) := by rcases h with rfl | rfl <;> rfl
theorem rX10_refuses {x : Int32} : a_ret 239 .ireturn [.int x] = some (some (.int x)) := by rfl
theorem rX10_go {x : Int32} : a_ret 240 .ireturn [.int x] = some (some (.int x)) := by rfl
theorem rX10_call {x : Int32} : a_ret 241 .ireturn [.int x] = some (some (.int x)) := by rfl
theorem rX10_watch (a : Int) (h : a = 0 ∨ a = 1) : a_ret 242 .ireturn [.int (iI a)] = some (some (.int (iI a))) := by rcases h with rfl | rfl <;> rfl
theorem rX10_teach {x : Int32} : a_ret 243 .ireturn [.int x] = some (some (.int x)) := by rfl
theorem rX10_seed (a : Int) (h : a = 0 ∨ a = 1) : a_ret 244 .ireturn [.int (iI a)] = some (some (.int (iI a))) := by rcases h with rfl | rfl <;> rfl
theorem rX10_drawOf {x : Int32} : a_ret 245 .ireturn [.int x] = some (some (.int x)) := by rfl
theorem rX10_bellRings : a_ret 246 .return_ [] = some none := by rfl
theorem rX10_tillNoon {x : Int32} : a_ret 247 .ireturn [.int x] = some (some (.int x)) := by rfl
theorem rX10_bells {x : Int32} : a_ret 248 .ireturn [.int x] = some (some (.int x)) := by rfl
theorem rX10_slips {x : Int32} : a_ret 249 .ireturn [.int x] = some (some (.int x)) := by rfl
theorem rX10_isAsSlips (a : Int) (h : a = 0 ∨ a = 1) : a_ret 250 .ireturn [.int (iI a)] = some (some (.int (iI a))) := by rcases h with rfl | rfl <;> rfl
theorem rX10_who {x : Int32} : a_ret 251 .ireturn [.int x] = some (some (.int x)) := by rfl
theorem rX10_qCode : a_ret 252 .return_ [] = some none := by rfl
theorem rX10_qOpens : a_ret 253 .return_ [] = some none := by rfl
theorem rX10_qIsOn (a : Int) (h : a = 0 ∨ a = 1) : a_ret 254 .ireturn [.int (iI a)] = some (some (.int (iI a))) := by rcases h with rfl | rfl <;> rfl
theorem rX10_qDrops : a_ret 255 .return_ [] = some none := by rfl
theorem rX10_qIsBracket (a : Int) (h : a = 0 ∨ a = 1) : a_ret 256 .ireturn [.int (iI a)] = some (some (.int (iI a))) := by rcases h with rfl | rfl <;> rfl
theorem rX10_qBracket {x : Int32} : a_ret 257 .ireturn [.int x] = some (some (.int x)) := by rfl
theorem rX10_qDropsToBracket : a_ret 258 .return_ [] = some none := by rfl
theorem rX10_qWordHere {x : Int32} : a_ret 259 .ireturn [.int x] = some (some (.int x)) := by rfl
theorem rX10_qWordOf {x : Int32} : a_ret 260 .ireturn [.int x] = some (some (.int x)) := by rfl
theorem rX10_qAsksWord : a_ret 261 .return_ [] = some none := by rfl
theorem rX10_qEndsPart : a_ret 262 .return_ [] = some none := by rfl
theorem rX10_qPartTold : a_ret 263 .return_ [] = some none := by rfl
theorem rX10_qGoesOn (a : Int) (h : a = 0 ∨ a = 1) : a_ret 264 .ireturn [.int (iI a)] = some (some (.int (iI a))) := by rcases h with rfl | rfl <;> rfl
theorem rX10_qSums : a_ret 265 .return_ [] = some none := by rfl
theorem rX10_qFact : a_ret 266 .return_ [] = some none := by rfl
theorem rX10_qHasSquare (a : Int) (h : a = 0 ∨ a = 1) : a_ret 267 .ireturn [.int (iI a)] = some (some (.int (iI a))) := by rcases h with rfl | rfl <;> rfl
theorem rX10_qDropsNots : a_ret 268 .return_ [] = some none := by rfl
theorem rX10_qTest : a_ret 269 .return_ [] = some none := by rfl
theorem rX10_qGoesOnTest (a : Int) (h : a = 0 ∨ a = 1) : a_ret 270 .ireturn [.int (iI a)] = some (some (.int (iI a))) := by rcases h with rfl | rfl <;> rfl
theorem rX10_qClip {x : Int64} : a_ret 271 .lreturn [.long x] = some (some (.long x)) := by rfl
theorem rX10_qFloor {x : Int64} : a_ret 272 .lreturn [.long x] = some (some (.long x)) := by rfl
theorem rX10_qPuts : a_ret 273 .return_ [] = some none := by rfl
theorem rX10_qJoins : a_ret 274 .return_ [] = some none := by rfl
theorem rX10_qPartOf {x : Int64} : a_ret 275 .lreturn [.long x] = some (some (.long x)) := by rfl
theorem rX10_qOf {x : Int64} : a_ret 276 .lreturn [.long x] = some (some (.long x)) := by rfl
theorem rX10_qTold {x : Int64} : a_ret 277 .lreturn [.long x] = some (some (.long x)) := by rfl
theorem rX10_qKind {x : Int32} : a_ret 278 .ireturn [.int x] = some (some (.int x)) := by rfl
theorem rX10_qTakes : a_ret 279 .return_ [] = some none := by rfl
theorem rX10_ask {x : Int64} : a_ret 280 .lreturn [.long x] = some (some (.long x)) := by rfl
theorem rX10_checked {x : Int32} : a_ret 281 .ireturn [.int x] = some (some (.int x)) := by rfl
theorem rX10_writes : a_ret 282 .return_ [] = some none := by rfl
theorem rX10_image {x : Int32} : a_ret 283 .ireturn [.int x] = some (some (.int x)) := by rfl
theorem rX10_octet {x : Int32} : a_ret 284 .ireturn [.int x] = some (some (.int x)) := by rfl
theorem rX10_isPersonTold (a : Int) (h : a = 0 ∨ a = 1) : a_ret 285 .ireturn [.int (iI a)] = some (some (.int (iI a))) := by rcases h with rfl | rfl <;> rfl
theorem rX10_isTold (a : Int) (h : a = 0 ∨ a = 1) : a_ret 286 .ireturn [.int (iI a)] = some (some (.int (iI a))) := by rcases h with rfl | rfl <;> rfl
theorem rX10_on (a : Int) (h : a = 0 ∨ a = 1) : a_ret 287 .ireturn [.int (iI a)] = some (some (.int (iI a))) := by rcases h with rfl | rfl <;> rfl
theorem rX10_status {x : Int32} : a_ret 288 .ireturn [.int x] = some (some (.int x)) := by rfl
theorem rM_max {x : Int32} : a_ret 289 .ireturn [.int x] = some (some (.int x)) := by rfl
theorem rM_min {x : Int32} : a_ret 290 .ireturn [.int x] = some (some (.int x)) := by rfl
theorem rJ9_floorDiv_7cf53 {x : Int32} : a_ret 293 .ireturn [.int x] = some (some (.int x)) := by rfl
theorem rJ9_floorMod_7cf53 {x : Int32} : a_ret 294 .ireturn [.int x] = some (some (.int x)) := by rfl
theorem rJ6_bitCount_0f7a4 {x : Int32} : a_ret 295 .ireturn [.int x] = some (some (.int x)) := by rfl
theorem rJ0_length_8abf5 {x : Int32} : a_ret 296 .ireturn [.int x] = some (some (.int x)) := by rfl
theorem rJ0_isLatin1_aae02 (a : Int) (h : a = 0 ∨ a = 1) : a_ret 299 .ireturn [.int (iI a)] = some (some (.int (iI a))) := by rcases h with rfl | rfl <;> rfl
theorem rJ0_checkIndex_df160 : a_ret 300 .return_ [] = some none := by rfl
theorem rJ3_checkIndex_8e157 {x : Int32} : a_ret 302 .ireturn [.int x] = some (some (.int x)) := by rfl

