theorem pn_X13_feuds : plainFor yX13_feuds = true := by decide +kernel
theorem mc_X13_feuds : Cond.code yX13_feuds cX13_feuds 4 none ∈ lwG := lwc_7 151 rfl (by decide +kernel)
theorem mi_X13_feuds : Cond.instanceMethod yX13_feuds ∈ lwG := lwc_7 150 (by decide +kernel) (by decide +kernel)
theorem ms_X13_feuds : Cond.selects RX13 yX13_feuds yX13_feuds ∈ lwG := lwG_of 73 (by decide +kernel) (by decide +kernel)
abbrev M_X13_walling : MI := (yX13_walling, cX13_walling, 2, none)
theorem pn_X13_walling : plainFor yX13_walling = true := by decide +kernel
theorem mc_X13_walling : Cond.code yX13_walling cX13_walling 2 none ∈ lwG := lwc_7 159 rfl (by decide +kernel)
theorem mi_X13_walling : Cond.instanceMethod yX13_walling ∈ lwG := lwc_7 158 (by decide +kernel) (by decide +kernel)
theorem ms_X13_walling : Cond.selects RX13 yX13_walling yX13_walling ∈ lwG := lwG_of 75 (by decide +kernel) (by decide +kernel)
abbrev M_X13_reading : MI := (yX13_reading, cX13_reading, 3, none)
theorem pn_X13_reading : plainFor yX13_reading = true := by decide +kernel
theorem mc_X13_reading : Cond.code yX13_reading cX13_reading 3 none ∈ lwG := lwc_7 163 rfl (by decide +kernel)
theorem mi_X13_reading : Cond.instanceMethod yX13_reading ∈ lwG := lwc_7 162 (by decide +kernel) (by decide +kernel)
theorem ms_X13_reading : Cond.selects RX13 yX13_reading yX13_reading ∈ lwG := lwG_of 76 (by decide +kernel) (by decide +kernel)
abbrev M_X13_telling : MI := (yX13_telling, cX13_telling, 5, none)
theorem pn_X13_telling : plainFor yX13_telling = true := by decide +kernel
theorem mc_X13_telling : Cond.code yX13_telling cX13_telling 5 none ∈ lwG := lwc_7 213 rfl (by decide +kernel)
theorem mi_X13_telling : Cond.instanceMethod yX13_telling ∈ lwG := lwc_7 212 (by decide +kernel) (by decide +kernel)
theorem ms_X13_telling : Cond.selects RX13 yX13_telling yX13_telling ∈ lwG := lwG_of 87 (by decide +kernel) (by decide +kernel)
abbrev M_X13_raising : MI := (yX13_raising, cX13_raising, 3, none)
theorem pn_X13_raising : plainFor yX13_raising = true := by decide +kernel
theorem mc_X13_raising : Cond.code yX13_raising cX13_raising 3 none ∈ lwG := lwc_7 209 rfl (by decide +kernel)
theorem mi_X13_raising : Cond.instanceMethod yX13_raising ∈ lwG := lwc_7 208 (by decide +kernel) (by decide +kernel)
theorem ms_X13_raising : Cond.selects RX13 yX13_raising yX13_raising ∈ lwG := lwG_of 86 (by decide +kernel) (by decide +kernel)
abbrev M_X13_statement : MI := (yX13_statement, cX13_statement, 1, none)
theorem pn_X13_statement : plainFor yX13_statement = true := by decide +kernel
theorem mc_X13_statement : Cond.code yX13_statement cX13_statement 1 none ∈ lwG := lwc_7 46 rfl (by decide +kernel)
theorem mi_X13_statement : Cond.instanceMethod yX13_statement ∈ lwG := lwc_7 45 (by decide +kernel) (by decide +kernel)
theorem ms_X13_statement : Cond.selects RX13 yX13_statement yX13_statement ∈ lwG := lwG_of 56 (by decide +kernel) (by decide +kernel)
abbrev M_X13_finishes : MI := (yX13_finishes, cX13_finishes, 3, none)
theorem pn_X13_finishes : plainFor yX13_finishes = true := by decide +kernel
theorem mc_X13_finishes : Cond.code yX13_finishes cX13_finishes 3 none ∈ lwG := lwc_7 217 rfl (by decide +kernel)
theorem mi_X13_finishes : Cond.instanceMethod yX13_finishes ∈ lwG := lwc_7 216 (by decide +kernel) (by decide +kernel)
theorem ms_X13_finishes : Cond.selects RX13 yX13_finishes yX13_finishes ∈ lwG := lwG_of 88 (by decide +kernel) (by decide +kernel)
abbrev M_X13_begin : MI := (yX13_begin, cX13_begin, 2, none)
theorem pn_X13_begin : plainFor yX13_begin = true := by decide +kernel
theorem mc_X13_begin : Cond.code yX13_begin cX13_begin 2 none ∈ lwG := lwc_7 225 rfl (by decide +kernel)
theorem mi_X13_begin : Cond.instanceMethod yX13_begin ∈ lwG := lwc_7 224 (by decide +kernel) (by decide +kernel)
theorem ms_X13_begin : Cond.selects RX13 yX13_begin yX13_begin ∈ lwG := lwG_of 90 (by decide +kernel) (by decide +kernel)
abbrev M_X13_town : MI := (yX13_town, cX13_town, 2, (some .int))
theorem pn_X13_town : plainFor yX13_town = true := by decide +kernel
theorem mc_X13_town : Cond.code yX13_town cX13_town 2 (some .int) ∈ lwG := lwc_7 32 rfl (by decide +kernel)
theorem mi_X13_town : Cond.instanceMethod yX13_town ∈ lwG := lwc_7 30 (by decide +kernel) (by decide +kernel)
theorem ms_X13_town : Cond.selects RX13 yX13_town yX13_town ∈ lwG := lwc_7 31 (by decide +kernel) (by decide +kernel)
abbrev M_X13_fault : MI := (yX13_fault, cX13_fault, 2, (some .int))
theorem pn_X13_fault : plainFor yX13_fault = true := by decide +kernel
theorem mc_X13_fault : Cond.code yX13_fault cX13_fault 2 (some .int) ∈ lwG := lwc_7 229 rfl (by decide +kernel)
theorem mi_X13_fault : Cond.instanceMethod yX13_fault ∈ lwG := lwc_7 227 (by decide +kernel) (by decide +kernel)
theorem ms_X13_fault : Cond.selects RX13 yX13_fault yX13_fault ∈ lwG := lwc_7 228 (by decide +kernel) (by decide +kernel)
abbrev M_X13_status : MI := (yX13_status, cX13_status, 2, (some .int))
theorem pn_X13_status : plainFor yX13_status = true := by decide +kernel
theorem mc_X13_status : Cond.code yX13_status cX13_status 2 (some .int) ∈ lwG := lwc_7 233 rfl (by decide +kernel)
theorem mi_X13_status : Cond.instanceMethod yX13_status ∈ lwG := lwc_7 231 (by decide +kernel) (by decide +kernel)
theorem ms_X13_status : Cond.selects RX13 yX13_status yX13_status ∈ lwG := lwc_7 232 (by decide +kernel) (by decide +kernel)
abbrev M_X13_copies : MI := (yX13_copies, cX13_copies, 4, none)
theorem pn_X13_copies : plainFor yX13_copies = true := by decide +kernel
theorem mc_X13_copies : Cond.code yX13_copies cX13_copies 4 none ∈ lwG := lwc_8 5 rfl (by decide +kernel)
theorem mi_X13_copies : Cond.instanceMethod yX13_copies ∈ lwG := lwc_8 4 (by decide +kernel) (by decide +kernel)
theorem ms_X13_copies : Cond.selects RX13 yX13_copies yX13_copies ∈ lwG := lwG_of 92 (by decide +kernel) (by decide +kernel)
abbrev M_X13_slot : MI := (yX13_slot, cX13_slot, 2, (some .int))
theorem pn_X13_slot : plainFor yX13_slot = true := by decide +kernel
theorem mc_X13_slot : Cond.code yX13_slot cX13_slot 2 (some .int) ∈ lwG := lwc_8 1 rfl (by decide +kernel)
theorem mi_X13_slot : Cond.instanceMethod yX13_slot ∈ lwG := lwc_8 0 (by decide +kernel) (by decide +kernel)
theorem ms_X13_slot : Cond.selects RX13 yX13_slot yX13_slot ∈ lwG := lwG_of 91 (by decide +kernel) (by decide +kernel)
abbrev M_X13_keeps : MI := (yX13_keeps, cX13_keeps, 1, none)
theorem pn_X13_keeps : plainFor yX13_keeps = true := by decide +kernel
theorem mc_X13_keeps : Cond.code yX13_keeps cX13_keeps 1 none ∈ lwG := lwc_9 39 rfl (by decide +kernel)
theorem mi_X13_keeps : Cond.instanceMethod yX13_keeps ∈ lwG := lwc_9 38 (by decide +kernel) (by decide +kernel)
theorem ms_X13_keeps : Cond.selects RX13 yX13_keeps yX13_keeps ∈ lwG := lwG_of 138 (by decide +kernel) (by decide +kernel)
abbrev M_X13_undo : MI := (yX13_undo, cX13_undo, 1, (some .boolean))
theorem pn_X13_undo : plainFor yX13_undo = true := by decide +kernel
theorem mc_X13_undo : Cond.code yX13_undo cX13_undo 1 (some .boolean) ∈ lwG := lwc_7 237 rfl (by decide +kernel)
theorem mi_X13_undo : Cond.instanceMethod yX13_undo ∈ lwG := lwc_7 235 (by decide +kernel) (by decide +kernel)
theorem ms_X13_undo : Cond.selects RX13 yX13_undo yX13_undo ∈ lwG := lwc_7 236 (by decide +kernel) (by decide +kernel)
abbrev M_X13_held : MI := (yX13_held, cX13_held, 2, (some .long))
theorem pn_X13_held : plainFor yX13_held = true := by decide +kernel
theorem mc_X13_held : Cond.code yX13_held cX13_held 2 (some .long) ∈ lwG := lwc_8 155 rfl (by decide +kernel)
theorem mi_X13_held : Cond.static yX13_held ∈ lwG := lwc_8 154 (by decide +kernel) (by decide +kernel)
abbrev M_X13_floor : MI := (yX13_floor, cX13_floor, 6, (some .long))
theorem pn_X13_floor : plainFor yX13_floor = true := by decide +kernel
theorem mc_X13_floor : Cond.code yX13_floor cX13_floor 6 (some .long) ∈ lwG := lwc_8 160 rfl (by decide +kernel)
theorem mi_X13_floor : Cond.static yX13_floor ∈ lwG := lwc_8 159 (by decide +kernel) (by decide +kernel)
abbrev M_X13_two : MI := (yX13_two, cX13_two, 5, (some .long))
theorem pn_X13_two : plainFor yX13_two = true := by decide +kernel
theorem mc_X13_two : Cond.code yX13_two cX13_two 5 (some .long) ∈ lwG := lwc_8 152 rfl (by decide +kernel)
theorem mi_X13_two : Cond.static yX13_two ∈ lwG := lwc_8 151 (by decide +kernel) (by decide +kernel)
abbrev M_X13_reckons : MI := (yX13_reckons, cX13_reckons, 5, (some .long))
theorem pn_X13_reckons : plainFor yX13_reckons = true := by decide +kernel
theorem mc_X13_reckons : Cond.code yX13_reckons cX13_reckons 5 (some .long) ∈ lwG := lwc_8 149 rfl (by decide +kernel)
theorem mi_X13_reckons : Cond.instanceMethod yX13_reckons ∈ lwG := lwc_8 148 (by decide +kernel) (by decide +kernel)
theorem ms_X13_reckons : Cond.selects RX13 yX13_reckons yX13_reckons ∈ lwG := lwG_of 119 (by decide +kernel) (by decide +kernel)
abbrev M_X13_isTold : MI := (yX13_isTold, cX13_isTold, 2, (some .boolean))
theorem pn_X13_isTold : plainFor yX13_isTold = true := by decide +kernel
theorem mc_X13_isTold : Cond.code yX13_isTold cX13_isTold 2 (some .boolean) ∈ lwG := lwc_8 145 rfl (by decide +kernel)
theorem mi_X13_isTold : Cond.instanceMethod yX13_isTold ∈ lwG := lwc_8 144 (by decide +kernel) (by decide +kernel)
theorem ms_X13_isTold : Cond.selects RX13 yX13_isTold yX13_isTold ∈ lwG := lwG_of 118 (by decide +kernel) (by decide +kernel)
abbrev M_X13_tells : MI := (yX13_tells, cX13_tells, 5, none)
theorem pn_X13_tells : plainFor yX13_tells = true := by decide +kernel
theorem mc_X13_tells : Cond.code yX13_tells cX13_tells 5 none ∈ lwG := lwc_8 141 rfl (by decide +kernel)
theorem mi_X13_tells : Cond.instanceMethod yX13_tells ∈ lwG := lwc_8 140 (by decide +kernel) (by decide +kernel)
theorem ms_X13_tells : Cond.selects RX13 yX13_tells yX13_tells ∈ lwG := lwG_of 117 (by decide +kernel) (by decide +kernel)
abbrev M_X13_raised : MI := (yX13_raised, cX13_raised, 7, (some .int))
theorem pn_X13_raised : plainFor yX13_raised = true := by decide +kernel
theorem mc_X13_raised : Cond.code yX13_raised cX13_raised 7 (some .int) ∈ lwG := lwc_8 137 rfl (by decide +kernel)
theorem mi_X13_raised : Cond.instanceMethod yX13_raised ∈ lwG := lwc_8 136 (by decide +kernel) (by decide +kernel)
theorem ms_X13_raised : Cond.selects RX13 yX13_raised yX13_raised ∈ lwG := lwG_of 116 (by decide +kernel) (by decide +kernel)
abbrev M_X13_born : MI := (yX13_born, cX13_born, 2, (some .int))
theorem pn_X13_born : plainFor yX13_born = true := by decide +kernel
theorem mc_X13_born : Cond.code yX13_born cX13_born 2 (some .int) ∈ lwG := lwc_8 32 rfl (by decide +kernel)
theorem mi_X13_born : Cond.instanceMethod yX13_born ∈ lwG := lwc_8 31 (by decide +kernel) (by decide +kernel)
theorem ms_X13_born : Cond.selects RX13 yX13_born yX13_born ∈ lwG := lwG_of 97 (by decide +kernel) (by decide +kernel)
abbrev M_X13_twin : MI := (yX13_twin, cX13_twin, 2, (some .int))
theorem pn_X13_twin : plainFor yX13_twin = true := by decide +kernel
theorem mc_X13_twin : Cond.code yX13_twin cX13_twin 2 (some .int) ∈ lwG := lwc_8 73 rfl (by decide +kernel)
theorem mi_X13_twin : Cond.instanceMethod yX13_twin ∈ lwG := lwc_8 72 (by decide +kernel) (by decide +kernel)
theorem ms_X13_twin : Cond.selects RX13 yX13_twin yX13_twin ∈ lwG := lwG_of 104 (by decide +kernel) (by decide +kernel)
abbrev M_X13_age : MI := (yX13_age, cX13_age, 3, (some .int))
theorem pn_X13_age : plainFor yX13_age = true := by decide +kernel
theorem mc_X13_age : Cond.code yX13_age cX13_age 3 (some .int) ∈ lwG := lwc_8 28 rfl (by decide +kernel)
theorem mi_X13_age : Cond.instanceMethod yX13_age ∈ lwG := lwc_8 27 (by decide +kernel) (by decide +kernel)
theorem ms_X13_age : Cond.selects RX13 yX13_age yX13_age ∈ lwG := lwG_of 96 (by decide +kernel) (by decide +kernel)
abbrev M_X13_isRaised : MI := (yX13_isRaised, cX13_isRaised, 3, (some .boolean))
theorem pn_X13_isRaised : plainFor yX13_isRaised = true := by decide +kernel
theorem mc_X13_isRaised : Cond.code yX13_isRaised cX13_isRaised 3 (some .boolean) ∈ lwG := lwc_8 85 rfl (by decide +kernel)
theorem mi_X13_isRaised : Cond.instanceMethod yX13_isRaised ∈ lwG := lwc_8 84 (by decide +kernel) (by decide +kernel)
theorem ms_X13_isRaised : Cond.selects RX13 yX13_isRaised yX13_isRaised ∈ lwG := lwG_of 106 (by decide +kernel) (by decide +kernel)
abbrev M_X13_isDone : MI := (yX13_isDone, cX13_isDone, 3, (some .boolean))
theorem pn_X13_isDone : plainFor yX13_isDone = true := by decide +kernel
theorem mc_X13_isDone : Cond.code yX13_isDone cX13_isDone 3 (some .boolean) ∈ lwG := lwc_8 24 rfl (by decide +kernel)
theorem mi_X13_isDone : Cond.instanceMethod yX13_isDone ∈ lwG := lwc_8 23 (by decide +kernel) (by decide +kernel)
theorem ms_X13_isDone : Cond.selects RX13 yX13_isDone yX13_isDone ∈ lwG := lwG_of 95 (by decide +kernel) (by decide +kernel)
abbrev M_X13_inWall : MI := (yX13_inWall, cX13_inWall, 3, (some .int))
theorem pn_X13_inWall : plainFor yX13_inWall = true := by decide +kernel
theorem mc_X13_inWall : Cond.code yX13_inWall cX13_inWall 3 (some .int) ∈ lwG := lwc_8 40 rfl (by decide +kernel)
theorem mi_X13_inWall : Cond.instanceMethod yX13_inWall ∈ lwG := lwc_8 39 (by decide +kernel) (by decide +kernel)
theorem ms_X13_inWall : Cond.selects RX13 yX13_inWall yX13_inWall ∈ lwG := lwG_of 99 (by decide +kernel) (by decide +kernel)
abbrev M_X13_column : MI := (yX13_column, cX13_column, 3, (some .int))
theorem pn_X13_column : plainFor yX13_column = true := by decide +kernel
theorem mc_X13_column : Cond.code yX13_column cX13_column 3 (some .int) ∈ lwG := lwc_8 89 rfl (by decide +kernel)
theorem mi_X13_column : Cond.instanceMethod yX13_column ∈ lwG := lwc_8 88 (by decide +kernel) (by decide +kernel)
theorem ms_X13_column : Cond.selects RX13 yX13_column yX13_column ∈ lwG := lwG_of 107 (by decide +kernel) (by decide +kernel)
abbrev M_X13_course : MI := (yX13_course, cX13_course, 3, (some .int))
theorem pn_X13_course : plainFor yX13_course = true := by decide +kernel
theorem mc_X13_course : Cond.code yX13_course cX13_course 3 (some .int) ∈ lwG := lwc_8 93 rfl (by decide +kernel)
theorem mi_X13_course : Cond.instanceMethod yX13_course ∈ lwG := lwc_8 92 (by decide +kernel) (by decide +kernel)
theorem ms_X13_course : Cond.selects RX13 yX13_course yX13_course ∈ lwG := lwG_of 108 (by decide +kernel) (by decide +kernel)
abbrev M_X13_strong : MI := (yX13_strong, cX13_strong, 3, (some .int))
theorem pn_X13_strong : plainFor yX13_strong = true := by decide +kernel
theorem mc_X13_strong : Cond.code yX13_strong cX13_strong 3 (some .int) ∈ lwG := lwc_8 81 rfl (by decide +kernel)
theorem mi_X13_strong : Cond.instanceMethod yX13_strong ∈ lwG := lwc_8 80 (by decide +kernel) (by decide +kernel)
theorem ms_X13_strong : Cond.selects RX13 yX13_strong yX13_strong ∈ lwG := lwG_of 105 (by decide +kernel) (by decide +kernel)
abbrev M_X13_isOnShelf : MI := (yX13_isOnShelf, cX13_isOnShelf, 3, (some .boolean))
theorem pn_X13_isOnShelf : plainFor yX13_isOnShelf = true := by decide +kernel
theorem mc_X13_isOnShelf : Cond.code yX13_isOnShelf cX13_isOnShelf 3 (some .boolean) ∈ lwG := lwc_8 20 rfl (by decide +kernel)
theorem mi_X13_isOnShelf : Cond.instanceMethod yX13_isOnShelf ∈ lwG := lwc_8 19 (by decide +kernel) (by decide +kernel)
theorem ms_X13_isOnShelf : Cond.selects RX13 yX13_isOnShelf yX13_isOnShelf ∈ lwG := lwG_of 94 (by decide +kernel) (by decide +kernel)
abbrev M_X13_lies : MI := (yX13_lies, cX13_lies, 6, (some .int))
theorem pn_X13_lies : plainFor yX13_lies = true := by decide +kernel
theorem mc_X13_lies : Cond.code yX13_lies cX13_lies 6 (some .int) ∈ lwG := lwc_8 121 rfl (by decide +kernel)
theorem mi_X13_lies : Cond.instanceMethod yX13_lies ∈ lwG := lwc_8 120 (by decide +kernel) (by decide +kernel)
theorem ms_X13_lies : Cond.selects RX13 yX13_lies yX13_lies ∈ lwG := lwG_of 113 (by decide +kernel) (by decide +kernel)
abbrev M_X13_tall : MI := (yX13_tall, cX13_tall, 6, (some .int))
theorem pn_X13_tall : plainFor yX13_tall = true := by decide +kernel
theorem mc_X13_tall : Cond.code yX13_tall cX13_tall 6 (some .int) ∈ lwG := lwc_8 101 rfl (by decide +kernel)
theorem mi_X13_tall : Cond.instanceMethod yX13_tall ∈ lwG := lwc_8 100 (by decide +kernel) (by decide +kernel)
theorem ms_X13_tall : Cond.selects RX13 yX13_tall yX13_tall ∈ lwG := lwG_of 110 (by decide +kernel) (by decide +kernel)
abbrev M_X13_load : MI := (yX13_load, cX13_load, 3, (some .int))
theorem pn_X13_load : plainFor yX13_load = true := by decide +kernel
theorem mc_X13_load : Cond.code yX13_load cX13_load 3 (some .int) ∈ lwG := lwc_8 97 rfl (by decide +kernel)
theorem mi_X13_load : Cond.instanceMethod yX13_load ∈ lwG := lwc_8 96 (by decide +kernel) (by decide +kernel)
theorem ms_X13_load : Cond.selects RX13 yX13_load yX13_load ∈ lwG := lwG_of 109 (by decide +kernel) (by decide +kernel)
abbrev M_X13_bears : MI := (yX13_bears, cX13_bears, 3, (some .int))
theorem pn_X13_bears : plainFor yX13_bears = true := by decide +kernel
theorem mc_X13_bears : Cond.code yX13_bears cX13_bears 3 (some .int) ∈ lwG := lwc_8 105 rfl (by decide +kernel)
theorem mi_X13_bears : Cond.instanceMethod yX13_bears ∈ lwG := lwc_8 104 (by decide +kernel) (by decide +kernel)
theorem ms_X13_bears : Cond.selects RX13 yX13_bears yX13_bears ∈ lwG := lwG_of 111 (by decide +kernel) (by decide +kernel)
abbrev M_X13_holds : MI := (yX13_holds, cX13_holds, 3, (some .boolean))
theorem pn_X13_holds : plainFor yX13_holds = true := by decide +kernel
theorem mc_X13_holds : Cond.code yX13_holds cX13_holds 3 (some .boolean) ∈ lwG := lwc_8 178 rfl (by decide +kernel)
theorem mi_X13_holds : Cond.instanceMethod yX13_holds ∈ lwG := lwc_8 177 (by decide +kernel) (by decide +kernel)
theorem ms_X13_holds : Cond.selects RX13 yX13_holds yX13_holds ∈ lwG := lwG_of 123 (by decide +kernel) (by decide +kernel)
abbrev M_X13_allHold : MI := (yX13_allHold, cX13_allHold, 4, (some .boolean))
theorem pn_X13_allHold : plainFor yX13_allHold = true := by decide +kernel
theorem mc_X13_allHold : Cond.code yX13_allHold cX13_allHold 4 (some .boolean) ∈ lwG := lwc_8 202 rfl (by decide +kernel)
theorem mi_X13_allHold : Cond.instanceMethod yX13_allHold ∈ lwG := lwc_8 201 (by decide +kernel) (by decide +kernel)
theorem ms_X13_allHold : Cond.selects RX13 yX13_allHold yX13_allHold ∈ lwG := lwG_of 129 (by decide +kernel) (by decide +kernel)
abbrev M_X13_writesDown : MI := (yX13_writesDown, cX13_writesDown, 6, none)
theorem pn_X13_writesDown : plainFor yX13_writesDown = true := by decide +kernel
theorem mc_X13_writesDown : Cond.code yX13_writesDown cX13_writesDown 6 none ∈ lwG := lwc_8 186 rfl (by decide +kernel)
theorem mi_X13_writesDown : Cond.instanceMethod yX13_writesDown ∈ lwG := lwc_8 185 (by decide +kernel) (by decide +kernel)
theorem ms_X13_writesDown : Cond.selects RX13 yX13_writesDown yX13_writesDown ∈ lwG := lwG_of 125 (by decide +kernel) (by decide +kernel)
abbrev M_X13_takesDown : MI := (yX13_takesDown, cX13_takesDown, 8, (some .int))
theorem pn_X13_takesDown : plainFor yX13_takesDown = true := by decide +kernel
theorem mc_X13_takesDown : Cond.code yX13_takesDown cX13_takesDown 8 (some .int) ∈ lwG := lwc_8 182 rfl (by decide +kernel)
theorem mi_X13_takesDown : Cond.instanceMethod yX13_takesDown ∈ lwG := lwc_8 181 (by decide +kernel) (by decide +kernel)
theorem ms_X13_takesDown : Cond.selects RX13 yX13_takesDown yX13_takesDown ∈ lwG := lwG_of 124 (by decide +kernel) (by decide +kernel)
abbrev M_X13_loose : MI := (yX13_loose, cX13_loose, 6, (some .int))
theorem pn_X13_loose : plainFor yX13_loose = true := by decide +kernel
theorem mc_X13_loose : Cond.code yX13_loose cX13_loose 6 (some .int) ∈ lwG := lwc_8 174 rfl (by decide +kernel)
theorem mi_X13_loose : Cond.instanceMethod yX13_loose ∈ lwG := lwc_8 173 (by decide +kernel) (by decide +kernel)
theorem ms_X13_loose : Cond.selects RX13 yX13_loose yX13_loose ∈ lwG := lwG_of 122 (by decide +kernel) (by decide +kernel)
abbrev M_X13_falls : MI := (yX13_falls, cX13_falls, 4, (some .int))
theorem pn_X13_falls : plainFor yX13_falls = true := by decide +kernel
theorem mc_X13_falls : Cond.code yX13_falls cX13_falls 4 (some .int) ∈ lwG := lwc_8 170 rfl (by decide +kernel)
theorem mi_X13_falls : Cond.instanceMethod yX13_falls ∈ lwG := lwc_8 169 (by decide +kernel) (by decide +kernel)
theorem ms_X13_falls : Cond.selects RX13 yX13_falls yX13_falls ∈ lwG := lwG_of 121 (by decide +kernel) (by decide +kernel)
abbrev M_X13_isFeud : MI := (yX13_isFeud, cX13_isFeud, 4, (some .boolean))
theorem pn_X13_isFeud : plainFor yX13_isFeud = true := by decide +kernel
theorem mc_X13_isFeud : Cond.code yX13_isFeud cX13_isFeud 4 (some .boolean) ∈ lwG := lwc_8 198 rfl (by decide +kernel)
theorem mi_X13_isFeud : Cond.instanceMethod yX13_isFeud ∈ lwG := lwc_8 197 (by decide +kernel) (by decide +kernel)
theorem ms_X13_isFeud : Cond.selects RX13 yX13_isFeud yX13_isFeud ∈ lwG := lwG_of 128 (by decide +kernel) (by decide +kernel)
abbrev M_X13_goesInto : MI := (yX13_goesInto, cX13_goesInto, 8, (some .boolean))
theorem pn_X13_goesInto : plainFor yX13_goesInto = true := by decide +kernel
theorem mc_X13_goesInto : Cond.code yX13_goesInto cX13_goesInto 8 (some .boolean) ∈ lwG := lwc_8 194 rfl (by decide +kernel)
theorem mi_X13_goesInto : Cond.instanceMethod yX13_goesInto ∈ lwG := lwc_8 193 (by decide +kernel) (by decide +kernel)
theorem ms_X13_goesInto : Cond.selects RX13 yX13_goesInto yX13_goesInto ∈ lwG := lwG_of 127 (by decide +kernel) (by decide +kernel)
abbrev M_X13_isBuilt : MI := (yX13_isBuilt, cX13_isBuilt, 4, (some .boolean))
theorem pn_X13_isBuilt : plainFor yX13_isBuilt = true := by decide +kernel
theorem mc_X13_isBuilt : Cond.code yX13_isBuilt cX13_isBuilt 4 (some .boolean) ∈ lwG := lwc_8 190 rfl (by decide +kernel)
theorem mi_X13_isBuilt : Cond.instanceMethod yX13_isBuilt ∈ lwG := lwc_8 189 (by decide +kernel) (by decide +kernel)
theorem ms_X13_isBuilt : Cond.selects RX13 yX13_isBuilt yX13_isBuilt ∈ lwG := lwG_of 126 (by decide +kernel) (by decide +kernel)
abbrev M_X13_bits : MI := (yX13_bits, cX13_bits, 3, (some .int))
theorem pn_X13_bits : plainFor yX13_bits = true := by decide +kernel
theorem mc_X13_bits : Cond.code yX13_bits cX13_bits 3 (some .int) ∈ lwG := lwc_8 12 rfl (by decide +kernel)
theorem mi_X13_bits : Cond.static yX13_bits ∈ lwG := lwc_8 11 (by decide +kernel) (by decide +kernel)
abbrev M_X13_freezes : MI := (yX13_freezes, cX13_freezes, 4, none)
theorem pn_X13_freezes : plainFor yX13_freezes = true := by decide +kernel
theorem mc_X13_freezes : Cond.code yX13_freezes cX13_freezes 4 none ∈ lwG := lwc_8 166 rfl (by decide +kernel)
theorem mi_X13_freezes : Cond.instanceMethod yX13_freezes ∈ lwG := lwc_8 165 (by decide +kernel) (by decide +kernel)
theorem ms_X13_freezes : Cond.selects RX13 yX13_freezes yX13_freezes ∈ lwG := lwG_of 120 (by decide +kernel) (by decide +kernel)
abbrev M_X13_passes : MI := (yX13_passes, cX13_passes, 5, none)
theorem pn_X13_passes : plainFor yX13_passes = true := by decide +kernel
theorem mc_X13_passes : Cond.code yX13_passes cX13_passes 5 none ∈ lwG := lwc_8 133 rfl (by decide +kernel)
theorem mi_X13_passes : Cond.instanceMethod yX13_passes ∈ lwG := lwc_8 132 (by decide +kernel) (by decide +kernel)
theorem ms_X13_passes : Cond.selects RX13 yX13_passes yX13_passes ∈ lwG := lwG_of 115 (by decide +kernel) (by decide +kernel)
abbrev M_X13_isHome : MI := (yX13_isHome, cX13_isHome, 2, (some .boolean))
theorem pn_X13_isHome : plainFor yX13_isHome = true := by decide +kernel
theorem mc_X13_isHome : Cond.code yX13_isHome cX13_isHome 2 (some .boolean) ∈ lwG := lwc_8 61 rfl (by decide +kernel)
theorem mi_X13_isHome : Cond.instanceMethod yX13_isHome ∈ lwG := lwc_8 60 (by decide +kernel) (by decide +kernel)
theorem ms_X13_isHome : Cond.selects RX13 yX13_isHome yX13_isHome ∈ lwG := lwG_of 102 (by decide +kernel) (by decide +kernel)
abbrev M_X13_isChild : MI := (yX13_isChild, cX13_isChild, 2, (some .boolean))
theorem pn_X13_isChild : plainFor yX13_isChild = true := by decide +kernel
theorem mc_X13_isChild : Cond.code yX13_isChild cX13_isChild 2 (some .boolean) ∈ lwG := lwc_8 69 rfl (by decide +kernel)
theorem mi_X13_isChild : Cond.instanceMethod yX13_isChild ∈ lwG := lwc_8 68 (by decide +kernel) (by decide +kernel)
theorem ms_X13_isChild : Cond.selects RX13 yX13_isChild yX13_isChild ∈ lwG := lwG_of 103 (by decide +kernel) (by decide +kernel)
abbrev M_X13_isWall : MI := (yX13_isWall, cX13_isWall, 2, (some .boolean))
theorem pn_X13_isWall : plainFor yX13_isWall = true := by decide +kernel
theorem mc_X13_isWall : Cond.code yX13_isWall cX13_isWall 2 (some .boolean) ∈ lwG := lwc_8 113 rfl (by decide +kernel)
theorem mi_X13_isWall : Cond.instanceMethod yX13_isWall ∈ lwG := lwc_8 112 (by decide +kernel) (by decide +kernel)
theorem ms_X13_isWall : Cond.selects RX13 yX13_isWall yX13_isWall ∈ lwG := lwG_of 112 (by decide +kernel) (by decide +kernel)
abbrev M_X13_builtIn : MI := (yX13_builtIn, cX13_builtIn, 4, (some .int))
theorem pn_X13_builtIn : plainFor yX13_builtIn = true := by decide +kernel
theorem mc_X13_builtIn : Cond.code yX13_builtIn cX13_builtIn 4 (some .int) ∈ lwG := lwc_8 44 rfl (by decide +kernel)
theorem mi_X13_builtIn : Cond.instanceMethod yX13_builtIn ∈ lwG := lwc_8 43 (by decide +kernel) (by decide +kernel)
theorem ms_X13_builtIn : Cond.selects RX13 yX13_builtIn yX13_builtIn ∈ lwG := lwG_of 100 (by decide +kernel) (by decide +kernel)
abbrev M_X13_onShelf : MI := (yX13_onShelf, cX13_onShelf, 4, (some .int))
theorem pn_X13_onShelf : plainFor yX13_onShelf = true := by decide +kernel
theorem mc_X13_onShelf : Cond.code yX13_onShelf cX13_onShelf 4 (some .int) ∈ lwG := lwc_8 16 rfl (by decide +kernel)
theorem mi_X13_onShelf : Cond.instanceMethod yX13_onShelf ∈ lwG := lwc_8 15 (by decide +kernel) (by decide +kernel)
theorem ms_X13_onShelf : Cond.selects RX13 yX13_onShelf yX13_onShelf ∈ lwG := lwG_of 93 (by decide +kernel) (by decide +kernel)
abbrev M_X13_stonesIn : MI := (yX13_stonesIn, cX13_stonesIn, 4, (some .int))
theorem pn_X13_stonesIn : plainFor yX13_stonesIn = true := by decide +kernel
theorem mc_X13_stonesIn : Cond.code yX13_stonesIn cX13_stonesIn 4 (some .int) ∈ lwG := lwc_8 48 rfl (by decide +kernel)
theorem mi_X13_stonesIn : Cond.instanceMethod yX13_stonesIn ∈ lwG := lwc_8 47 (by decide +kernel) (by decide +kernel)
theorem ms_X13_stonesIn : Cond.selects RX13 yX13_stonesIn yX13_stonesIn ∈ lwG := lwG_of 101 (by decide +kernel) (by decide +kernel)
abbrev M_X13_has : MI := (yX13_has, cX13_has, 4, (some .int))
theorem pn_X13_has : plainFor yX13_has = true := by decide +kernel
theorem mc_X13_has : Cond.code yX13_has cX13_has 4 (some .int) ∈ lwG := lwc_8 9 rfl (by decide +kernel)
theorem mi_X13_has : Cond.instanceMethod yX13_has ∈ lwG := lwc_8 7 (by decide +kernel) (by decide +kernel)
theorem ms_X13_has : Cond.selects RX13 yX13_has yX13_has ∈ lwG := lwc_8 8 (by decide +kernel) (by decide +kernel)
abbrev M_X13_letter : MI := (yX13_letter, cX13_letter, 9, (some .int))
theorem pn_X13_letter : plainFor yX13_letter = true := by decide +kernel
theorem mc_X13_letter : Cond.code yX13_letter cX13_letter 9 (some .int) ∈ lwG := lwc_8 52 rfl (by decide +kernel)
theorem mi_X13_letter : Cond.instanceMethod yX13_letter ∈ lwG := lwc_8 50 (by decide +kernel) (by decide +kernel)
theorem ms_X13_letter : Cond.selects RX13 yX13_letter yX13_letter ∈ lwG := lwc_8 51 (by decide +kernel) (by decide +kernel)
abbrev M_X13_home : MI := (yX13_home, cX13_home, 5, (some .int))
theorem pn_X13_home : plainFor yX13_home = true := by decide +kernel
theorem mc_X13_home : Cond.code yX13_home cX13_home 5 (some .int) ∈ lwG := lwc_8 57 rfl (by decide +kernel)
theorem mi_X13_home : Cond.instanceMethod yX13_home ∈ lwG := lwc_8 55 (by decide +kernel) (by decide +kernel)
theorem ms_X13_home : Cond.selects RX13 yX13_home yX13_home ∈ lwG := lwc_8 56 (by decide +kernel) (by decide +kernel)
abbrev M_X13_child : MI := (yX13_child, cX13_child, 3, (some .int))
theorem pn_X13_child : plainFor yX13_child = true := by decide +kernel
theorem mc_X13_child : Cond.code yX13_child cX13_child 3 (some .int) ∈ lwG := lwc_8 65 rfl (by decide +kernel)
theorem mi_X13_child : Cond.instanceMethod yX13_child ∈ lwG := lwc_8 63 (by decide +kernel) (by decide +kernel)
theorem ms_X13_child : Cond.selects RX13 yX13_child yX13_child ∈ lwG := lwc_8 64 (by decide +kernel) (by decide +kernel)
abbrev M_X13_stone : MI := (yX13_stone, cX13_stone, 4, (some .int))
theorem pn_X13_stone : plainFor yX13_stone = true := by decide +kernel
theorem mc_X13_stone : Cond.code yX13_stone cX13_stone 4 (some .int) ∈ lwG := lwc_8 77 rfl (by decide +kernel)
theorem mi_X13_stone : Cond.instanceMethod yX13_stone ∈ lwG := lwc_8 75 (by decide +kernel) (by decide +kernel)
theorem ms_X13_stone : Cond.selects RX13 yX13_stone yX13_stone ∈ lwG := lwc_8 76 (by decide +kernel) (by decide +kernel)
abbrev M_X13_wall : MI := (yX13_wall, cX13_wall, 3, (some .int))
theorem pn_X13_wall : plainFor yX13_wall = true := by decide +kernel
theorem mc_X13_wall : Cond.code yX13_wall cX13_wall 3 (some .int) ∈ lwG := lwc_8 109 rfl (by decide +kernel)
theorem mi_X13_wall : Cond.instanceMethod yX13_wall ∈ lwG := lwc_8 107 (by decide +kernel) (by decide +kernel)
theorem ms_X13_wall : Cond.selects RX13 yX13_wall yX13_wall ∈ lwG := lwc_8 108 (by decide +kernel) (by decide +kernel)
abbrev M_X13_at : MI := (yX13_at, cX13_at, 4, (some .int))
theorem pn_X13_at : plainFor yX13_at = true := by decide +kernel
theorem mc_X13_at : Cond.code yX13_at cX13_at 4 (some .int) ∈ lwG := lwc_8 117 rfl (by decide +kernel)
theorem mi_X13_at : Cond.instanceMethod yX13_at ∈ lwG := lwc_8 115 (by decide +kernel) (by decide +kernel)
theorem ms_X13_at : Cond.selects RX13 yX13_at yX13_at ∈ lwG := lwc_8 116 (by decide +kernel) (by decide +kernel)
abbrev M_X13_isAhead : MI := (yX13_isAhead, cX13_isAhead, 4, (some .boolean))
theorem pn_X13_isAhead : plainFor yX13_isAhead = true := by decide +kernel
theorem mc_X13_isAhead : Cond.code yX13_isAhead cX13_isAhead 4 (some .boolean) ∈ lwG := lwc_8 129 rfl (by decide +kernel)
theorem mi_X13_isAhead : Cond.instanceMethod yX13_isAhead ∈ lwG := lwc_8 128 (by decide +kernel) (by decide +kernel)
theorem ms_X13_isAhead : Cond.selects RX13 yX13_isAhead yX13_isAhead ∈ lwG := lwG_of 114 (by decide +kernel) (by decide +kernel)
abbrev M_X13_later : MI := (yX13_later, cX13_later, 6, (some .int))
theorem pn_X13_later : plainFor yX13_later = true := by decide +kernel
theorem mc_X13_later : Cond.code yX13_later cX13_later 6 (some .int) ∈ lwG := lwc_8 125 rfl (by decide +kernel)
theorem mi_X13_later : Cond.instanceMethod yX13_later ∈ lwG := lwc_8 123 (by decide +kernel) (by decide +kernel)
theorem ms_X13_later : Cond.selects RX13 yX13_later yX13_later ∈ lwG := lwc_8 124 (by decide +kernel) (by decide +kernel)
abbrev M_X13_built : MI := (yX13_built, cX13_built, 3, (some .int))
theorem pn_X13_built : plainFor yX13_built = true := by decide +kernel
theorem mc_X13_built : Cond.code yX13_built cX13_built 3 (some .int) ∈ lwG := lwc_8 206 rfl (by decide +kernel)
theorem mi_X13_built : Cond.instanceMethod yX13_built ∈ lwG := lwc_8 204 (by decide +kernel) (by decide +kernel)
theorem ms_X13_built : Cond.selects RX13 yX13_built yX13_built ∈ lwG := lwc_8 205 (by decide +kernel) (by decide +kernel)
abbrev M_X13_down : MI := (yX13_down, cX13_down, 3, (some .int))
theorem pn_X13_down : plainFor yX13_down = true := by decide +kernel
theorem mc_X13_down : Cond.code yX13_down cX13_down 3 (some .int) ∈ lwG := lwc_8 210 rfl (by decide +kernel)
theorem mi_X13_down : Cond.instanceMethod yX13_down ∈ lwG := lwc_8 208 (by decide +kernel) (by decide +kernel)
theorem ms_X13_down : Cond.selects RX13 yX13_down yX13_down ∈ lwG := lwc_8 209 (by decide +kernel) (by decide +kernel)
abbrev M_X13_areHeld : MI := (yX13_areHeld, cX13_areHeld, 7, (some .boolean))
theorem pn_X13_areHeld : plainFor yX13_areHeld = true := by decide +kernel
theorem mc_X13_areHeld : Cond.code yX13_areHeld cX13_areHeld 7 (some .boolean) ∈ lwG := lwc_8 218 rfl (by decide +kernel)
theorem mi_X13_areHeld : Cond.instanceMethod yX13_areHeld ∈ lwG := lwc_8 217 (by decide +kernel) (by decide +kernel)
theorem ms_X13_areHeld : Cond.selects RX13 yX13_areHeld yX13_areHeld ∈ lwG := lwG_of 130 (by decide +kernel) (by decide +kernel)
abbrev M_X13_props : MI := (yX13_props, cX13_props, 5, (some .int))
theorem pn_X13_props : plainFor yX13_props = true := by decide +kernel
theorem mc_X13_props : Cond.code yX13_props cX13_props 5 (some .int) ∈ lwG := lwc_8 214 rfl (by decide +kernel)
theorem mi_X13_props : Cond.instanceMethod yX13_props ∈ lwG := lwc_8 212 (by decide +kernel) (by decide +kernel)
theorem ms_X13_props : Cond.selects RX13 yX13_props yX13_props ∈ lwG := lwc_8 213 (by decide +kernel) (by decide +kernel)
abbrev M_X13_strongest : MI := (yX13_strongest, cX13_strongest, 8, (some .int))
theorem pn_X13_strongest : plainFor yX13_strongest = true := by decide +kernel
theorem mc_X13_strongest : Cond.code yX13_strongest cX13_strongest 8 (some .int) ∈ lwG := lwc_8 222 rfl (by decide +kernel)
theorem mi_X13_strongest : Cond.instanceMethod yX13_strongest ∈ lwG := lwc_8 220 (by decide +kernel) (by decide +kernel)
theorem ms_X13_strongest : Cond.selects RX13 yX13_strongest yX13_strongest ∈ lwG := lwc_8 221 (by decide +kernel) (by decide +kernel)
abbrev M_X13_isRow : MI := (yX13_isRow, cX13_isRow, 6, (some .boolean))
theorem pn_X13_isRow : plainFor yX13_isRow = true := by decide +kernel
theorem mc_X13_isRow : Cond.code yX13_isRow cX13_isRow 6 (some .boolean) ∈ lwG := lwc_8 230 rfl (by decide +kernel)
theorem mi_X13_isRow : Cond.instanceMethod yX13_isRow ∈ lwG := lwc_8 229 (by decide +kernel) (by decide +kernel)
theorem ms_X13_isRow : Cond.selects RX13 yX13_isRow yX13_isRow ∈ lwG := lwG_of 131 (by decide +kernel) (by decide +kernel)
abbrev M_X13_order : MI := (yX13_order, cX13_order, 9, (some .int))
theorem pn_X13_order : plainFor yX13_order = true := by decide +kernel
theorem mc_X13_order : Cond.code yX13_order cX13_order 9 (some .int) ∈ lwG := lwc_8 226 rfl (by decide +kernel)
theorem mi_X13_order : Cond.instanceMethod yX13_order ∈ lwG := lwc_8 224 (by decide +kernel) (by decide +kernel)
theorem ms_X13_order : Cond.selects RX13 yX13_order yX13_order ∈ lwG := lwc_8 225 (by decide +kernel) (by decide +kernel)
abbrev M_X13_reconcile : MI := (yX13_reconcile, cX13_reconcile, 8, (some .int))
theorem pn_X13_reconcile : plainFor yX13_reconcile = true := by decide +kernel
theorem mc_X13_reconcile : Cond.code yX13_reconcile cX13_reconcile 8 (some .int) ∈ lwG := lwc_8 234 rfl (by decide +kernel)
theorem mi_X13_reconcile : Cond.instanceMethod yX13_reconcile ∈ lwG := lwc_8 232 (by decide +kernel) (by decide +kernel)
theorem ms_X13_reconcile : Cond.selects RX13 yX13_reconcile yX13_reconcile ∈ lwG := lwc_8 233 (by decide +kernel) (by decide +kernel)
abbrev M_X13_raises : MI := (yX13_raises, cX13_raises, 1, (some .int))
theorem pn_X13_raises : plainFor yX13_raises = true := by decide +kernel
theorem mc_X13_raises : Cond.code yX13_raises cX13_raises 1 (some .int) ∈ lwG := lwc_9 2 rfl (by decide +kernel)
theorem mi_X13_raises : Cond.instanceMethod yX13_raises ∈ lwG := lwc_9 1 (by decide +kernel) (by decide +kernel)
theorem ms_X13_raises : Cond.selects RX13 yX13_raises yX13_raises ∈ lwG := lwG_of 132 (by decide +kernel) (by decide +kernel)
abbrev M_X13_strongBy : MI := (yX13_strongBy, cX13_strongBy, 5, (some .int))
theorem pn_X13_strongBy : plainFor yX13_strongBy = true := by decide +kernel
theorem mc_X13_strongBy : Cond.code yX13_strongBy cX13_strongBy 5 (some .int) ∈ lwG := lwc_9 18 rfl (by decide +kernel)
theorem mi_X13_strongBy : Cond.instanceMethod yX13_strongBy ∈ lwG := lwc_9 17 (by decide +kernel) (by decide +kernel)
theorem ms_X13_strongBy : Cond.selects RX13 yX13_strongBy yX13_strongBy ∈ lwG := lwG_of 136 (by decide +kernel) (by decide +kernel)
abbrev M_X13_isHomeBy : MI := (yX13_isHomeBy, cX13_isHomeBy, 3, (some .boolean))
theorem pn_X13_isHomeBy : plainFor yX13_isHomeBy = true := by decide +kernel
theorem mc_X13_isHomeBy : Cond.code yX13_isHomeBy cX13_isHomeBy 3 (some .boolean) ∈ lwG := lwc_9 14 rfl (by decide +kernel)
theorem mi_X13_isHomeBy : Cond.instanceMethod yX13_isHomeBy ∈ lwG := lwc_9 13 (by decide +kernel) (by decide +kernel)
theorem ms_X13_isHomeBy : Cond.selects RX13 yX13_isHomeBy yX13_isHomeBy ∈ lwG := lwG_of 135 (by decide +kernel) (by decide +kernel)
abbrev M_X13_homesBy : MI := (yX13_homesBy, cX13_homesBy, 3, (some .int))
theorem pn_X13_homesBy : plainFor yX13_homesBy = true := by decide +kernel
theorem mc_X13_homesBy : Cond.code yX13_homesBy cX13_homesBy 3 (some .int) ∈ lwG := lwc_9 10 rfl (by decide +kernel)
theorem mi_X13_homesBy : Cond.instanceMethod yX13_homesBy ∈ lwG := lwc_9 9 (by decide +kernel) (by decide +kernel)
theorem ms_X13_homesBy : Cond.selects RX13 yX13_homesBy yX13_homesBy ∈ lwG := lwG_of 134 (by decide +kernel) (by decide +kernel)
abbrev M_X13_twoBytes : MI := (yX13_twoBytes, cX13_twoBytes, 2, (some .int))
theorem pn_X13_twoBytes : plainFor yX13_twoBytes = true := by decide +kernel
theorem mc_X13_twoBytes : Cond.code yX13_twoBytes cX13_twoBytes 2 (some .int) ∈ lwG := lwc_9 6 rfl (by decide +kernel)
theorem mi_X13_twoBytes : Cond.instanceMethod yX13_twoBytes ∈ lwG := lwc_9 5 (by decide +kernel) (by decide +kernel)
theorem ms_X13_twoBytes : Cond.selects RX13 yX13_twoBytes yX13_twoBytes ∈ lwG := lwG_of 133 (by decide +kernel) (by decide +kernel)
abbrev M_X13_seams : MI := (yX13_seams, cX13_seams, 5, (some .int))
theorem pn_X13_seams : plainFor yX13_seams = true := by decide +kernel
theorem mc_X13_seams : Cond.code yX13_seams cX13_seams 5 (some .int) ∈ lwG := lwc_8 238 rfl (by decide +kernel)
theorem mi_X13_seams : Cond.instanceMethod yX13_seams ∈ lwG := lwc_8 236 (by decide +kernel) (by decide +kernel)
theorem ms_X13_seams : Cond.selects RX13 yX13_seams yX13_seams ∈ lwG := lwc_8 237 (by decide +kernel) (by decide +kernel)
abbrev M_X13_homes : MI := (yX13_homes, cX13_homes, 10, (some .int))
theorem pn_X13_homes : plainFor yX13_homes = true := by decide +kernel
theorem mc_X13_homes : Cond.code yX13_homes cX13_homes 10 (some .int) ∈ lwG := lwc_9 22 rfl (by decide +kernel)
theorem mi_X13_homes : Cond.instanceMethod yX13_homes ∈ lwG := lwc_9 20 (by decide +kernel) (by decide +kernel)
theorem ms_X13_homes : Cond.selects RX13 yX13_homes yX13_homes ∈ lwG := lwc_9 21 (by decide +kernel) (by decide +kernel)
abbrev M_X13_areLeftHolding : MI := (yX13_areLeftHolding, cX13_areLeftHolding, 3, (some .boolean))
theorem pn_X13_areLeftHolding : plainFor yX13_areLeftHolding = true := by decide +kernel
theorem mc_X13_areLeftHolding : Cond.code yX13_areLeftHolding cX13_areLeftHolding 3 (some .boolean) ∈ lwG := lwc_9 31 rfl (by decide +kernel)
theorem mi_X13_areLeftHolding : Cond.instanceMethod yX13_areLeftHolding ∈ lwG := lwc_9 30 (by decide +kernel) (by decide +kernel)
theorem ms_X13_areLeftHolding : Cond.selects RX13 yX13_areLeftHolding yX13_areLeftHolding ∈ lwG := lwG_of 137 (by decide +kernel) (by decide +kernel)
abbrev M_X13_pulling : MI := (yX13_pulling, cX13_pulling, 10, (some .int))
theorem pn_X13_pulling : plainFor yX13_pulling = true := by decide +kernel
theorem mc_X13_pulling : Cond.code yX13_pulling cX13_pulling 10 (some .int) ∈ lwG := lwc_9 27 rfl (by decide +kernel)
theorem mi_X13_pulling : Cond.instanceMethod yX13_pulling ∈ lwG := lwc_9 25 (by decide +kernel) (by decide +kernel)
theorem ms_X13_pulling : Cond.selects RX13 yX13_pulling yX13_pulling ∈ lwG := lwc_9 26 (by decide +kernel) (by decide +kernel)
abbrev M_X13_years : MI := (yX13_years, cX13_years, 4, (some .int))
theorem pn_X13_years : plainFor yX13_years = true := by decide +kernel
theorem mc_X13_years : Cond.code yX13_years cX13_years 4 (some .int) ∈ lwG := lwc_9 35 rfl (by decide +kernel)
theorem mi_X13_years : Cond.instanceMethod yX13_years ∈ lwG := lwc_9 33 (by decide +kernel) (by decide +kernel)
theorem ms_X13_years : Cond.selects RX13 yX13_years yX13_years ∈ lwG := lwc_9 34 (by decide +kernel) (by decide +kernel)
abbrev M_X13_draw : MI := (yX13_draw, cX13_draw, 2, (some .int))
theorem pn_X13_draw : plainFor yX13_draw = true := by decide +kernel
theorem mc_X13_draw : Cond.code yX13_draw cX13_draw 2 (some .int) ∈ lwG := lwc_9 47 rfl (by decide +kernel)
theorem mi_X13_draw : Cond.instanceMethod yX13_draw ∈ lwG := lwc_9 46 (by decide +kernel) (by decide +kernel)
theorem ms_X13_draw : Cond.selects RX13 yX13_draw yX13_draw ∈ lwG := lwG_of 139 (by decide +kernel) (by decide +kernel)
abbrev M_X13_chance : MI := (yX13_chance, cX13_chance, 5, (some .int))
theorem pn_X13_chance : plainFor yX13_chance = true := by decide +kernel
theorem mc_X13_chance : Cond.code yX13_chance cX13_chance 5 (some .int) ∈ lwG := lwc_9 43 rfl (by decide +kernel)
theorem mi_X13_chance : Cond.instanceMethod yX13_chance ∈ lwG := lwc_9 41 (by decide +kernel) (by decide +kernel)
theorem ms_X13_chance : Cond.selects RX13 yX13_chance yX13_chance ∈ lwG := lwc_9 42 (by decide +kernel) (by decide +kernel)
abbrev M_X13_go : MI := (yX13_go, cX13_go, 3, (some .boolean))
theorem pn_X13_go : plainFor yX13_go = true := by decide +kernel
theorem mc_X13_go : Cond.code yX13_go cX13_go 3 (some .boolean) ∈ lwG := lwc_9 55 rfl (by decide +kernel)
theorem mi_X13_go : Cond.instanceMethod yX13_go ∈ lwG := lwc_9 53 (by decide +kernel) (by decide +kernel)
theorem ms_X13_go : Cond.selects RX13 yX13_go yX13_go ∈ lwG := lwc_9 54 (by decide +kernel) (by decide +kernel)
abbrev M_X13_pull : MI := (yX13_pull, cX13_pull, 3, (some .int))
theorem pn_X13_pull : plainFor yX13_pull = true := by decide +kernel
theorem mc_X13_pull : Cond.code yX13_pull cX13_pull 3 (some .int) ∈ lwG := lwc_9 59 rfl (by decide +kernel)
theorem mi_X13_pull : Cond.instanceMethod yX13_pull ∈ lwG := lwc_9 57 (by decide +kernel) (by decide +kernel)
theorem ms_X13_pull : Cond.selects RX13 yX13_pull yX13_pull ∈ lwG := lwc_9 58 (by decide +kernel) (by decide +kernel)
abbrev M_X13_peace : MI := (yX13_peace, cX13_peace, 2, (some .boolean))
theorem pn_X13_peace : plainFor yX13_peace = true := by decide +kernel
theorem mc_X13_peace : Cond.code yX13_peace cX13_peace 2 (some .boolean) ∈ lwG := lwc_9 63 rfl (by decide +kernel)
theorem mi_X13_peace : Cond.instanceMethod yX13_peace ∈ lwG := lwc_9 61 (by decide +kernel) (by decide +kernel)
theorem ms_X13_peace : Cond.selects RX13 yX13_peace yX13_peace ∈ lwG := lwc_9 62 (by decide +kernel) (by decide +kernel)
abbrev M_X13_seed : MI := (yX13_seed, cX13_seed, 2, (some .boolean))
theorem pn_X13_seed : plainFor yX13_seed = true := by decide +kernel
theorem mc_X13_seed : Cond.code yX13_seed cX13_seed 2 (some .boolean) ∈ lwG := lwc_9 67 rfl (by decide +kernel)
theorem mi_X13_seed : Cond.instanceMethod yX13_seed ∈ lwG := lwc_9 65 (by decide +kernel) (by decide +kernel)
theorem ms_X13_seed : Cond.selects RX13 yX13_seed yX13_seed ∈ lwG := lwc_9 66 (by decide +kernel) (by decide +kernel)
abbrev M_X13_kept : MI := (yX13_kept, cX13_kept, 3, (some .int))
theorem pn_X13_kept : plainFor yX13_kept = true := by decide +kernel
theorem mc_X13_kept : Cond.code yX13_kept cX13_kept 3 (some .int) ∈ lwG := lwc_9 71 rfl (by decide +kernel)
theorem mi_X13_kept : Cond.instanceMethod yX13_kept ∈ lwG := lwc_9 69 (by decide +kernel) (by decide +kernel)
theorem ms_X13_kept : Cond.selects RX13 yX13_kept yX13_kept ∈ lwG := lwc_9 70 (by decide +kernel) (by decide +kernel)
abbrev M_X13_writes : MI := (yX13_writes, cX13_writes, 2, none)
theorem pn_X13_writes : plainFor yX13_writes = true := by decide +kernel
theorem mc_X13_writes : Cond.code yX13_writes cX13_writes 2 none ∈ lwG := lwc_9 83 rfl (by decide +kernel)
theorem mi_X13_writes : Cond.instanceMethod yX13_writes ∈ lwG := lwc_9 82 (by decide +kernel) (by decide +kernel)
theorem ms_X13_writes : Cond.selects RX13 yX13_writes yX13_writes ∈ lwG := lwG_of 141 (by decide +kernel) (by decide +kernel)
abbrev M_X13_writesTwo : MI := (yX13_writesTwo, cX13_writesTwo, 2, none)
theorem pn_X13_writesTwo : plainFor yX13_writesTwo = true := by decide +kernel
theorem mc_X13_writesTwo : Cond.code yX13_writesTwo cX13_writesTwo 2 none ∈ lwG := lwc_9 79 rfl (by decide +kernel)
theorem mi_X13_writesTwo : Cond.instanceMethod yX13_writesTwo ∈ lwG := lwc_9 78 (by decide +kernel) (by decide +kernel)
theorem ms_X13_writesTwo : Cond.selects RX13 yX13_writesTwo yX13_writesTwo ∈ lwG := lwG_of 140 (by decide +kernel) (by decide +kernel)
abbrev M_X13_image : MI := (yX13_image, cX13_image, 3, (some .int))
theorem pn_X13_image : plainFor yX13_image = true := by decide +kernel
theorem mc_X13_image : Cond.code yX13_image cX13_image 3 (some .int) ∈ lwG := lwc_9 75 rfl (by decide +kernel)
theorem mi_X13_image : Cond.instanceMethod yX13_image ∈ lwG := lwc_9 73 (by decide +kernel) (by decide +kernel)
theorem ms_X13_image : Cond.selects RX13 yX13_image yX13_image ∈ lwG := lwc_9 74 (by decide +kernel) (by decide +kernel)
abbrev M_X13_octet : MI := (yX13_octet, cX13_octet, 2, (some .int))
theorem pn_X13_octet : plainFor yX13_octet = true := by decide +kernel
theorem mc_X13_octet : Cond.code yX13_octet cX13_octet 2 (some .int) ∈ lwG := lwc_9 87 rfl (by decide +kernel)
theorem mi_X13_octet : Cond.instanceMethod yX13_octet ∈ lwG := lwc_9 85 (by decide +kernel) (by decide +kernel)
theorem ms_X13_octet : Cond.selects RX13 yX13_octet yX13_octet ∈ lwG := lwc_9 86 (by decide +kernel) (by decide +kernel)
abbrev M_X13_childOn : MI := (yX13_childOn, cX13_childOn, 5, (some .boolean))
theorem pn_X13_childOn : plainFor yX13_childOn = true := by decide +kernel
theorem mc_X13_childOn : Cond.code yX13_childOn cX13_childOn 5 (some .boolean) ∈ lwG := lwc_9 99 rfl (by decide +kernel)
theorem mi_X13_childOn : Cond.instanceMethod yX13_childOn ∈ lwG := lwc_9 98 (by decide +kernel) (by decide +kernel)
theorem ms_X13_childOn : Cond.selects RX13 yX13_childOn yX13_childOn ∈ lwG := lwG_of 143 (by decide +kernel) (by decide +kernel)
abbrev M_X13_areLaid : MI := (yX13_areLaid, cX13_areLaid, 3, (some .boolean))
theorem pn_X13_areLaid : plainFor yX13_areLaid = true := by decide +kernel
theorem mc_X13_areLaid : Cond.code yX13_areLaid cX13_areLaid 3 (some .boolean) ∈ lwG := lwc_9 103 rfl (by decide +kernel)
theorem mi_X13_areLaid : Cond.instanceMethod yX13_areLaid ∈ lwG := lwc_9 102 (by decide +kernel) (by decide +kernel)
theorem ms_X13_areLaid : Cond.selects RX13 yX13_areLaid yX13_areLaid ∈ lwG := lwG_of 144 (by decide +kernel) (by decide +kernel)
abbrev M_X13_comesOn : MI := (yX13_comesOn, cX13_comesOn, 5, (some .boolean))
theorem pn_X13_comesOn : plainFor yX13_comesOn = true := by decide +kernel
theorem mc_X13_comesOn : Cond.code yX13_comesOn cX13_comesOn 5 (some .boolean) ∈ lwG := lwc_9 95 rfl (by decide +kernel)
theorem mi_X13_comesOn : Cond.instanceMethod yX13_comesOn ∈ lwG := lwc_9 94 (by decide +kernel) (by decide +kernel)
theorem ms_X13_comesOn : Cond.selects RX13 yX13_comesOn yX13_comesOn ∈ lwG := lwG_of 142 (by decide +kernel) (by decide +kernel)
abbrev M_X13_on : MI := (yX13_on, cX13_on, 2, (some .boolean))
theorem pn_X13_on : plainFor yX13_on = true := by decide +kernel
theorem mc_X13_on : Cond.code yX13_on cX13_on 2 (some .boolean) ∈ lwG := lwc_9 91 rfl (by decide +kernel)
theorem mi_X13_on : Cond.instanceMethod yX13_on ∈ lwG := lwc_9 89 (by decide +kernel) (by decide +kernel)
theorem ms_X13_on : Cond.selects RX13 yX13_on yX13_on ∈ lwG := lwc_9 90 (by decide +kernel) (by decide +kernel)
abbrev M_J9_max_7cf53 : MI := (yJ9_max_7cf53, cJ9_max_7cf53, 2, (some .int))
theorem pn_J9_max_7cf53 : plainFor yJ9_max_7cf53 = true := by decide +kernel
theorem mc_J9_max_7cf53 : Cond.code yJ9_max_7cf53 cJ9_max_7cf53 2 (some .int) ∈ lwG := lwc_4 106 rfl (by decide +kernel)
theorem mi_J9_max_7cf53 : Cond.static yJ9_max_7cf53 ∈ lwG := lwc_4 105 (by decide +kernel) (by decide +kernel)
abbrev M_J9_max_f86c9 : MI := (yJ9_max_f86c9, cJ9_max_f86c9, 4, (some .long))
theorem pn_J9_max_f86c9 : plainFor yJ9_max_f86c9 = true := by decide +kernel
theorem mc_J9_max_f86c9 : Cond.code yJ9_max_f86c9 cJ9_max_f86c9 4 (some .long) ∈ lwG := lwc_4 180 rfl (by decide +kernel)
theorem mi_J9_max_f86c9 : Cond.static yJ9_max_f86c9 ∈ lwG := lwc_4 179 (by decide +kernel) (by decide +kernel)
abbrev M_J9_min_7cf53 : MI := (yJ9_min_7cf53, cJ9_min_7cf53, 2, (some .int))
theorem pn_J9_min_7cf53 : plainFor yJ9_min_7cf53 = true := by decide +kernel
theorem mc_J9_min_7cf53 : Cond.code yJ9_min_7cf53 cJ9_min_7cf53 2 (some .int) ∈ lwG := lwc_4 185 rfl (by decide +kernel)
theorem mi_J9_min_7cf53 : Cond.static yJ9_min_7cf53 ∈ lwG := lwc_4 184 (by decide +kernel) (by decide +kernel)
abbrev M_J9_min_f86c9 : MI := (yJ9_min_f86c9, cJ9_min_f86c9, 4, (some .long))
theorem pn_J9_min_f86c9 : plainFor yJ9_min_f86c9 = true := by decide +kernel
theorem mc_J9_min_f86c9 : Cond.code yJ9_min_f86c9 cJ9_min_f86c9 4 (some .long) ∈ lwG := lwc_4 177 rfl (by decide +kernel)
theorem mi_J9_min_f86c9 : Cond.static yJ9_min_f86c9 ∈ lwG := lwc_4 176 (by decide +kernel) (by decide +kernel)
theorem lk_X1_13 : Cond.fieldLink RX1 13 "StoneRaised$Acts" "rows" "[[I" ∈ lwG := lwc_2 132 (by decide +kernel) (by decide +kernel)
theorem gf_X1_13 {g : GT} {d : Nat} {M : MI} {Q : Int → Sg → Prop} {pc : Nat} {ls st : List AV} {σ : Sg} (hM : M.1.cls = RX1) (hd : decode M.2.1 pc = .ok (.getfield 13, 3)) (h : Wp g d M Q (pc + 3) ls ((42, 66) :: st) σ) : Wp g d M Q pc ls ((10, 65) :: st) σ := r_getf (ci := 0) (k := 0) (o := 65) (by decide) (by decide) (by rw [hM]; exact lk_X1_13) hd h
theorem lk_X1_16 : Cond.fieldLink RX1 16 "StoneRaised$Acts" "count" "I" ∈ lwG := lwc_2 133 (by decide +kernel) (by decide +kernel)
theorem gf_X1_16 {g : GT} {d : Nat} {M : MI} {Q : Int → Sg → Prop} {pc : Nat} {ls st : List AV} {σ : Sg} (hM : M.1.cls = RX1) (hd : decode M.2.1 pc = .ok (.getfield 16, 3)) (h : Wp g d M Q (pc + 3) ls ((0, (σ 65 1)) :: st) σ) : Wp g d M Q pc ls ((10, 65) :: st) σ := r_getf (ci := 0) (k := 1) (o := 65) (by decide) (by decide) (by rw [hM]; exact lk_X1_16) hd h
theorem pf_X1_16 {g : GT} {d : Nat} {M : MI} {Q : Int → Sg → Prop} {pc : Nat} {ls st : List AV} {σ : Sg} {v : Int} (hM : M.1.cls = RX1) (hd : decode M.2.1 pc = .ok (.putfield 16, 3)) (h : Wp g d M Q (pc + 3) ls st (ups σ 65 1 v)) : Wp g d M Q pc ls ((0, v) :: (10, 65) :: st) σ := r_putf (ci := 0) (k := 1) (o := 65) (by decide) (by decide) (by rw [hM]; exact lk_X1_16) rfl rfl rfl rfl hd h
theorem lk_X1_20 : Cond.fieldLink RX1 20 "StoneRaised$Acts" "next" "I" ∈ lwG := lwc_2 135 (by decide +kernel) (by decide +kernel)
theorem gf_X1_20 {g : GT} {d : Nat} {M : MI} {Q : Int → Sg → Prop} {pc : Nat} {ls st : List AV} {σ : Sg} (hM : M.1.cls = RX1) (hd : decode M.2.1 pc = .ok (.getfield 20, 3)) (h : Wp g d M Q (pc + 3) ls ((0, (σ 65 2)) :: st) σ) : Wp g d M Q pc ls ((10, 65) :: st) σ := r_getf (ci := 0) (k := 2) (o := 65) (by decide) (by decide) (by rw [hM]; exact lk_X1_20) hd h
theorem pf_X1_20 {g : GT} {d : Nat} {M : MI} {Q : Int → Sg → Prop} {pc : Nat} {ls st : List AV} {σ : Sg} {v : Int} (hM : M.1.cls = RX1) (hd : decode M.2.1 pc = .ok (.putfield 20, 3)) (h : Wp g d M Q (pc + 3) ls st (ups σ 65 2 v)) : Wp g d M Q pc ls ((0, v) :: (10, 65) :: st) σ := r_putf (ci := 0) (k := 2) (o := 65) (by decide) (by decide) (by rw [hM]; exact lk_X1_20) rfl rfl rfl rfl hd h
theorem lk_X1_23 : Cond.fieldLink RX1 23 "StoneRaised$World" "year" "I" ∈ lwG := lwc_2 32 (by decide +kernel) (by decide +kernel)
theorem gf_X1_23 {g : GT} {d : Nat} {M : MI} {Q : Int → Sg → Prop} {pc : Nat} {ls st : List AV} {σ : Sg} {o : Int} (hM : M.1.cls = RX1) (hd : decode M.2.1 pc = .ok (.getfield 23, 3)) (h : Wp g d M Q (pc + 3) ls ((0, (σ o 1)) :: st) σ) : Wp g d M Q pc ls ((19, o) :: st) σ := r_getf (ci := 9) (k := 1) (o := o) (by decide) (by decide) (by rw [hM]; exact lk_X1_23) hd h
theorem pf_X1_23 {g : GT} {d : Nat} {M : MI} {Q : Int → Sg → Prop} {pc : Nat} {ls st : List AV} {σ : Sg} {o : Int} {v : Int} (hM : M.1.cls = RX1) (hd : decode M.2.1 pc = .ok (.putfield 23, 3)) (h : Wp g d M Q (pc + 3) ls st (ups σ o 1 v)) : Wp g d M Q pc ls ((0, v) :: (19, o) :: st) σ := r_putf (ci := 9) (k := 1) (o := o) (by decide) (by decide) (by rw [hM]; exact lk_X1_23) rfl rfl rfl rfl hd h
theorem lk_X1_28 : Cond.fieldLink RX1 28 "StoneRaised$World" "ended" "I" ∈ lwG := lwc_2 38 (by decide +kernel) (by decide +kernel)
theorem gf_X1_28 {g : GT} {d : Nat} {M : MI} {Q : Int → Sg → Prop} {pc : Nat} {ls st : List AV} {σ : Sg} {o : Int} (hM : M.1.cls = RX1) (hd : decode M.2.1 pc = .ok (.getfield 28, 3)) (h : Wp g d M Q (pc + 3) ls ((0, (σ o 2)) :: st) σ) : Wp g d M Q pc ls ((19, o) :: st) σ := r_getf (ci := 9) (k := 2) (o := o) (by decide) (by decide) (by rw [hM]; exact lk_X1_28) hd h
theorem pf_X1_28 {g : GT} {d : Nat} {M : MI} {Q : Int → Sg → Prop} {pc : Nat} {ls st : List AV} {σ : Sg} {o : Int} {v : Int} (hM : M.1.cls = RX1) (hd : decode M.2.1 pc = .ok (.putfield 28, 3)) (h : Wp g d M Q (pc + 3) ls st (ups σ o 2 v)) : Wp g d M Q pc ls ((0, v) :: (19, o) :: st) σ := r_putf (ci := 9) (k := 2) (o := o) (by decide) (by decide) (by rw [hM]; exact lk_X1_28) rfl rfl rfl rfl hd h
theorem lk_X1_31 : Cond.fieldLink RX1 31 "StoneRaised$World" "keptCount" "I" ∈ lwG := lwc_2 63 (by decide +kernel) (by decide +kernel)
theorem gf_X1_31 {g : GT} {d : Nat} {M : MI} {Q : Int → Sg → Prop} {pc : Nat} {ls st : List AV} {σ : Sg} {o : Int} (hM : M.1.cls = RX1) (hd : decode M.2.1 pc = .ok (.getfield 31, 3)) (h : Wp g d M Q (pc + 3) ls ((0, (σ o 9)) :: st) σ) : Wp g d M Q pc ls ((19, o) :: st) σ := r_getf (ci := 9) (k := 9) (o := o) (by decide) (by decide) (by rw [hM]; exact lk_X1_31) hd h
theorem pf_X1_31 {g : GT} {d : Nat} {M : MI} {Q : Int → Sg → Prop} {pc : Nat} {ls st : List AV} {σ : Sg} {o : Int} {v : Int} (hM : M.1.cls = RX1) (hd : decode M.2.1 pc = .ok (.putfield 31, 3)) (h : Wp g d M Q (pc + 3) ls st (ups σ o 9 v)) : Wp g d M Q pc ls ((0, v) :: (19, o) :: st) σ := r_putf (ci := 9) (k := 9) (o := o) (by decide) (by decide) (by rw [hM]; exact lk_X1_31) rfl rfl rfl rfl hd h
theorem lk_X1_34 : Cond.fieldLink RX1 34 "StoneRaised$World" "place" "[I" ∈ lwG := lwc_2 51 (by decide +kernel) (by decide +kernel)
theorem gf_X1_34 {g : GT} {d : Nat} {M : MI} {Q : Int → Sg → Prop} {pc : Nat} {ls st : List AV} {σ : Sg} {o : Int} (hM : M.1.cls = RX1) (hd : decode M.2.1 pc = .ok (.getfield 34, 3)) (h : Wp g d M Q (pc + 3) ls ((33, (o + 3)) :: st) σ) : Wp g d M Q pc ls ((19, o) :: st) σ := r_getf (ci := 9) (k := 5) (o := o) (by decide) (by decide) (by rw [hM]; exact lk_X1_34) hd h
theorem lk_X1_38 : Cond.fieldLink RX1 38 "StoneRaised$World" "strong" "[I" ∈ lwG := lwc_2 46 (by decide +kernel) (by decide +kernel)
theorem gf_X1_38 {g : GT} {d : Nat} {M : MI} {Q : Int → Sg → Prop} {pc : Nat} {ls st : List AV} {σ : Sg} {o : Int} (hM : M.1.cls = RX1) (hd : decode M.2.1 pc = .ok (.getfield 38, 3)) (h : Wp g d M Q (pc + 3) ls ((33, (o + 2)) :: st) σ) : Wp g d M Q pc ls ((19, o) :: st) σ := r_getf (ci := 9) (k := 4) (o := o) (by decide) (by decide) (by rw [hM]; exact lk_X1_38) hd h
theorem lk_X1_41 : Cond.fieldLink RX1 41 "StoneRaised$World" "homeOf" "[I" ∈ lwG := lwc_2 42 (by decide +kernel) (by decide +kernel)
theorem gf_X1_41 {g : GT} {d : Nat} {M : MI} {Q : Int → Sg → Prop} {pc : Nat} {ls st : List AV} {σ : Sg} {o : Int} (hM : M.1.cls = RX1) (hd : decode M.2.1 pc = .ok (.getfield 41, 3)) (h : Wp g d M Q (pc + 3) ls ((33, (o + 1)) :: st) σ) : Wp g d M Q pc ls ((19, o) :: st) σ := r_getf (ci := 9) (k := 3) (o := o) (by decide) (by decide) (by rw [hM]; exact lk_X1_41) hd h
theorem lk_X1_44 : Cond.fieldLink RX1 44 "StoneRaised$World" "kept" "[I" ∈ lwG := lwc_2 61 (by decide +kernel) (by decide +kernel)
