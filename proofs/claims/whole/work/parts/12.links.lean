/-! links: by program (wip/gen/glinks.py), by places of lw_tbl -/
theorem lwT {w : Cond} (h : w ∈ tables_1) (hg : goodWord w = true) : w ∈ lwG := List.mem_filter.mpr ⟨List.mem_append_right _ h, hg⟩
theorem lwc_1 {w : Cond} (j : Nat) (h : tables_1_1[j]? = some w) (hg : goodWord w = true) : w ∈ lwG := lwT (List.mem_append_left _ (List.mem_of_getElem? h)) hg
theorem lwc_2 {w : Cond} (j : Nat) (h : tables_1_2[j]? = some w) (hg : goodWord w = true) : w ∈ lwG := lwT (List.mem_append_right _ (List.mem_append_left _ (List.mem_of_getElem? h))) hg
theorem lwc_3 {w : Cond} (j : Nat) (h : tables_1_3[j]? = some w) (hg : goodWord w = true) : w ∈ lwG := lwT (List.mem_append_right _ (List.mem_append_right _ (List.mem_append_left _ (List.mem_of_getElem? h)))) hg
theorem lwc_4 {w : Cond} (j : Nat) (h : tables_1_4[j]? = some w) (hg : goodWord w = true) : w ∈ lwG := lwT (List.mem_append_right _ (List.mem_append_right _ (List.mem_append_right _ (List.mem_append_left _ (List.mem_of_getElem? h))))) hg
theorem lwc_5 {w : Cond} (j : Nat) (h : tables_1_5[j]? = some w) (hg : goodWord w = true) : w ∈ lwG := lwT (List.mem_append_right _ (List.mem_append_right _ (List.mem_append_right _ (List.mem_append_right _ (List.mem_append_left _ (List.mem_of_getElem? h)))))) hg
theorem lwc_6 {w : Cond} (j : Nat) (h : tables_1_6[j]? = some w) (hg : goodWord w = true) : w ∈ lwG := lwT (List.mem_append_right _ (List.mem_append_right _ (List.mem_append_right _ (List.mem_append_right _ (List.mem_append_right _ (List.mem_append_left _ (List.mem_of_getElem? h))))))) hg
theorem lwc_7 {w : Cond} (j : Nat) (h : tables_1_7[j]? = some w) (hg : goodWord w = true) : w ∈ lwG := lwT (List.mem_append_right _ (List.mem_append_right _ (List.mem_append_right _ (List.mem_append_right _ (List.mem_append_right _ (List.mem_append_right _ (List.mem_append_left _ (List.mem_of_getElem? h)))))))) hg
theorem lwc_8 {w : Cond} (j : Nat) (h : tables_1_8[j]? = some w) (hg : goodWord w = true) : w ∈ lwG := lwT (List.mem_append_right _ (List.mem_append_right _ (List.mem_append_right _ (List.mem_append_right _ (List.mem_append_right _ (List.mem_append_right _ (List.mem_append_right _ (List.mem_append_left _ (List.mem_of_getElem? h))))))))) hg
theorem lwc_9 {w : Cond} (j : Nat) (h : tables_1_9[j]? = some w) (hg : goodWord w = true) : w ∈ lwG := lwT (List.mem_append_right _ (List.mem_append_right _ (List.mem_append_right _ (List.mem_append_right _ (List.mem_append_right _ (List.mem_append_right _ (List.mem_append_right _ (List.mem_append_right _ (List.mem_of_getElem? h))))))))) hg
theorem in_J6 : Cond.initialized RJ6 ∈ lwG := lwc_1 18 (by decide +kernel) (by decide +kernel)
theorem in_J7 : Cond.initialized RJ7 ∈ lwG := lwc_1 5 (by decide +kernel) (by decide +kernel)
theorem in_J9 : Cond.initialized RJ9 ∈ lwG := lwc_1 19 (by decide +kernel) (by decide +kernel)
theorem in_L : Cond.initialized RL ∈ lwG := lwc_1 0 (by decide +kernel) (by decide +kernel)
theorem in_X1 : Cond.initialized RX1 ∈ lwG := lwc_1 13 (by decide +kernel) (by decide +kernel)
theorem in_X2 : Cond.initialized RX2 ∈ lwG := lwc_1 4 (by decide +kernel) (by decide +kernel)
theorem in_X3 : Cond.initialized RX3 ∈ lwG := lwc_1 15 (by decide +kernel) (by decide +kernel)
theorem in_X4 : Cond.initialized RX4 ∈ lwG := lwc_1 6 (by decide +kernel) (by decide +kernel)
theorem in_X5 : Cond.initialized RX5 ∈ lwG := lwc_1 12 (by decide +kernel) (by decide +kernel)
theorem in_X6 : Cond.initialized RX6 ∈ lwG := lwc_1 7 (by decide +kernel) (by decide +kernel)
theorem in_X7 : Cond.initialized RX7 ∈ lwG := lwc_1 14 (by decide +kernel) (by decide +kernel)
theorem in_X8 : Cond.initialized RX8 ∈ lwG := lwc_1 2 (by decide +kernel) (by decide +kernel)
theorem in_X9 : Cond.initialized RX9 ∈ lwG := lwc_1 3 (by decide +kernel) (by decide +kernel)
theorem in_X11 : Cond.initialized RX11 ∈ lwG := lwc_1 10 (by decide +kernel) (by decide +kernel)
theorem in_X12 : Cond.initialized RX12 ∈ lwG := lwc_1 1 (by decide +kernel) (by decide +kernel)
theorem in_X13 : Cond.initialized RX13 ∈ lwG := lwc_1 16 (by decide +kernel) (by decide +kernel)
abbrev M_X1_forget : MI := (yX1_forget, cX1_forget, 1, none)
theorem pn_X1_forget : plainFor yX1_forget = true := by decide +kernel
theorem mc_X1_forget : Cond.code yX1_forget cX1_forget 1 none ∈ lwG := lwc_4 10 (by decide +kernel) (by decide +kernel)
theorem mi_X1_forget : Cond.instanceMethod yX1_forget ∈ lwG := lwc_4 8 (by decide +kernel) (by decide +kernel)
theorem ms_X1_forget : Cond.selects RX1 yX1_forget yX1_forget ∈ lwG := lwc_4 9 (by decide +kernel) (by decide +kernel)
abbrev M_X1_save : MI := (yX1_save, cX1_save, 5, none)
theorem pn_X1_save : plainFor yX1_save = true := by decide +kernel
theorem mc_X1_save : Cond.code yX1_save cX1_save 5 none ∈ lwG := lwc_5 149 (by decide +kernel) (by decide +kernel)
theorem mi_X1_save : Cond.instanceMethod yX1_save ∈ lwG := lwc_5 147 (by decide +kernel) (by decide +kernel)
theorem ms_X1_save : Cond.selects RX1 yX1_save yX1_save ∈ lwG := lwc_5 148 (by decide +kernel) (by decide +kernel)
abbrev M_J7_fill_53178 : MI := (yJ7_fill_53178, cJ7_fill_53178, 4, none)
theorem pn_J7_fill_53178 : plainFor yJ7_fill_53178 = true := by decide +kernel
theorem mc_J7_fill_53178 : Cond.code yJ7_fill_53178 cJ7_fill_53178 4 none ∈ lwG := lwc_1 80 (by decide +kernel) (by decide +kernel)
theorem mi_J7_fill_53178 : Cond.static yJ7_fill_53178 ∈ lwG := lwc_1 79 (by decide +kernel) (by decide +kernel)
abbrev M_X11_clearWalls : MI := (yX11_clearWalls, cX11_clearWalls, 1, none)
theorem pn_X11_clearWalls : plainFor yX11_clearWalls = true := by decide +kernel
theorem mc_X11_clearWalls : Cond.code yX11_clearWalls cX11_clearWalls 1 none ∈ lwG := lwc_2 22 (by decide +kernel) (by decide +kernel)
theorem mi_X11_clearWalls : Cond.instanceMethod yX11_clearWalls ∈ lwG := lwc_2 20 (by decide +kernel) (by decide +kernel)
theorem ms_X11_clearWalls : Cond.selects RX11 yX11_clearWalls yX11_clearWalls ∈ lwG := lwc_2 21 (by decide +kernel) (by decide +kernel)
abbrev M_X11_put : MI := (yX11_put, cX11_put, 3, none)
theorem pn_X11_put : plainFor yX11_put = true := by decide +kernel
theorem mc_X11_put : Cond.code yX11_put cX11_put 3 none ∈ lwG := lwc_5 7 (by decide +kernel) (by decide +kernel)
theorem mi_X11_put : Cond.instanceMethod yX11_put ∈ lwG := lwc_5 5 (by decide +kernel) (by decide +kernel)
theorem ms_X11_put : Cond.selects RX11 yX11_put yX11_put ∈ lwG := lwc_5 6 (by decide +kernel) (by decide +kernel)
abbrev M_X1_takeBack : MI := (yX1_takeBack, cX1_takeBack, 6, (some .boolean))
theorem pn_X1_takeBack : plainFor yX1_takeBack = true := by decide +kernel
theorem mc_X1_takeBack : Cond.code yX1_takeBack cX1_takeBack 6 (some .boolean) ∈ lwG := lwc_5 184 (by decide +kernel) (by decide +kernel)
theorem mi_X1_takeBack : Cond.instanceMethod yX1_takeBack ∈ lwG := lwc_5 182 (by decide +kernel) (by decide +kernel)
theorem ms_X1_takeBack : Cond.selects RX1 yX1_takeBack yX1_takeBack ∈ lwG := lwc_5 183 (by decide +kernel) (by decide +kernel)
abbrev M_X2_add : MI := (yX2_add, cX2_add, 2, none)
theorem pn_X2_add : plainFor yX2_add = true := by decide +kernel
theorem mc_X2_add : Cond.code yX2_add cX2_add 2 none ∈ lwG := lwc_3 185 (by decide +kernel) (by decide +kernel)
theorem mi_X2_add : Cond.instanceMethod yX2_add ∈ lwG := lwc_3 183 (by decide +kernel) (by decide +kernel)
theorem ms_X2_add : Cond.selects RX2 yX2_add yX2_add ∈ lwG := lwc_3 184 (by decide +kernel) (by decide +kernel)
abbrev M_X2_partsOf : MI := (yX2_partsOf, cX2_partsOf, 1, (some .int))
theorem pn_X2_partsOf : plainFor yX2_partsOf = true := by decide +kernel
theorem mc_X2_partsOf : Cond.code yX2_partsOf cX2_partsOf 1 (some .int) ∈ lwG := lwc_4 165 (by decide +kernel) (by decide +kernel)
theorem mi_X2_partsOf : Cond.static yX2_partsOf ∈ lwG := lwc_4 164 (by decide +kernel) (by decide +kernel)
abbrev M_J9_floorDiv_f86c9 : MI := (yJ9_floorDiv_f86c9, cJ9_floorDiv_f86c9, 6, (some .long))
theorem pn_J9_floorDiv_f86c9 : plainFor yJ9_floorDiv_f86c9 = true := by decide +kernel
theorem mc_J9_floorDiv_f86c9 : Cond.code yJ9_floorDiv_f86c9 cJ9_floorDiv_f86c9 6 (some .long) ∈ lwG := lwc_4 171 (by decide +kernel) (by decide +kernel)
theorem mi_J9_floorDiv_f86c9 : Cond.static yJ9_floorDiv_f86c9 ∈ lwG := lwc_4 170 (by decide +kernel) (by decide +kernel)
abbrev M_J9_floorMod_f86c9 : MI := (yJ9_floorMod_f86c9, cJ9_floorMod_f86c9, 6, (some .long))
theorem pn_J9_floorMod_f86c9 : plainFor yJ9_floorMod_f86c9 = true := by decide +kernel
theorem mc_J9_floorMod_f86c9 : Cond.code yJ9_floorMod_f86c9 cJ9_floorMod_f86c9 6 (some .long) ∈ lwG := lwc_4 174 (by decide +kernel) (by decide +kernel)
theorem mi_J9_floorMod_f86c9 : Cond.static yJ9_floorMod_f86c9 ∈ lwG := lwc_4 173 (by decide +kernel) (by decide +kernel)
abbrev M_X2_pair : MI := (yX2_pair, cX2_pair, 5, (some .long))
theorem pn_X2_pair : plainFor yX2_pair = true := by decide +kernel
theorem mc_X2_pair : Cond.code yX2_pair cX2_pair 5 (some .long) ∈ lwG := lwc_4 168 (by decide +kernel) (by decide +kernel)
theorem mi_X2_pair : Cond.static yX2_pair ∈ lwG := lwc_4 167 (by decide +kernel) (by decide +kernel)
abbrev M_X2_value : MI := (yX2_value, cX2_value, 8, (some .int))
theorem pn_X2_value : plainFor yX2_value = true := by decide +kernel
theorem mc_X2_value : Cond.code yX2_value cX2_value 8 (some .int) ∈ lwG := lwc_4 162 (by decide +kernel) (by decide +kernel)
theorem mi_X2_value : Cond.instanceMethod yX2_value ∈ lwG := lwc_4 160 (by decide +kernel) (by decide +kernel)
theorem ms_X2_value : Cond.selects RX2 yX2_value yX2_value ∈ lwG := lwc_4 161 (by decide +kernel) (by decide +kernel)
abbrev M_X3_add : MI := (yX3_add, cX3_add, 2, none)
theorem pn_X3_add : plainFor yX3_add = true := by decide +kernel
theorem mc_X3_add : Cond.code yX3_add cX3_add 2 none ∈ lwG := lwc_5 210 (by decide +kernel) (by decide +kernel)
theorem mi_X3_add : Cond.instanceMethod yX3_add ∈ lwG := lwc_5 209 (by decide +kernel) (by decide +kernel)
theorem ms_X3_add : Cond.selects RX3 yX3_add yX3_add ∈ lwG := lwG_of 51 (by decide +kernel) (by decide +kernel)
abbrev M_X3_addPair : MI := (yX3_addPair, cX3_addPair, 2, none)
theorem pn_X3_addPair : plainFor yX3_addPair = true := by decide +kernel
theorem mc_X3_addPair : Cond.code yX3_addPair cX3_addPair 2 none ∈ lwG := lwc_5 206 (by decide +kernel) (by decide +kernel)
theorem mi_X3_addPair : Cond.instanceMethod yX3_addPair ∈ lwG := lwc_5 205 (by decide +kernel) (by decide +kernel)
theorem ms_X3_addPair : Cond.selects RX3 yX3_addPair yX3_addPair ∈ lwG := lwG_of 50 (by decide +kernel) (by decide +kernel)
abbrev M_X9_childCount : MI := (yX9_childCount, cX9_childCount, 1, (some .int))
theorem pn_X9_childCount : plainFor yX9_childCount = true := by decide +kernel
theorem mc_X9_childCount : Cond.code yX9_childCount cX9_childCount 1 (some .int) ∈ lwG := lwc_3 121 (by decide +kernel) (by decide +kernel)
theorem mi_X9_childCount : Cond.instanceMethod yX9_childCount ∈ lwG := lwc_3 119 (by decide +kernel) (by decide +kernel)
theorem ms_X9_childCount : Cond.selects RX9 yX9_childCount yX9_childCount ∈ lwG := lwc_3 120 (by decide +kernel) (by decide +kernel)
abbrev M_X11_wallAt : MI := (yX11_wallAt, cX11_wallAt, 1, (some .int))
theorem pn_X11_wallAt : plainFor yX11_wallAt = true := by decide +kernel
theorem mc_X11_wallAt : Cond.code yX11_wallAt cX11_wallAt 1 (some .int) ∈ lwG := lwc_4 95 (by decide +kernel) (by decide +kernel)
theorem mi_X11_wallAt : Cond.static yX11_wallAt ∈ lwG := lwc_4 94 (by decide +kernel) (by decide +kernel)
abbrev M_X3_sumWith : MI := (yX3_sumWith, cX3_sumWith, 2, (some .int))
theorem pn_X3_sumWith : plainFor yX3_sumWith = true := by decide +kernel
theorem mc_X3_sumWith : Cond.code yX3_sumWith cX3_sumWith 2 (some .int) ∈ lwG := lwc_5 215 (by decide +kernel) (by decide +kernel)
theorem mi_X3_sumWith : Cond.static yX3_sumWith ∈ lwG := lwc_5 214 (by decide +kernel) (by decide +kernel)
abbrev M_X3_write : MI := (yX3_write, cX3_write, 5, none)
theorem pn_X3_write : plainFor yX3_write = true := by decide +kernel
theorem mc_X3_write : Cond.code yX3_write cX3_write 5 none ∈ lwG := lwc_5 202 (by decide +kernel) (by decide +kernel)
theorem mi_X3_write : Cond.instanceMethod yX3_write ∈ lwG := lwc_5 200 (by decide +kernel) (by decide +kernel)
theorem ms_X3_write : Cond.selects RX3 yX3_write yX3_write ∈ lwG := lwc_5 201 (by decide +kernel) (by decide +kernel)
abbrev M_X8_byteAt : MI := (yX8_byteAt, cX8_byteAt, 2, (some .int))
theorem pn_X8_byteAt : plainFor yX8_byteAt = true := by decide +kernel
theorem mc_X8_byteAt : Cond.code yX8_byteAt cX8_byteAt 2 (some .int) ∈ lwG := lwc_3 19 (by decide +kernel) (by decide +kernel)
theorem mi_X8_byteAt : Cond.instanceMethod yX8_byteAt ∈ lwG := lwc_3 17 (by decide +kernel) (by decide +kernel)
theorem ms_X8_byteAt : Cond.selects RX8 yX8_byteAt yX8_byteAt ∈ lwG := lwc_3 18 (by decide +kernel) (by decide +kernel)
abbrev M_X3_sumFits : MI := (yX3_sumFits, cX3_sumFits, 3, (some .boolean))
theorem pn_X3_sumFits : plainFor yX3_sumFits = true := by decide +kernel
theorem mc_X3_sumFits : Cond.code yX3_sumFits cX3_sumFits 3 (some .boolean) ∈ lwG := lwc_5 229 (by decide +kernel) (by decide +kernel)
theorem mi_X3_sumFits : Cond.static yX3_sumFits ∈ lwG := lwc_5 228 (by decide +kernel) (by decide +kernel)
abbrev M_X11_clearCounts : MI := (yX11_clearCounts, cX11_clearCounts, 1, none)
theorem pn_X11_clearCounts : plainFor yX11_clearCounts = true := by decide +kernel
theorem mc_X11_clearCounts : Cond.code yX11_clearCounts cX11_clearCounts 1 none ∈ lwG := lwc_2 26 (by decide +kernel) (by decide +kernel)
theorem mi_X11_clearCounts : Cond.instanceMethod yX11_clearCounts ∈ lwG := lwc_2 25 (by decide +kernel) (by decide +kernel)
theorem ms_X11_clearCounts : Cond.selects RX11 yX11_clearCounts yX11_clearCounts ∈ lwG := lwG_of 0 (by decide +kernel) (by decide +kernel)
abbrev M_X11_begin : MI := (yX11_begin, cX11_begin, 2, none)
theorem pn_X11_begin : plainFor yX11_begin = true := by decide +kernel
theorem mc_X11_begin : Cond.code yX11_begin cX11_begin 2 none ∈ lwG := lwc_2 14 (by decide +kernel) (by decide +kernel)
theorem mi_X11_begin : Cond.instanceMethod yX11_begin ∈ lwG := lwc_2 12 (by decide +kernel) (by decide +kernel)
theorem ms_X11_begin : Cond.selects RX11 yX11_begin yX11_begin ∈ lwG := lwc_2 13 (by decide +kernel) (by decide +kernel)
abbrev M_X8_pairAt : MI := (yX8_pairAt, cX8_pairAt, 2, (some .int))
theorem pn_X8_pairAt : plainFor yX8_pairAt = true := by decide +kernel
theorem mc_X8_pairAt : Cond.code yX8_pairAt cX8_pairAt 2 (some .int) ∈ lwG := lwc_5 109 (by decide +kernel) (by decide +kernel)
theorem mi_X8_pairAt : Cond.instanceMethod yX8_pairAt ∈ lwG := lwc_5 107 (by decide +kernel) (by decide +kernel)
theorem ms_X8_pairAt : Cond.selects RX8 yX8_pairAt yX8_pairAt ∈ lwG := lwc_5 108 (by decide +kernel) (by decide +kernel)
abbrev M_X9_homeCount : MI := (yX9_homeCount, cX9_homeCount, 1, (some .int))
theorem pn_X9_homeCount : plainFor yX9_homeCount = true := by decide +kernel
theorem mc_X9_homeCount : Cond.code yX9_homeCount cX9_homeCount 1 (some .int) ∈ lwG := lwc_3 76 (by decide +kernel) (by decide +kernel)
theorem mi_X9_homeCount : Cond.instanceMethod yX9_homeCount ∈ lwG := lwc_3 74 (by decide +kernel) (by decide +kernel)
theorem ms_X9_homeCount : Cond.selects RX9 yX9_homeCount yX9_homeCount ∈ lwG := lwc_3 75 (by decide +kernel) (by decide +kernel)
abbrev M_X9_wallCount : MI := (yX9_wallCount, cX9_wallCount, 1, (some .int))
theorem pn_X9_wallCount : plainFor yX9_wallCount = true := by decide +kernel
theorem mc_X9_wallCount : Cond.code yX9_wallCount cX9_wallCount 1 (some .int) ∈ lwG := lwc_3 155 (by decide +kernel) (by decide +kernel)
theorem mi_X9_wallCount : Cond.instanceMethod yX9_wallCount ∈ lwG := lwc_3 153 (by decide +kernel) (by decide +kernel)
theorem ms_X9_wallCount : Cond.selects RX9 yX9_wallCount yX9_wallCount ∈ lwG := lwc_3 154 (by decide +kernel) (by decide +kernel)
abbrev M_X11_age : MI := (yX11_age, cX11_age, 2, (some .int))
theorem pn_X11_age : plainFor yX11_age = true := by decide +kernel
theorem mc_X11_age : Cond.code yX11_age cX11_age 2 (some .int) ∈ lwG := lwc_4 49 (by decide +kernel) (by decide +kernel)
theorem mi_X11_age : Cond.instanceMethod yX11_age ∈ lwG := lwc_4 47 (by decide +kernel) (by decide +kernel)
theorem ms_X11_age : Cond.selects RX11 yX11_age yX11_age ∈ lwG := lwc_4 48 (by decide +kernel) (by decide +kernel)
abbrev M_X11_isDone : MI := (yX11_isDone, cX11_isDone, 2, (some .boolean))
theorem pn_X11_isDone : plainFor yX11_isDone = true := by decide +kernel
theorem mc_X11_isDone : Cond.code yX11_isDone cX11_isDone 2 (some .boolean) ∈ lwG := lwc_4 45 (by decide +kernel) (by decide +kernel)
theorem mi_X11_isDone : Cond.instanceMethod yX11_isDone ∈ lwG := lwc_4 43 (by decide +kernel) (by decide +kernel)
theorem ms_X11_isDone : Cond.selects RX11 yX11_isDone yX11_isDone ∈ lwG := lwc_4 44 (by decide +kernel) (by decide +kernel)
abbrev M_X11_spot : MI := (yX11_spot, cX11_spot, 3, (some .int))
theorem pn_X11_spot : plainFor yX11_spot = true := by decide +kernel
theorem mc_X11_spot : Cond.code yX11_spot cX11_spot 3 (some .int) ∈ lwG := lwc_4 122 (by decide +kernel) (by decide +kernel)
theorem mi_X11_spot : Cond.static yX11_spot ∈ lwG := lwc_4 121 (by decide +kernel) (by decide +kernel)
abbrev M_X3_readStone : MI := (yX3_readStone, cX3_readStone, 11, (some .boolean))
theorem pn_X3_readStone : plainFor yX3_readStone = true := by decide +kernel
theorem mc_X3_readStone : Cond.code yX3_readStone cX3_readStone 11 (some .boolean) ∈ lwG := lwc_5 235 (by decide +kernel) (by decide +kernel)
theorem mi_X3_readStone : Cond.static yX3_readStone ∈ lwG := lwc_5 234 (by decide +kernel) (by decide +kernel)
abbrev M_X3_allRest : MI := (yX3_allRest, cX3_allRest, 3, (some .boolean))
theorem pn_X3_allRest : plainFor yX3_allRest = true := by decide +kernel
theorem mc_X3_allRest : Cond.code yX3_allRest cX3_allRest 3 (some .boolean) ∈ lwG := lwc_6 3 (by decide +kernel) (by decide +kernel)
theorem mi_X3_allRest : Cond.static yX3_allRest ∈ lwG := lwc_6 2 (by decide +kernel) (by decide +kernel)
abbrev M_X3_read : MI := (yX3_read, cX3_read, 7, (some .boolean))
theorem pn_X3_read : plainFor yX3_read = true := by decide +kernel
theorem mc_X3_read : Cond.code yX3_read cX3_read 7 (some .boolean) ∈ lwG := lwc_5 226 (by decide +kernel) (by decide +kernel)
theorem mi_X3_read : Cond.static yX3_read ∈ lwG := lwc_5 225 (by decide +kernel) (by decide +kernel)
abbrev M_X9_clear : MI := (yX9_clear, cX9_clear, 1, none)
theorem pn_X9_clear : plainFor yX9_clear = true := by decide +kernel
theorem mc_X9_clear : Cond.code yX9_clear cX9_clear 1 none ∈ lwG := lwc_1 77 (by decide +kernel) (by decide +kernel)
theorem mi_X9_clear : Cond.instanceMethod yX9_clear ∈ lwG := lwc_1 75 (by decide +kernel) (by decide +kernel)
theorem ms_X9_clear : Cond.selects RX9 yX9_clear yX9_clear ∈ lwG := lwc_1 76 (by decide +kernel) (by decide +kernel)
abbrev M_X6_open : MI := (yX6_open, cX6_open, 1, none)
theorem pn_X6_open : plainFor yX6_open = true := by decide +kernel
theorem mc_X6_open : Cond.code yX6_open cX6_open 1 none ∈ lwG := lwc_3 3 (by decide +kernel) (by decide +kernel)
theorem mi_X6_open : Cond.instanceMethod yX6_open ∈ lwG := lwc_3 1 (by decide +kernel) (by decide +kernel)
theorem ms_X6_open : Cond.selects RX6 yX6_open yX6_open ∈ lwG := lwc_3 2 (by decide +kernel) (by decide +kernel)
abbrev M_X4_begin : MI := (yX4_begin, cX4_begin, 2, none)
theorem pn_X4_begin : plainFor yX4_begin = true := by decide +kernel
theorem mc_X4_begin : Cond.code yX4_begin cX4_begin 2 none ∈ lwG := lwc_2 238 (by decide +kernel) (by decide +kernel)
theorem mi_X4_begin : Cond.instanceMethod yX4_begin ∈ lwG := lwc_2 236 (by decide +kernel) (by decide +kernel)
theorem ms_X4_begin : Cond.selects RX4 yX4_begin yX4_begin ∈ lwG := lwc_2 237 (by decide +kernel) (by decide +kernel)
abbrev M_X6_isGood : MI := (yX6_isGood, cX6_isGood, 1, (some .boolean))
theorem pn_X6_isGood : plainFor yX6_isGood = true := by decide +kernel
theorem mc_X6_isGood : Cond.code yX6_isGood cX6_isGood 1 (some .boolean) ∈ lwG := lwc_3 11 (by decide +kernel) (by decide +kernel)
theorem mi_X6_isGood : Cond.instanceMethod yX6_isGood ∈ lwG := lwc_3 9 (by decide +kernel) (by decide +kernel)
theorem ms_X6_isGood : Cond.selects RX6 yX6_isGood yX6_isGood ∈ lwG := lwc_3 10 (by decide +kernel) (by decide +kernel)
abbrev M_X6_isBlank : MI := (yX6_isBlank, cX6_isBlank, 1, (some .boolean))
theorem pn_X6_isBlank : plainFor yX6_isBlank = true := by decide +kernel
theorem mc_X6_isBlank : Cond.code yX6_isBlank cX6_isBlank 1 (some .boolean) ∈ lwG := lwc_3 22 (by decide +kernel) (by decide +kernel)
theorem mi_X6_isBlank : Cond.static yX6_isBlank ∈ lwG := lwc_3 21 (by decide +kernel) (by decide +kernel)
abbrev M_X6_goesOn : MI := (yX6_goesOn, cX6_goesOn, 1, (some .boolean))
theorem pn_X6_goesOn : plainFor yX6_goesOn = true := by decide +kernel
theorem mc_X6_goesOn : Cond.code yX6_goesOn cX6_goesOn 1 (some .boolean) ∈ lwG := lwc_3 15 (by decide +kernel) (by decide +kernel)
theorem mi_X6_goesOn : Cond.instanceMethod yX6_goesOn ∈ lwG := lwc_3 13 (by decide +kernel) (by decide +kernel)
theorem ms_X6_goesOn : Cond.selects RX6 yX6_goesOn yX6_goesOn ∈ lwG := lwc_3 14 (by decide +kernel) (by decide +kernel)
abbrev M_X4_hasMore : MI := (yX4_hasMore, cX4_hasMore, 1, (some .boolean))
theorem pn_X4_hasMore : plainFor yX4_hasMore = true := by decide +kernel
theorem mc_X4_hasMore : Cond.code yX4_hasMore cX4_hasMore 1 (some .boolean) ∈ lwG := lwc_3 7 (by decide +kernel) (by decide +kernel)
theorem mi_X4_hasMore : Cond.instanceMethod yX4_hasMore ∈ lwG := lwc_3 5 (by decide +kernel) (by decide +kernel)
theorem ms_X4_hasMore : Cond.selects RX4 yX4_hasMore yX4_hasMore ∈ lwG := lwc_3 6 (by decide +kernel) (by decide +kernel)
abbrev M_X6_fail : MI := (yX6_fail, cX6_fail, 3, none)
theorem pn_X6_fail : plainFor yX6_fail = true := by decide +kernel
theorem mc_X6_fail : Cond.code yX6_fail cX6_fail 3 none ∈ lwG := lwc_3 30 (by decide +kernel) (by decide +kernel)
theorem mi_X6_fail : Cond.instanceMethod yX6_fail ∈ lwG := lwc_3 28 (by decide +kernel) (by decide +kernel)
theorem ms_X6_fail : Cond.selects RX6 yX6_fail yX6_fail ∈ lwG := lwc_3 29 (by decide +kernel) (by decide +kernel)
abbrev M_X6_isLetter : MI := (yX6_isLetter, cX6_isLetter, 1, (some .boolean))
theorem pn_X6_isLetter : plainFor yX6_isLetter = true := by decide +kernel
theorem mc_X6_isLetter : Cond.code yX6_isLetter cX6_isLetter 1 (some .boolean) ∈ lwG := lwc_3 42 (by decide +kernel) (by decide +kernel)
theorem mi_X6_isLetter : Cond.static yX6_isLetter ∈ lwG := lwc_3 41 (by decide +kernel) (by decide +kernel)
abbrev M_X6_isDigit : MI := (yX6_isDigit, cX6_isDigit, 1, (some .boolean))
theorem pn_X6_isDigit : plainFor yX6_isDigit = true := by decide +kernel
theorem mc_X6_isDigit : Cond.code yX6_isDigit cX6_isDigit 1 (some .boolean) ∈ lwG := lwc_3 45 (by decide +kernel) (by decide +kernel)
theorem mi_X6_isDigit : Cond.static yX6_isDigit ∈ lwG := lwc_3 44 (by decide +kernel) (by decide +kernel)
abbrev M_X6_joins : MI := (yX6_joins, cX6_joins, 2, (some .boolean))
theorem pn_X6_joins : plainFor yX6_joins = true := by decide +kernel
theorem mc_X6_joins : Cond.code yX6_joins cX6_joins 2 (some .boolean) ∈ lwG := lwc_3 39 (by decide +kernel) (by decide +kernel)
theorem mi_X6_joins : Cond.instanceMethod yX6_joins ∈ lwG := lwc_3 38 (by decide +kernel) (by decide +kernel)
theorem ms_X6_joins : Cond.selects RX6 yX6_joins yX6_joins ∈ lwG := lwG_of 2 (by decide +kernel) (by decide +kernel)
abbrev M_X6_failHere : MI := (yX6_failHere, cX6_failHere, 2, none)
theorem pn_X6_failHere : plainFor yX6_failHere = true := by decide +kernel
theorem mc_X6_failHere : Cond.code yX6_failHere cX6_failHere 2 none ∈ lwG := lwc_3 49 (by decide +kernel) (by decide +kernel)
theorem mi_X6_failHere : Cond.instanceMethod yX6_failHere ∈ lwG := lwc_3 47 (by decide +kernel) (by decide +kernel)
theorem ms_X6_failHere : Cond.selects RX6 yX6_failHere yX6_failHere ∈ lwG := lwc_3 48 (by decide +kernel) (by decide +kernel)
abbrev M_X6_readWord : MI := (yX6_readWord, cX6_readWord, 2, none)
theorem pn_X6_readWord : plainFor yX6_readWord = true := by decide +kernel
theorem mc_X6_readWord : Cond.code yX6_readWord cX6_readWord 2 none ∈ lwG := lwc_3 54 (by decide +kernel) (by decide +kernel)
theorem mi_X6_readWord : Cond.instanceMethod yX6_readWord ∈ lwG := lwc_3 53 (by decide +kernel) (by decide +kernel)
theorem ms_X6_readWord : Cond.selects RX6 yX6_readWord yX6_readWord ∈ lwG := lwG_of 3 (by decide +kernel) (by decide +kernel)
abbrev M_X6_readNumber : MI := (yX6_readNumber, cX6_readNumber, 1, none)
theorem pn_X6_readNumber : plainFor yX6_readNumber = true := by decide +kernel
theorem mc_X6_readNumber : Cond.code yX6_readNumber cX6_readNumber 1 none ∈ lwG := lwc_3 60 (by decide +kernel) (by decide +kernel)
theorem mi_X6_readNumber : Cond.instanceMethod yX6_readNumber ∈ lwG := lwc_3 59 (by decide +kernel) (by decide +kernel)
theorem ms_X6_readNumber : Cond.selects RX6 yX6_readNumber yX6_readNumber ∈ lwG := lwG_of 4 (by decide +kernel) (by decide +kernel)
abbrev M_X6_advance : MI := (yX6_advance, cX6_advance, 2, none)
theorem pn_X6_advance : plainFor yX6_advance = true := by decide +kernel
theorem mc_X6_advance : Cond.code yX6_advance cX6_advance 2 none ∈ lwG := lwc_3 34 (by decide +kernel) (by decide +kernel)
theorem mi_X6_advance : Cond.instanceMethod yX6_advance ∈ lwG := lwc_3 32 (by decide +kernel) (by decide +kernel)
theorem ms_X6_advance : Cond.selects RX6 yX6_advance yX6_advance ∈ lwG := lwc_3 33 (by decide +kernel) (by decide +kernel)
abbrev M_X4_limit : MI := (yX4_limit, cX4_limit, 3, none)
theorem pn_X4_limit : plainFor yX4_limit = true := by decide +kernel
theorem mc_X4_limit : Cond.code yX4_limit cX4_limit 3 none ∈ lwG := lwc_3 80 (by decide +kernel) (by decide +kernel)
theorem mi_X4_limit : Cond.instanceMethod yX4_limit ∈ lwG := lwc_3 79 (by decide +kernel) (by decide +kernel)
theorem ms_X4_limit : Cond.selects RX4 yX4_limit yX4_limit ∈ lwG := lwG_of 6 (by decide +kernel) (by decide +kernel)
abbrev M_X6_isName : MI := (yX6_isName, cX6_isName, 1, (some .boolean))
theorem pn_X6_isName : plainFor yX6_isName = true := by decide +kernel
theorem mc_X6_isName : Cond.code yX6_isName cX6_isName 1 (some .boolean) ∈ lwG := lwc_3 89 (by decide +kernel) (by decide +kernel)
theorem mi_X6_isName : Cond.instanceMethod yX6_isName ∈ lwG := lwc_3 87 (by decide +kernel) (by decide +kernel)
theorem ms_X6_isName : Cond.selects RX6 yX6_isName yX6_isName ∈ lwG := lwc_3 88 (by decide +kernel) (by decide +kernel)
abbrev M_X9_find : MI := (yX9_find, cX9_find, 4, (some .int))
theorem pn_X9_find : plainFor yX9_find = true := by decide +kernel
theorem mc_X9_find : Cond.code yX9_find cX9_find 4 (some .int) ∈ lwG := lwc_3 97 (by decide +kernel) (by decide +kernel)
theorem mi_X9_find : Cond.instanceMethod yX9_find ∈ lwG := lwc_3 95 (by decide +kernel) (by decide +kernel)
theorem ms_X9_find : Cond.selects RX9 yX9_find yX9_find ∈ lwG := lwc_3 96 (by decide +kernel) (by decide +kernel)
abbrev M_X9_knows : MI := (yX9_knows, cX9_knows, 2, (some .boolean))
theorem pn_X9_knows : plainFor yX9_knows = true := by decide +kernel
theorem mc_X9_knows : Cond.code yX9_knows cX9_knows 2 (some .boolean) ∈ lwG := lwc_3 93 (by decide +kernel) (by decide +kernel)
theorem mi_X9_knows : Cond.instanceMethod yX9_knows ∈ lwG := lwc_3 91 (by decide +kernel) (by decide +kernel)
theorem ms_X9_knows : Cond.selects RX9 yX9_knows yX9_knows ∈ lwG := lwc_3 92 (by decide +kernel) (by decide +kernel)
abbrev M_X4_newName : MI := (yX4_newName, cX4_newName, 2, (some .int))
theorem pn_X4_newName : plainFor yX4_newName = true := by decide +kernel
theorem mc_X4_newName : Cond.code yX4_newName cX4_newName 2 (some .int) ∈ lwG := lwc_3 85 (by decide +kernel) (by decide +kernel)
theorem mi_X4_newName : Cond.instanceMethod yX4_newName ∈ lwG := lwc_3 84 (by decide +kernel) (by decide +kernel)
theorem ms_X4_newName : Cond.selects RX4 yX4_newName yX4_newName ∈ lwG := lwG_of 7 (by decide +kernel) (by decide +kernel)
abbrev M_X4_own : MI := (yX4_own, cX4_own, 2, none)
theorem pn_X4_own : plainFor yX4_own = true := by decide +kernel
theorem mc_X4_own : Cond.code yX4_own cX4_own 2 none ∈ lwG := lwc_3 103 (by decide +kernel) (by decide +kernel)
theorem mi_X4_own : Cond.instanceMethod yX4_own ∈ lwG := lwc_3 102 (by decide +kernel) (by decide +kernel)
theorem ms_X4_own : Cond.selects RX4 yX4_own yX4_own ∈ lwG := lwG_of 8 (by decide +kernel) (by decide +kernel)
abbrev M_X4_number : MI := (yX4_number, cX4_number, 4, (some .int))
theorem pn_X4_number : plainFor yX4_number = true := by decide +kernel
theorem mc_X4_number : Cond.code yX4_number cX4_number 4 (some .int) ∈ lwG := lwc_3 107 (by decide +kernel) (by decide +kernel)
theorem mi_X4_number : Cond.instanceMethod yX4_number ∈ lwG := lwc_3 106 (by decide +kernel) (by decide +kernel)
theorem ms_X4_number : Cond.selects RX4 yX4_number yX4_number ∈ lwG := lwG_of 9 (by decide +kernel) (by decide +kernel)
abbrev M_X9_addName : MI := (yX9_addName, cX9_addName, 3, none)
theorem pn_X9_addName : plainFor yX9_addName = true := by decide +kernel
theorem mc_X9_addName : Cond.code yX9_addName cX9_addName 3 none ∈ lwG := lwc_3 113 (by decide +kernel) (by decide +kernel)
theorem mi_X9_addName : Cond.instanceMethod yX9_addName ∈ lwG := lwc_3 111 (by decide +kernel) (by decide +kernel)
theorem ms_X9_addName : Cond.selects RX9 yX9_addName yX9_addName ∈ lwG := lwc_3 112 (by decide +kernel) (by decide +kernel)
abbrev M_X4_homeLine : MI := (yX4_homeLine, cX4_homeLine, 5, none)
theorem pn_X4_homeLine : plainFor yX4_homeLine = true := by decide +kernel
theorem mc_X4_homeLine : Cond.code yX4_homeLine cX4_homeLine 5 none ∈ lwG := lwc_3 72 (by decide +kernel) (by decide +kernel)
theorem mi_X4_homeLine : Cond.instanceMethod yX4_homeLine ∈ lwG := lwc_3 71 (by decide +kernel) (by decide +kernel)
theorem ms_X4_homeLine : Cond.selects RX4 yX4_homeLine yX4_homeLine ∈ lwG := lwG_of 5 (by decide +kernel) (by decide +kernel)
abbrev M_X4_known : MI := (yX4_known, cX4_known, 4, (some .int))
theorem pn_X4_known : plainFor yX4_known = true := by decide +kernel
theorem mc_X4_known : Cond.code yX4_known cX4_known 4 (some .int) ∈ lwG := lwc_3 127 (by decide +kernel) (by decide +kernel)
theorem mi_X4_known : Cond.instanceMethod yX4_known ∈ lwG := lwc_3 126 (by decide +kernel) (by decide +kernel)
theorem ms_X4_known : Cond.selects RX4 yX4_known yX4_known ∈ lwG := lwG_of 11 (by decide +kernel) (by decide +kernel)
abbrev M_X4_childLine : MI := (yX4_childLine, cX4_childLine, 5, none)
theorem pn_X4_childLine : plainFor yX4_childLine = true := by decide +kernel
theorem mc_X4_childLine : Cond.code yX4_childLine cX4_childLine 5 none ∈ lwG := lwc_3 117 (by decide +kernel) (by decide +kernel)
theorem mi_X4_childLine : Cond.instanceMethod yX4_childLine ∈ lwG := lwc_3 116 (by decide +kernel) (by decide +kernel)
theorem ms_X4_childLine : Cond.selects RX4 yX4_childLine yX4_childLine ∈ lwG := lwG_of 10 (by decide +kernel) (by decide +kernel)
abbrev M_X9_twins : MI := (yX9_twins, cX9_twins, 3, (some .int))
theorem pn_X9_twins : plainFor yX9_twins = true := by decide +kernel
theorem mc_X9_twins : Cond.code yX9_twins cX9_twins 3 (some .int) ∈ lwG := lwc_3 138 (by decide +kernel) (by decide +kernel)
theorem mi_X9_twins : Cond.instanceMethod yX9_twins ∈ lwG := lwc_3 136 (by decide +kernel) (by decide +kernel)
theorem ms_X9_twins : Cond.selects RX9 yX9_twins yX9_twins ∈ lwG := lwc_3 137 (by decide +kernel) (by decide +kernel)
abbrev M_X4_twinsLine : MI := (yX4_twinsLine, cX4_twinsLine, 4, none)
theorem pn_X4_twinsLine : plainFor yX4_twinsLine = true := by decide +kernel
theorem mc_X4_twinsLine : Cond.code yX4_twinsLine cX4_twinsLine 4 none ∈ lwG := lwc_3 134 (by decide +kernel) (by decide +kernel)
theorem mi_X4_twinsLine : Cond.instanceMethod yX4_twinsLine ∈ lwG := lwc_3 133 (by decide +kernel) (by decide +kernel)
theorem ms_X4_twinsLine : Cond.selects RX4 yX4_twinsLine yX4_twinsLine ∈ lwG := lwG_of 12 (by decide +kernel) (by decide +kernel)
abbrev M_X9_foes : MI := (yX9_foes, cX9_foes, 6, (some .int))
theorem pn_X9_foes : plainFor yX9_foes = true := by decide +kernel
theorem mc_X9_foes : Cond.code yX9_foes cX9_foes 6 (some .int) ∈ lwG := lwc_3 147 (by decide +kernel) (by decide +kernel)
theorem mi_X9_foes : Cond.instanceMethod yX9_foes ∈ lwG := lwc_3 145 (by decide +kernel) (by decide +kernel)
theorem ms_X9_foes : Cond.selects RX9 yX9_foes yX9_foes ∈ lwG := lwc_3 146 (by decide +kernel) (by decide +kernel)
abbrev M_X4_feudLine : MI := (yX4_feudLine, cX4_feudLine, 3, none)
theorem pn_X4_feudLine : plainFor yX4_feudLine = true := by decide +kernel
theorem mc_X4_feudLine : Cond.code yX4_feudLine cX4_feudLine 3 none ∈ lwG := lwc_3 143 (by decide +kernel) (by decide +kernel)
theorem mi_X4_feudLine : Cond.instanceMethod yX4_feudLine ∈ lwG := lwc_3 142 (by decide +kernel) (by decide +kernel)
theorem ms_X4_feudLine : Cond.selects RX4 yX4_feudLine yX4_feudLine ∈ lwG := lwG_of 13 (by decide +kernel) (by decide +kernel)
abbrev M_X4_wallLine : MI := (yX4_wallLine, cX4_wallLine, 5, none)
theorem pn_X4_wallLine : plainFor yX4_wallLine = true := by decide +kernel
theorem mc_X4_wallLine : Cond.code yX4_wallLine cX4_wallLine 5 none ∈ lwG := lwc_3 151 (by decide +kernel) (by decide +kernel)
theorem mi_X4_wallLine : Cond.instanceMethod yX4_wallLine ∈ lwG := lwc_3 150 (by decide +kernel) (by decide +kernel)
theorem ms_X4_wallLine : Cond.selects RX4 yX4_wallLine yX4_wallLine ∈ lwG := lwG_of 14 (by decide +kernel) (by decide +kernel)
abbrev M_X6_isSign : MI := (yX6_isSign, cX6_isSign, 2, (some .boolean))
theorem pn_X6_isSign : plainFor yX6_isSign = true := by decide +kernel
theorem mc_X6_isSign : Cond.code yX6_isSign cX6_isSign 2 (some .boolean) ∈ lwG := lwc_3 189 (by decide +kernel) (by decide +kernel)
theorem mi_X6_isSign : Cond.instanceMethod yX6_isSign ∈ lwG := lwc_3 187 (by decide +kernel) (by decide +kernel)
theorem ms_X6_isSign : Cond.selects RX6 yX6_isSign yX6_isSign ∈ lwG := lwc_3 188 (by decide +kernel) (by decide +kernel)
abbrev M_X4_goDeeper : MI := (yX4_goDeeper, cX4_goDeeper, 1, none)
theorem pn_X4_goDeeper : plainFor yX4_goDeeper = true := by decide +kernel
theorem mc_X4_goDeeper : Cond.code yX4_goDeeper cX4_goDeeper 1 none ∈ lwG := lwc_3 181 (by decide +kernel) (by decide +kernel)
theorem mi_X4_goDeeper : Cond.instanceMethod yX4_goDeeper ∈ lwG := lwc_3 180 (by decide +kernel) (by decide +kernel)
theorem ms_X4_goDeeper : Cond.selects RX4 yX4_goDeeper yX4_goDeeper ∈ lwG := lwG_of 19 (by decide +kernel) (by decide +kernel)
abbrev M_X4_sign : MI := (yX4_sign, cX4_sign, 2, none)
theorem pn_X4_sign : plainFor yX4_sign = true := by decide +kernel
theorem mc_X4_sign : Cond.code yX4_sign cX4_sign 2 none ∈ lwG := lwc_3 193 (by decide +kernel) (by decide +kernel)
theorem mi_X4_sign : Cond.instanceMethod yX4_sign ∈ lwG := lwc_3 192 (by decide +kernel) (by decide +kernel)
theorem ms_X4_sign : Cond.selects RX4 yX4_sign yX4_sign ∈ lwG := lwG_of 20 (by decide +kernel) (by decide +kernel)
abbrev M_X4_factWord : MI := (yX4_factWord, cX4_factWord, 2, none)
theorem pn_X4_factWord : plainFor yX4_factWord = true := by decide +kernel
theorem mc_X4_factWord : Cond.code yX4_factWord cX4_factWord 2 none ∈ lwG := lwc_3 225 (by decide +kernel) (by decide +kernel)
theorem mi_X4_factWord : Cond.instanceMethod yX4_factWord ∈ lwG := lwc_3 224 (by decide +kernel) (by decide +kernel)
theorem ms_X4_factWord : Cond.selects RX4 yX4_factWord yX4_factWord ∈ lwG := lwG_of 26 (by decide +kernel) (by decide +kernel)
abbrev M_X4_chosenPart : MI := (yX4_chosenPart, cX4_chosenPart, 2, none)
theorem pn_X4_chosenPart : plainFor yX4_chosenPart = true := by decide +kernel
theorem mc_X4_chosenPart : Cond.code yX4_chosenPart cX4_chosenPart 2 none ∈ lwG := lwc_3 217 (by decide +kernel) (by decide +kernel)
theorem mi_X4_chosenPart : Cond.instanceMethod yX4_chosenPart ∈ lwG := lwc_3 216 (by decide +kernel) (by decide +kernel)
theorem ms_X4_chosenPart : Cond.selects RX4 yX4_chosenPart yX4_chosenPart ∈ lwG := lwG_of 25 (by decide +kernel) (by decide +kernel)
abbrev M_X4_comparePart : MI := (yX4_comparePart, cX4_comparePart, 2, none)
theorem pn_X4_comparePart : plainFor yX4_comparePart = true := by decide +kernel
theorem mc_X4_comparePart : Cond.code yX4_comparePart cX4_comparePart 2 none ∈ lwG := lwc_3 199 (by decide +kernel) (by decide +kernel)
theorem mi_X4_comparePart : Cond.instanceMethod yX4_comparePart ∈ lwG := lwc_3 198 (by decide +kernel) (by decide +kernel)
theorem ms_X4_comparePart : Cond.selects RX4 yX4_comparePart yX4_comparePart ∈ lwG := lwG_of 21 (by decide +kernel) (by decide +kernel)
abbrev M_X4_factPart : MI := (yX4_factPart, cX4_factPart, 1, none)
theorem pn_X4_factPart : plainFor yX4_factPart = true := by decide +kernel
theorem mc_X4_factPart : Cond.code yX4_factPart cX4_factPart 1 none ∈ lwG := lwc_3 175 (by decide +kernel) (by decide +kernel)
theorem mi_X4_factPart : Cond.instanceMethod yX4_factPart ∈ lwG := lwc_3 174 (by decide +kernel) (by decide +kernel)
theorem ms_X4_factPart : Cond.selects RX4 yX4_factPart yX4_factPart ∈ lwG := lwG_of 18 (by decide +kernel) (by decide +kernel)
abbrev M_X4_productPart : MI := (yX4_productPart, cX4_productPart, 3, none)
theorem pn_X4_productPart : plainFor yX4_productPart = true := by decide +kernel
theorem mc_X4_productPart : Cond.code yX4_productPart cX4_productPart 3 none ∈ lwG := lwc_3 207 (by decide +kernel) (by decide +kernel)
theorem mi_X4_productPart : Cond.instanceMethod yX4_productPart ∈ lwG := lwc_3 206 (by decide +kernel) (by decide +kernel)
theorem ms_X4_productPart : Cond.selects RX4 yX4_productPart yX4_productPart ∈ lwG := lwG_of 23 (by decide +kernel) (by decide +kernel)
abbrev M_X4_singlePart : MI := (yX4_singlePart, cX4_singlePart, 1, none)
theorem pn_X4_singlePart : plainFor yX4_singlePart = true := by decide +kernel
theorem mc_X4_singlePart : Cond.code yX4_singlePart cX4_singlePart 1 none ∈ lwG := lwc_3 211 (by decide +kernel) (by decide +kernel)
theorem mi_X4_singlePart : Cond.instanceMethod yX4_singlePart ∈ lwG := lwc_3 210 (by decide +kernel) (by decide +kernel)
theorem ms_X4_singlePart : Cond.selects RX4 yX4_singlePart yX4_singlePart ∈ lwG := lwG_of 24 (by decide +kernel) (by decide +kernel)
abbrev M_X4_sumPart : MI := (yX4_sumPart, cX4_sumPart, 3, none)
theorem pn_X4_sumPart : plainFor yX4_sumPart = true := by decide +kernel
theorem mc_X4_sumPart : Cond.code yX4_sumPart cX4_sumPart 3 none ∈ lwG := lwc_3 203 (by decide +kernel) (by decide +kernel)
theorem mi_X4_sumPart : Cond.instanceMethod yX4_sumPart ∈ lwG := lwc_3 202 (by decide +kernel) (by decide +kernel)
theorem ms_X4_sumPart : Cond.selects RX4 yX4_sumPart yX4_sumPart ∈ lwG := lwG_of 22 (by decide +kernel) (by decide +kernel)
abbrev M_X4_testPart : MI := (yX4_testPart, cX4_testPart, 2, none)
theorem pn_X4_testPart : plainFor yX4_testPart = true := by decide +kernel
theorem mc_X4_testPart : Cond.code yX4_testPart cX4_testPart 2 none ∈ lwG := lwc_3 167 (by decide +kernel) (by decide +kernel)
theorem mi_X4_testPart : Cond.instanceMethod yX4_testPart ∈ lwG := lwc_3 166 (by decide +kernel) (by decide +kernel)
theorem ms_X4_testPart : Cond.selects RX4 yX4_testPart yX4_testPart ∈ lwG := lwG_of 16 (by decide +kernel) (by decide +kernel)
abbrev M_X4_bothPart : MI := (yX4_bothPart, cX4_bothPart, 2, none)
theorem pn_X4_bothPart : plainFor yX4_bothPart = true := by decide +kernel
theorem mc_X4_bothPart : Cond.code yX4_bothPart cX4_bothPart 2 none ∈ lwG := lwc_3 171 (by decide +kernel) (by decide +kernel)
theorem mi_X4_bothPart : Cond.instanceMethod yX4_bothPart ∈ lwG := lwc_3 170 (by decide +kernel) (by decide +kernel)
theorem ms_X4_bothPart : Cond.selects RX4 yX4_bothPart yX4_bothPart ∈ lwG := lwG_of 17 (by decide +kernel) (by decide +kernel)
abbrev M_X4_formulaLine : MI := (yX4_formulaLine, cX4_formulaLine, 3, none)
theorem pn_X4_formulaLine : plainFor yX4_formulaLine = true := by decide +kernel
theorem mc_X4_formulaLine : Cond.code yX4_formulaLine cX4_formulaLine 3 none ∈ lwG := lwc_3 163 (by decide +kernel) (by decide +kernel)
theorem mi_X4_formulaLine : Cond.instanceMethod yX4_formulaLine ∈ lwG := lwc_3 162 (by decide +kernel) (by decide +kernel)
theorem ms_X4_formulaLine : Cond.selects RX4 yX4_formulaLine yX4_formulaLine ∈ lwG := lwG_of 15 (by decide +kernel) (by decide +kernel)
abbrev M_X4_raisedLine : MI := (yX4_raisedLine, cX4_raisedLine, 1, none)
theorem pn_X4_raisedLine : plainFor yX4_raisedLine = true := by decide +kernel
theorem mc_X4_raisedLine : Cond.code yX4_raisedLine cX4_raisedLine 1 none ∈ lwG := lwc_3 235 (by decide +kernel) (by decide +kernel)
theorem mi_X4_raisedLine : Cond.instanceMethod yX4_raisedLine ∈ lwG := lwc_3 234 (by decide +kernel) (by decide +kernel)
theorem ms_X4_raisedLine : Cond.selects RX4 yX4_raisedLine yX4_raisedLine ∈ lwG := lwG_of 27 (by decide +kernel) (by decide +kernel)
abbrev M_X4_setting : MI := (yX4_setting, cX4_setting, 2, (some .int))
theorem pn_X4_setting : plainFor yX4_setting = true := by decide +kernel
theorem mc_X4_setting : Cond.code yX4_setting cX4_setting 2 (some .int) ∈ lwG := lwc_4 1 (by decide +kernel) (by decide +kernel)
theorem mi_X4_setting : Cond.instanceMethod yX4_setting ∈ lwG := lwc_4 0 (by decide +kernel) (by decide +kernel)
theorem ms_X4_setting : Cond.selects RX4 yX4_setting yX4_setting ∈ lwG := lwG_of 28 (by decide +kernel) (by decide +kernel)
abbrev M_X4_statement : MI := (yX4_statement, cX4_statement, 2, none)
theorem pn_X4_statement : plainFor yX4_statement = true := by decide +kernel
theorem mc_X4_statement : Cond.code yX4_statement cX4_statement 2 none ∈ lwG := lwc_3 26 (by decide +kernel) (by decide +kernel)
theorem mi_X4_statement : Cond.instanceMethod yX4_statement ∈ lwG := lwc_3 24 (by decide +kernel) (by decide +kernel)
theorem ms_X4_statement : Cond.selects RX4 yX4_statement yX4_statement ∈ lwG := lwc_3 25 (by decide +kernel) (by decide +kernel)
abbrev M_X11_copy : MI := (yX11_copy, cX11_copy, 2, none)
theorem pn_X11_copy : plainFor yX11_copy = true := by decide +kernel
theorem mc_X11_copy : Cond.code yX11_copy cX11_copy 2 none ∈ lwG := lwc_4 134 (by decide +kernel) (by decide +kernel)
theorem mi_X11_copy : Cond.instanceMethod yX11_copy ∈ lwG := lwc_4 132 (by decide +kernel) (by decide +kernel)
theorem ms_X11_copy : Cond.selects RX11 yX11_copy yX11_copy ∈ lwG := lwc_4 133 (by decide +kernel) (by decide +kernel)
abbrev M_X11_where : MI := (yX11_where, cX11_where, 2, (some .int))
theorem pn_X11_where : plainFor yX11_where = true := by decide +kernel
theorem mc_X11_where : Cond.code yX11_where cX11_where 2 (some .int) ∈ lwG := lwc_4 41 (by decide +kernel) (by decide +kernel)
theorem mi_X11_where : Cond.instanceMethod yX11_where ∈ lwG := lwc_4 39 (by decide +kernel) (by decide +kernel)
theorem ms_X11_where : Cond.selects RX11 yX11_where yX11_where ∈ lwG := lwc_4 40 (by decide +kernel) (by decide +kernel)
abbrev M_X9_setFacts : MI := (yX9_setFacts, cX9_setFacts, 5, none)
theorem pn_X9_setFacts : plainFor yX9_setFacts = true := by decide +kernel
theorem mc_X9_setFacts : Cond.code yX9_setFacts cX9_setFacts 5 none ∈ lwG := lwc_4 150 (by decide +kernel) (by decide +kernel)
theorem mi_X9_setFacts : Cond.instanceMethod yX9_setFacts ∈ lwG := lwc_4 148 (by decide +kernel) (by decide +kernel)
theorem ms_X9_setFacts : Cond.selects RX9 yX9_setFacts yX9_setFacts ∈ lwG := lwc_4 149 (by decide +kernel) (by decide +kernel)
abbrev M_X9_grown : MI := (yX9_grown, cX9_grown, 6, (some .int))
theorem pn_X9_grown : plainFor yX9_grown = true := by decide +kernel
theorem mc_X9_grown : Cond.code yX9_grown cX9_grown 6 (some .int) ∈ lwG := lwc_4 146 (by decide +kernel) (by decide +kernel)
theorem mi_X9_grown : Cond.instanceMethod yX9_grown ∈ lwG := lwc_4 144 (by decide +kernel) (by decide +kernel)
theorem ms_X9_grown : Cond.selects RX9 yX9_grown yX9_grown ∈ lwG := lwc_4 145 (by decide +kernel) (by decide +kernel)
abbrev M_X11_raise : MI := (yX11_raise, cX11_raise, 2, none)
theorem pn_X11_raise : plainFor yX11_raise = true := by decide +kernel
theorem mc_X11_raise : Cond.code yX11_raise cX11_raise 2 none ∈ lwG := lwc_4 142 (by decide +kernel) (by decide +kernel)
theorem mi_X11_raise : Cond.instanceMethod yX11_raise ∈ lwG := lwc_4 141 (by decide +kernel) (by decide +kernel)
theorem ms_X11_raise : Cond.selects RX11 yX11_raise yX11_raise ∈ lwG := lwG_of 33 (by decide +kernel) (by decide +kernel)
abbrev M_X11_freeze : MI := (yX11_freeze, cX11_freeze, 2, none)
theorem pn_X11_freeze : plainFor yX11_freeze = true := by decide +kernel
theorem mc_X11_freeze : Cond.code yX11_freeze cX11_freeze 2 none ∈ lwG := lwc_4 191 (by decide +kernel) (by decide +kernel)
theorem mi_X11_freeze : Cond.instanceMethod yX11_freeze ∈ lwG := lwc_4 190 (by decide +kernel) (by decide +kernel)
theorem ms_X11_freeze : Cond.selects RX11 yX11_freeze yX11_freeze ∈ lwG := lwG_of 34 (by decide +kernel) (by decide +kernel)
abbrev M_X11_bears : MI := (yX11_bears, cX11_bears, 6, (some .int))
theorem pn_X11_bears : plainFor yX11_bears = true := by decide +kernel
theorem mc_X11_bears : Cond.code yX11_bears cX11_bears 6 (some .int) ∈ lwG := lwc_4 103 (by decide +kernel) (by decide +kernel)
theorem mi_X11_bears : Cond.instanceMethod yX11_bears ∈ lwG := lwc_4 101 (by decide +kernel) (by decide +kernel)
theorem ms_X11_bears : Cond.selects RX11 yX11_bears yX11_bears ∈ lwG := lwc_4 102 (by decide +kernel) (by decide +kernel)
abbrev M_X11_loadAt : MI := (yX11_loadAt, cX11_loadAt, 2, (some .int))
theorem pn_X11_loadAt : plainFor yX11_loadAt = true := by decide +kernel
theorem mc_X11_loadAt : Cond.code yX11_loadAt cX11_loadAt 2 (some .int) ∈ lwG := lwc_4 99 (by decide +kernel) (by decide +kernel)
theorem mi_X11_loadAt : Cond.instanceMethod yX11_loadAt ∈ lwG := lwc_4 97 (by decide +kernel) (by decide +kernel)
theorem ms_X11_loadAt : Cond.selects RX11 yX11_loadAt yX11_loadAt ∈ lwG := lwc_4 98 (by decide +kernel) (by decide +kernel)
abbrev M_X11_weakSpot : MI := (yX11_weakSpot, cX11_weakSpot, 5, (some .int))
theorem pn_X11_weakSpot : plainFor yX11_weakSpot = true := by decide +kernel
theorem mc_X11_weakSpot : Cond.code yX11_weakSpot cX11_weakSpot 5 (some .int) ∈ lwG := lwc_4 199 (by decide +kernel) (by decide +kernel)
theorem mi_X11_weakSpot : Cond.instanceMethod yX11_weakSpot ∈ lwG := lwc_4 197 (by decide +kernel) (by decide +kernel)
theorem ms_X11_weakSpot : Cond.selects RX11 yX11_weakSpot yX11_weakSpot ∈ lwG := lwc_4 198 (by decide +kernel) (by decide +kernel)
abbrev M_X11_lift : MI := (yX11_lift, cX11_lift, 3, none)
theorem pn_X11_lift : plainFor yX11_lift = true := by decide +kernel
theorem mc_X11_lift : Cond.code yX11_lift cX11_lift 3 none ∈ lwG := lwc_4 207 (by decide +kernel) (by decide +kernel)
theorem mi_X11_lift : Cond.instanceMethod yX11_lift ∈ lwG := lwc_4 205 (by decide +kernel) (by decide +kernel)
theorem ms_X11_lift : Cond.selects RX11 yX11_lift yX11_lift ∈ lwG := lwc_4 206 (by decide +kernel) (by decide +kernel)
abbrev M_X11_keep : MI := (yX11_keep, cX11_keep, 4, none)
theorem pn_X11_keep : plainFor yX11_keep = true := by decide +kernel
theorem mc_X11_keep : Cond.code yX11_keep cX11_keep 4 none ∈ lwG := lwc_4 211 (by decide +kernel) (by decide +kernel)
theorem mi_X11_keep : Cond.instanceMethod yX11_keep ∈ lwG := lwc_4 210 (by decide +kernel) (by decide +kernel)
theorem ms_X11_keep : Cond.selects RX11 yX11_keep yX11_keep ∈ lwG := lwG_of 37 (by decide +kernel) (by decide +kernel)
abbrev M_X11_dropFrom : MI := (yX11_dropFrom, cX11_dropFrom, 5, none)
theorem pn_X11_dropFrom : plainFor yX11_dropFrom = true := by decide +kernel
theorem mc_X11_dropFrom : Cond.code yX11_dropFrom cX11_dropFrom 5 none ∈ lwG := lwc_4 203 (by decide +kernel) (by decide +kernel)
theorem mi_X11_dropFrom : Cond.instanceMethod yX11_dropFrom ∈ lwG := lwc_4 202 (by decide +kernel) (by decide +kernel)
theorem ms_X11_dropFrom : Cond.selects RX11 yX11_dropFrom yX11_dropFrom ∈ lwG := lwG_of 36 (by decide +kernel) (by decide +kernel)
abbrev M_X11_fall : MI := (yX11_fall, cX11_fall, 4, none)
theorem pn_X11_fall : plainFor yX11_fall = true := by decide +kernel
theorem mc_X11_fall : Cond.code yX11_fall cX11_fall 4 none ∈ lwG := lwc_4 195 (by decide +kernel) (by decide +kernel)
theorem mi_X11_fall : Cond.instanceMethod yX11_fall ∈ lwG := lwc_4 194 (by decide +kernel) (by decide +kernel)
theorem ms_X11_fall : Cond.selects RX11 yX11_fall yX11_fall ∈ lwG := lwG_of 35 (by decide +kernel) (by decide +kernel)
abbrev M_X11_freeSpot : MI := (yX11_freeSpot, cX11_freeSpot, 4, (some .int))
theorem pn_X11_freeSpot : plainFor yX11_freeSpot = true := by decide +kernel
theorem mc_X11_freeSpot : Cond.code yX11_freeSpot cX11_freeSpot 4 (some .int) ∈ lwG := lwc_4 219 (by decide +kernel) (by decide +kernel)
theorem mi_X11_freeSpot : Cond.instanceMethod yX11_freeSpot ∈ lwG := lwc_4 218 (by decide +kernel) (by decide +kernel)
theorem ms_X11_freeSpot : Cond.selects RX11 yX11_freeSpot yX11_freeSpot ∈ lwG := lwG_of 38 (by decide +kernel) (by decide +kernel)
abbrev M_X11_leftOf : MI := (yX11_leftOf, cX11_leftOf, 2, (some .int))
theorem pn_X11_leftOf : plainFor yX11_leftOf = true := by decide +kernel
theorem mc_X11_leftOf : Cond.code yX11_leftOf cX11_leftOf 2 (some .int) ∈ lwG := lwc_4 227 (by decide +kernel) (by decide +kernel)
theorem mi_X11_leftOf : Cond.instanceMethod yX11_leftOf ∈ lwG := lwc_4 226 (by decide +kernel) (by decide +kernel)
theorem ms_X11_leftOf : Cond.selects RX11 yX11_leftOf yX11_leftOf ∈ lwG := lwG_of 40 (by decide +kernel) (by decide +kernel)
abbrev M_X11_rightOf : MI := (yX11_rightOf, cX11_rightOf, 2, (some .int))
theorem pn_X11_rightOf : plainFor yX11_rightOf = true := by decide +kernel
theorem mc_X11_rightOf : Cond.code yX11_rightOf cX11_rightOf 2 (some .int) ∈ lwG := lwc_4 231 (by decide +kernel) (by decide +kernel)
theorem mi_X11_rightOf : Cond.instanceMethod yX11_rightOf ∈ lwG := lwc_4 230 (by decide +kernel) (by decide +kernel)
theorem ms_X11_rightOf : Cond.selects RX11 yX11_rightOf yX11_rightOf ∈ lwG := lwG_of 41 (by decide +kernel) (by decide +kernel)
abbrev M_X11_isPeaceful : MI := (yX11_isPeaceful, cX11_isPeaceful, 6, (some .boolean))
theorem pn_X11_isPeaceful : plainFor yX11_isPeaceful = true := by decide +kernel
theorem mc_X11_isPeaceful : Cond.code yX11_isPeaceful cX11_isPeaceful 6 (some .boolean) ∈ lwG := lwc_4 223 (by decide +kernel) (by decide +kernel)
theorem mi_X11_isPeaceful : Cond.instanceMethod yX11_isPeaceful ∈ lwG := lwc_4 222 (by decide +kernel) (by decide +kernel)
theorem ms_X11_isPeaceful : Cond.selects RX11 yX11_isPeaceful yX11_isPeaceful ∈ lwG := lwG_of 39 (by decide +kernel) (by decide +kernel)
abbrev M_X11_mayLie : MI := (yX11_mayLie, cX11_mayLie, 6, (some .boolean))
theorem pn_X11_mayLie : plainFor yX11_mayLie = true := by decide +kernel
theorem mc_X11_mayLie : Cond.code yX11_mayLie cX11_mayLie 6 (some .boolean) ∈ lwG := lwc_4 236 (by decide +kernel) (by decide +kernel)
theorem mi_X11_mayLie : Cond.instanceMethod yX11_mayLie ∈ lwG := lwc_4 235 (by decide +kernel) (by decide +kernel)
theorem ms_X11_mayLie : Cond.selects RX11 yX11_mayLie yX11_mayLie ∈ lwG := lwG_of 42 (by decide +kernel) (by decide +kernel)
abbrev M_X11_buildIn : MI := (yX11_buildIn, cX11_buildIn, 4, (some .boolean))
theorem pn_X11_buildIn : plainFor yX11_buildIn = true := by decide +kernel
theorem mc_X11_buildIn : Cond.code yX11_buildIn cX11_buildIn 4 (some .boolean) ∈ lwG := lwc_4 215 (by decide +kernel) (by decide +kernel)
theorem mi_X11_buildIn : Cond.instanceMethod yX11_buildIn ∈ lwG := lwc_4 213 (by decide +kernel) (by decide +kernel)
theorem ms_X11_buildIn : Cond.selects RX11 yX11_buildIn yX11_buildIn ∈ lwG := lwc_4 214 (by decide +kernel) (by decide +kernel)
abbrev M_X11_passYear : MI := (yX11_passYear, cX11_passYear, 3, none)
theorem pn_X11_passYear : plainFor yX11_passYear = true := by decide +kernel
theorem mc_X11_passYear : Cond.code yX11_passYear cX11_passYear 3 none ∈ lwG := lwc_4 138 (by decide +kernel) (by decide +kernel)
theorem mi_X11_passYear : Cond.instanceMethod yX11_passYear ∈ lwG := lwc_4 136 (by decide +kernel) (by decide +kernel)
theorem ms_X11_passYear : Cond.selects RX11 yX11_passYear yX11_passYear ∈ lwG := lwc_4 137 (by decide +kernel) (by decide +kernel)
abbrev M_X11_bitsAt : MI := (yX11_bitsAt, cX11_bitsAt, 4, (some .int))
theorem pn_X11_bitsAt : plainFor yX11_bitsAt = true := by decide +kernel
theorem mc_X11_bitsAt : Cond.code yX11_bitsAt cX11_bitsAt 4 (some .int) ∈ lwG := lwc_4 36 (by decide +kernel) (by decide +kernel)
theorem mi_X11_bitsAt : Cond.instanceMethod yX11_bitsAt ∈ lwG := lwc_4 34 (by decide +kernel) (by decide +kernel)
theorem ms_X11_bitsAt : Cond.selects RX11 yX11_bitsAt yX11_bitsAt ∈ lwG := lwc_4 35 (by decide +kernel) (by decide +kernel)
abbrev M_J6_bitCount_0f7a4 : MI := (yJ6_bitCount_0f7a4, cJ6_bitCount_0f7a4, 1, (some .int))
theorem pn_J6_bitCount_0f7a4 : plainFor yJ6_bitCount_0f7a4 = true := by decide +kernel
theorem mc_J6_bitCount_0f7a4 : Cond.code yJ6_bitCount_0f7a4 cJ6_bitCount_0f7a4 1 (some .int) ∈ lwG := lwc_4 29 (by decide +kernel) (by decide +kernel)
theorem mi_J6_bitCount_0f7a4 : Cond.static yJ6_bitCount_0f7a4 ∈ lwG := lwc_4 28 (by decide +kernel) (by decide +kernel)
abbrev M_X5_goAhead : MI := (yX5_goAhead, cX5_goAhead, 5, (some .int))
theorem pn_X5_goAhead : plainFor yX5_goAhead = true := by decide +kernel
theorem mc_X5_goAhead : Cond.code yX5_goAhead cX5_goAhead 5 (some .int) ∈ lwG := lwc_4 130 (by decide +kernel) (by decide +kernel)
theorem mi_X5_goAhead : Cond.instanceMethod yX5_goAhead ∈ lwG := lwc_4 128 (by decide +kernel) (by decide +kernel)
theorem ms_X5_goAhead : Cond.selects RX5 yX5_goAhead yX5_goAhead ∈ lwG := lwc_4 129 (by decide +kernel) (by decide +kernel)
abbrev M_X5_firstBuilt : MI := (yX5_firstBuilt, cX5_firstBuilt, 4, (some .int))
theorem pn_X5_firstBuilt : plainFor yX5_firstBuilt = true := by decide +kernel
theorem mc_X5_firstBuilt : Cond.code yX5_firstBuilt cX5_firstBuilt 4 (some .int) ∈ lwG := lwc_5 21 (by decide +kernel) (by decide +kernel)
theorem mi_X5_firstBuilt : Cond.instanceMethod yX5_firstBuilt ∈ lwG := lwc_5 19 (by decide +kernel) (by decide +kernel)
theorem ms_X5_firstBuilt : Cond.selects RX5 yX5_firstBuilt yX5_firstBuilt ∈ lwG := lwc_5 20 (by decide +kernel) (by decide +kernel)
abbrev M_X11_pullOut : MI := (yX11_pullOut, cX11_pullOut, 2, none)
theorem pn_X11_pullOut : plainFor yX11_pullOut = true := by decide +kernel
theorem mc_X11_pullOut : Cond.code yX11_pullOut cX11_pullOut 2 none ∈ lwG := lwc_5 33 (by decide +kernel) (by decide +kernel)
theorem mi_X11_pullOut : Cond.instanceMethod yX11_pullOut ∈ lwG := lwc_5 31 (by decide +kernel) (by decide +kernel)
theorem ms_X11_pullOut : Cond.selects RX11 yX11_pullOut yX11_pullOut ∈ lwG := lwc_5 32 (by decide +kernel) (by decide +kernel)
abbrev M_X5_comingDown : MI := (yX5_comingDown, cX5_comingDown, 3, (some .int))
theorem pn_X5_comingDown : plainFor yX5_comingDown = true := by decide +kernel
theorem mc_X5_comingDown : Cond.code yX5_comingDown cX5_comingDown 3 (some .int) ∈ lwG := lwc_5 29 (by decide +kernel) (by decide +kernel)
theorem mi_X5_comingDown : Cond.instanceMethod yX5_comingDown ∈ lwG := lwc_5 27 (by decide +kernel) (by decide +kernel)
theorem ms_X5_comingDown : Cond.selects RX5 yX5_comingDown yX5_comingDown ∈ lwG := lwc_5 28 (by decide +kernel) (by decide +kernel)
abbrev M_X5_holdsPropped : MI := (yX5_holdsPropped, cX5_holdsPropped, 7, (some .boolean))
theorem pn_X5_holdsPropped : plainFor yX5_holdsPropped = true := by decide +kernel
theorem mc_X5_holdsPropped : Cond.code yX5_holdsPropped cX5_holdsPropped 7 (some .boolean) ∈ lwG := lwc_5 46 (by decide +kernel) (by decide +kernel)
theorem mi_X5_holdsPropped : Cond.static yX5_holdsPropped ∈ lwG := lwc_5 45 (by decide +kernel) (by decide +kernel)
abbrev M_X5_fewestProps : MI := (yX5_fewestProps, cX5_fewestProps, 7, (some .int))
theorem pn_X5_fewestProps : plainFor yX5_fewestProps = true := by decide +kernel
theorem mc_X5_fewestProps : Cond.code yX5_fewestProps cX5_fewestProps 7 (some .int) ∈ lwG := lwc_5 41 (by decide +kernel) (by decide +kernel)
theorem mi_X5_fewestProps : Cond.instanceMethod yX5_fewestProps ∈ lwG := lwc_5 39 (by decide +kernel) (by decide +kernel)
theorem ms_X5_fewestProps : Cond.selects RX5 yX5_fewestProps yX5_fewestProps ∈ lwG := lwc_5 40 (by decide +kernel) (by decide +kernel)
abbrev M_X11_strongWhenDone : MI := (yX11_strongWhenDone, cX11_strongWhenDone, 5, (some .int))
theorem pn_X11_strongWhenDone : plainFor yX11_strongWhenDone = true := by decide +kernel
theorem mc_X11_strongWhenDone : Cond.code yX11_strongWhenDone cX11_strongWhenDone 5 (some .int) ∈ lwG := lwc_5 62 (by decide +kernel) (by decide +kernel)
theorem mi_X11_strongWhenDone : Cond.instanceMethod yX11_strongWhenDone ∈ lwG := lwc_5 60 (by decide +kernel) (by decide +kernel)
theorem ms_X11_strongWhenDone : Cond.selects RX11 yX11_strongWhenDone yX11_strongWhenDone ∈ lwG := lwc_5 61 (by decide +kernel) (by decide +kernel)
abbrev M_X5_strongestHome : MI := (yX5_strongestHome, cX5_strongestHome, 7, (some .int))
theorem pn_X5_strongestHome : plainFor yX5_strongestHome = true := by decide +kernel
theorem mc_X5_strongestHome : Cond.code yX5_strongestHome cX5_strongestHome 7 (some .int) ∈ lwG := lwc_5 57 (by decide +kernel) (by decide +kernel)
theorem mi_X5_strongestHome : Cond.instanceMethod yX5_strongestHome ∈ lwG := lwc_5 55 (by decide +kernel) (by decide +kernel)
theorem ms_X5_strongestHome : Cond.selects RX5 yX5_strongestHome yX5_strongestHome ∈ lwG := lwc_5 56 (by decide +kernel) (by decide +kernel)
abbrev M_X5_orderFrom : MI := (yX5_orderFrom, cX5_orderFrom, 7, none)
theorem pn_X5_orderFrom : plainFor yX5_orderFrom = true := by decide +kernel
theorem mc_X5_orderFrom : Cond.code yX5_orderFrom cX5_orderFrom 7 none ∈ lwG := lwc_5 75 (by decide +kernel) (by decide +kernel)
theorem mi_X5_orderFrom : Cond.instanceMethod yX5_orderFrom ∈ lwG := lwc_5 74 (by decide +kernel) (by decide +kernel)
theorem ms_X5_orderFrom : Cond.selects RX5 yX5_orderFrom yX5_orderFrom ∈ lwG := lwG_of 43 (by decide +kernel) (by decide +kernel)
abbrev M_X5_findOrder : MI := (yX5_findOrder, cX5_findOrder, 3, none)
theorem pn_X5_findOrder : plainFor yX5_findOrder = true := by decide +kernel
theorem mc_X5_findOrder : Cond.code yX5_findOrder cX5_findOrder 3 none ∈ lwG := lwc_5 71 (by decide +kernel) (by decide +kernel)
theorem mi_X5_findOrder : Cond.instanceMethod yX5_findOrder ∈ lwG := lwc_5 69 (by decide +kernel) (by decide +kernel)
theorem ms_X5_findOrder : Cond.selects RX5 yX5_findOrder yX5_findOrder ∈ lwG := lwc_5 70 (by decide +kernel) (by decide +kernel)
abbrev M_X5_winsFrom : MI := (yX5_winsFrom, cX5_winsFrom, 8, (some .boolean))
theorem pn_X5_winsFrom : plainFor yX5_winsFrom = true := by decide +kernel
theorem mc_X5_winsFrom : Cond.code yX5_winsFrom cX5_winsFrom 8 (some .boolean) ∈ lwG := lwc_5 135 (by decide +kernel) (by decide +kernel)
theorem mi_X5_winsFrom : Cond.instanceMethod yX5_winsFrom ∈ lwG := lwc_5 134 (by decide +kernel) (by decide +kernel)
theorem ms_X5_winsFrom : Cond.selects RX5 yX5_winsFrom yX5_winsFrom ∈ lwG := lwG_of 47 (by decide +kernel) (by decide +kernel)
abbrev M_X5_firstWins : MI := (yX5_firstWins, cX5_firstWins, 3, (some .boolean))
theorem pn_X5_firstWins : plainFor yX5_firstWins = true := by decide +kernel
theorem mc_X5_firstWins : Cond.code yX5_firstWins cX5_firstWins 3 (some .boolean) ∈ lwG := lwc_5 131 (by decide +kernel) (by decide +kernel)
theorem mi_X5_firstWins : Cond.instanceMethod yX5_firstWins ∈ lwG := lwc_5 129 (by decide +kernel) (by decide +kernel)
theorem ms_X5_firstWins : Cond.selects RX5 yX5_firstWins yX5_firstWins ∈ lwG := lwc_5 130 (by decide +kernel) (by decide +kernel)
abbrev M_X7_forget : MI := (yX7_forget, cX7_forget, 2, none)
theorem pn_X7_forget : plainFor yX7_forget = true := by decide +kernel
theorem mc_X7_forget : Cond.code yX7_forget cX7_forget 2 none ∈ lwG := lwc_4 14 (by decide +kernel) (by decide +kernel)
theorem mi_X7_forget : Cond.instanceMethod yX7_forget ∈ lwG := lwc_4 12 (by decide +kernel) (by decide +kernel)
theorem ms_X7_forget : Cond.selects RX7 yX7_forget yX7_forget ∈ lwG := lwc_4 13 (by decide +kernel) (by decide +kernel)
abbrev M_X9_span : MI := (yX9_span, cX9_span, 1, (some .int))
theorem pn_X9_span : plainFor yX9_span = true := by decide +kernel
theorem mc_X9_span : Cond.code yX9_span cX9_span 1 (some .int) ∈ lwG := lwc_5 96 (by decide +kernel) (by decide +kernel)
theorem mi_X9_span : Cond.instanceMethod yX9_span ∈ lwG := lwc_5 94 (by decide +kernel) (by decide +kernel)
theorem ms_X9_span : Cond.selects RX9 yX9_span yX9_span ∈ lwG := lwc_5 95 (by decide +kernel) (by decide +kernel)
abbrev M_X7_raise : MI := (yX7_raise, cX7_raise, 5, none)
theorem pn_X7_raise : plainFor yX7_raise = true := by decide +kernel
theorem mc_X7_raise : Cond.code yX7_raise cX7_raise 5 none ∈ lwG := lwc_5 104 (by decide +kernel) (by decide +kernel)
theorem mi_X7_raise : Cond.instanceMethod yX7_raise ∈ lwG := lwc_5 103 (by decide +kernel) (by decide +kernel)
theorem ms_X7_raise : Cond.selects RX7 yX7_raise yX7_raise ∈ lwG := lwG_of 45 (by decide +kernel) (by decide +kernel)
abbrev M_X7_canBe : MI := (yX7_canBe, cX7_canBe, 6, (some .boolean))
theorem pn_X7_canBe : plainFor yX7_canBe = true := by decide +kernel
theorem mc_X7_canBe : Cond.code yX7_canBe cX7_canBe 6 (some .boolean) ∈ lwG := lwc_5 100 (by decide +kernel) (by decide +kernel)
theorem mi_X7_canBe : Cond.instanceMethod yX7_canBe ∈ lwG := lwc_5 99 (by decide +kernel) (by decide +kernel)
theorem ms_X7_canBe : Cond.selects RX7 yX7_canBe yX7_canBe ∈ lwG := lwG_of 44 (by decide +kernel) (by decide +kernel)
abbrev M_X7_take : MI := (yX7_take, cX7_take, 7, (some .boolean))
theorem pn_X7_take : plainFor yX7_take = true := by decide +kernel
theorem mc_X7_take : Cond.code yX7_take cX7_take 7 (some .boolean) ∈ lwG := lwc_5 91 (by decide +kernel) (by decide +kernel)
theorem mi_X7_take : Cond.instanceMethod yX7_take ∈ lwG := lwc_5 89 (by decide +kernel) (by decide +kernel)
theorem ms_X7_take : Cond.selects RX7 yX7_take yX7_take ∈ lwG := lwc_5 90 (by decide +kernel) (by decide +kernel)
abbrev M_X7_mostAlike : MI := (yX7_mostAlike, cX7_mostAlike, 6, (some .int))
theorem pn_X7_mostAlike : plainFor yX7_mostAlike = true := by decide +kernel
theorem mc_X7_mostAlike : Cond.code yX7_mostAlike cX7_mostAlike 6 (some .int) ∈ lwG := lwc_5 122 (by decide +kernel) (by decide +kernel)
theorem mi_X7_mostAlike : Cond.instanceMethod yX7_mostAlike ∈ lwG := lwc_5 121 (by decide +kernel) (by decide +kernel)
theorem ms_X7_mostAlike : Cond.selects RX7 yX7_mostAlike yX7_mostAlike ∈ lwG := lwG_of 46 (by decide +kernel) (by decide +kernel)
abbrev M_X7_telling : MI := (yX7_telling, cX7_telling, 6, (some .int))
theorem pn_X7_telling : plainFor yX7_telling = true := by decide +kernel
theorem mc_X7_telling : Cond.code yX7_telling cX7_telling 6 (some .int) ∈ lwG := lwc_5 117 (by decide +kernel) (by decide +kernel)
theorem mi_X7_telling : Cond.instanceMethod yX7_telling ∈ lwG := lwc_5 115 (by decide +kernel) (by decide +kernel)
theorem ms_X7_telling : Cond.selects RX7 yX7_telling yX7_telling ∈ lwG := lwc_5 116 (by decide +kernel) (by decide +kernel)
abbrev M_X8_add : MI := (yX8_add, cX8_add, 3, none)
theorem pn_X8_add : plainFor yX8_add = true := by decide +kernel
theorem mc_X8_add : Cond.code yX8_add cX8_add 3 none ∈ lwG := lwc_2 226 (by decide +kernel) (by decide +kernel)
theorem mi_X8_add : Cond.instanceMethod yX8_add ∈ lwG := lwc_2 224 (by decide +kernel) (by decide +kernel)
theorem ms_X8_add : Cond.selects RX8 yX8_add yX8_add ∈ lwG := lwc_2 225 (by decide +kernel) (by decide +kernel)
abbrev M_X11_livingAt : MI := (yX11_livingAt, cX11_livingAt, 4, (some .int))
theorem pn_X11_livingAt : plainFor yX11_livingAt = true := by decide +kernel
theorem mc_X11_livingAt : Cond.code yX11_livingAt cX11_livingAt 4 (some .int) ∈ lwG := lwc_4 70 (by decide +kernel) (by decide +kernel)
theorem mi_X11_livingAt : Cond.instanceMethod yX11_livingAt ∈ lwG := lwc_4 68 (by decide +kernel) (by decide +kernel)
theorem ms_X11_livingAt : Cond.selects RX11 yX11_livingAt yX11_livingAt ∈ lwG := lwc_4 69 (by decide +kernel) (by decide +kernel)
abbrev M_X11_strongTogether : MI := (yX11_strongTogether, cX11_strongTogether, 3, (some .int))
theorem pn_X11_strongTogether : plainFor yX11_strongTogether = true := by decide +kernel
theorem mc_X11_strongTogether : Cond.code yX11_strongTogether cX11_strongTogether 3 (some .int) ∈ lwG := lwc_5 13 (by decide +kernel) (by decide +kernel)
theorem mi_X11_strongTogether : Cond.instanceMethod yX11_strongTogether ∈ lwG := lwc_5 11 (by decide +kernel) (by decide +kernel)
theorem ms_X11_strongTogether : Cond.selects RX11 yX11_strongTogether yX11_strongTogether ∈ lwG := lwc_5 12 (by decide +kernel) (by decide +kernel)
abbrev M_X11_stonesIn : MI := (yX11_stonesIn, cX11_stonesIn, 4, (some .int))
theorem pn_X11_stonesIn : plainFor yX11_stonesIn = true := by decide +kernel
theorem mc_X11_stonesIn : Cond.code yX11_stonesIn cX11_stonesIn 4 (some .int) ∈ lwG := lwc_4 58 (by decide +kernel) (by decide +kernel)
theorem mi_X11_stonesIn : Cond.instanceMethod yX11_stonesIn ∈ lwG := lwc_4 56 (by decide +kernel) (by decide +kernel)
theorem ms_X11_stonesIn : Cond.selects RX11 yX11_stonesIn yX11_stonesIn ∈ lwG := lwc_4 57 (by decide +kernel) (by decide +kernel)
abbrev M_X11_fullWalls : MI := (yX11_fullWalls, cX11_fullWalls, 3, (some .int))
theorem pn_X11_fullWalls : plainFor yX11_fullWalls = true := by decide +kernel
theorem mc_X11_fullWalls : Cond.code yX11_fullWalls cX11_fullWalls 3 (some .int) ∈ lwG := lwc_4 53 (by decide +kernel) (by decide +kernel)
theorem mi_X11_fullWalls : Cond.instanceMethod yX11_fullWalls ∈ lwG := lwc_4 51 (by decide +kernel) (by decide +kernel)
theorem ms_X11_fullWalls : Cond.selects RX11 yX11_fullWalls yX11_fullWalls ∈ lwG := lwc_4 52 (by decide +kernel) (by decide +kernel)
abbrev M_X11_lying : MI := (yX11_lying, cX11_lying, 4, (some .int))
theorem pn_X11_lying : plainFor yX11_lying = true := by decide +kernel
theorem mc_X11_lying : Cond.code yX11_lying cX11_lying 4 (some .int) ∈ lwG := lwc_4 92 (by decide +kernel) (by decide +kernel)
theorem mi_X11_lying : Cond.instanceMethod yX11_lying ∈ lwG := lwc_4 90 (by decide +kernel) (by decide +kernel)
theorem ms_X11_lying : Cond.selects RX11 yX11_lying yX11_lying ∈ lwG := lwc_4 91 (by decide +kernel) (by decide +kernel)
abbrev M_X12_refuse : MI := (yX12_refuse, cX12_refuse, 2, (some .int))
theorem pn_X12_refuse : plainFor yX12_refuse = true := by decide +kernel
theorem mc_X12_refuse : Cond.code yX12_refuse cX12_refuse 2 (some .int) ∈ lwG := lwc_2 222 (by decide +kernel) (by decide +kernel)
theorem mi_X12_refuse : Cond.instanceMethod yX12_refuse ∈ lwG := lwc_2 221 (by decide +kernel) (by decide +kernel)
theorem ms_X12_refuse : Cond.selects RX12 yX12_refuse yX12_refuse ∈ lwG := lwG_of 1 (by decide +kernel) (by decide +kernel)
abbrev M_X12_feed : MI := (yX12_feed, cX12_feed, 6, (some .int))
theorem pn_X12_feed : plainFor yX12_feed = true := by decide +kernel
theorem mc_X12_feed : Cond.code yX12_feed cX12_feed 6 (some .int) ∈ lwG := lwc_2 218 (by decide +kernel) (by decide +kernel)
theorem mi_X12_feed : Cond.instanceMethod yX12_feed ∈ lwG := lwc_2 216 (by decide +kernel) (by decide +kernel)
theorem ms_X12_feed : Cond.selects RX12 yX12_feed yX12_feed ∈ lwG := lwc_2 217 (by decide +kernel) (by decide +kernel)
abbrev M_X12_end : MI := (yX12_end, cX12_end, 2, (some .boolean))
theorem pn_X12_end : plainFor yX12_end = true := by decide +kernel
theorem mc_X12_end : Cond.code yX12_end cX12_end 2 (some .boolean) ∈ lwG := lwc_2 230 (by decide +kernel) (by decide +kernel)
theorem mi_X12_end : Cond.instanceMethod yX12_end ∈ lwG := lwc_2 228 (by decide +kernel) (by decide +kernel)
theorem ms_X12_end : Cond.selects RX12 yX12_end yX12_end ∈ lwG := lwc_2 229 (by decide +kernel) (by decide +kernel)
abbrev M_X12_settleIn : MI := (yX12_settleIn, cX12_settleIn, 2, none)
theorem pn_X12_settleIn : plainFor yX12_settleIn = true := by decide +kernel
theorem mc_X12_settleIn : Cond.code yX12_settleIn cX12_settleIn 2 none ∈ lwG := lwc_4 5 (by decide +kernel) (by decide +kernel)
theorem mi_X12_settleIn : Cond.instanceMethod yX12_settleIn ∈ lwG := lwc_4 4 (by decide +kernel) (by decide +kernel)
theorem ms_X12_settleIn : Cond.selects RX12 yX12_settleIn yX12_settleIn ∈ lwG := lwG_of 29 (by decide +kernel) (by decide +kernel)
abbrev M_X12_town : MI := (yX12_town, cX12_town, 3, (some .int))
theorem pn_X12_town : plainFor yX12_town = true := by decide +kernel
theorem mc_X12_town : Cond.code yX12_town cX12_town 3 (some .int) ∈ lwG := lwc_2 234 (by decide +kernel) (by decide +kernel)
theorem mi_X12_town : Cond.instanceMethod yX12_town ∈ lwG := lwc_2 232 (by decide +kernel) (by decide +kernel)
theorem ms_X12_town : Cond.selects RX12 yX12_town yX12_town ∈ lwG := lwc_2 233 (by decide +kernel) (by decide +kernel)
abbrev M_X12_fault : MI := (yX12_fault, cX12_fault, 2, (some .int))
theorem pn_X12_fault : plainFor yX12_fault = true := by decide +kernel
theorem mc_X12_fault : Cond.code yX12_fault cX12_fault 2 (some .int) ∈ lwG := lwc_4 19 (by decide +kernel) (by decide +kernel)
theorem mi_X12_fault : Cond.instanceMethod yX12_fault ∈ lwG := lwc_4 17 (by decide +kernel) (by decide +kernel)
theorem ms_X12_fault : Cond.selects RX12 yX12_fault yX12_fault ∈ lwG := lwc_4 18 (by decide +kernel) (by decide +kernel)
abbrev M_X12_has : MI := (yX12_has, cX12_has, 2, (some .int))
theorem pn_X12_has : plainFor yX12_has = true := by decide +kernel
theorem mc_X12_has : Cond.code yX12_has cX12_has 2 (some .int) ∈ lwG := lwc_4 23 (by decide +kernel) (by decide +kernel)
theorem mi_X12_has : Cond.instanceMethod yX12_has ∈ lwG := lwc_4 21 (by decide +kernel) (by decide +kernel)
theorem ms_X12_has : Cond.selects RX12 yX12_has yX12_has ∈ lwG := lwc_4 22 (by decide +kernel) (by decide +kernel)
abbrev M_X12_letter : MI := (yX12_letter, cX12_letter, 6, (some .int))
theorem pn_X12_letter : plainFor yX12_letter = true := by decide +kernel
theorem mc_X12_letter : Cond.code yX12_letter cX12_letter 6 (some .int) ∈ lwG := lwc_4 62 (by decide +kernel) (by decide +kernel)
theorem mi_X12_letter : Cond.instanceMethod yX12_letter ∈ lwG := lwc_4 60 (by decide +kernel) (by decide +kernel)
theorem ms_X12_letter : Cond.selects RX12 yX12_letter yX12_letter ∈ lwG := lwc_4 61 (by decide +kernel) (by decide +kernel)
abbrev M_X12_home : MI := (yX12_home, cX12_home, 3, (some .int))
theorem pn_X12_home : plainFor yX12_home = true := by decide +kernel
theorem mc_X12_home : Cond.code yX12_home cX12_home 3 (some .int) ∈ lwG := lwc_4 66 (by decide +kernel) (by decide +kernel)
theorem mi_X12_home : Cond.instanceMethod yX12_home ∈ lwG := lwc_4 64 (by decide +kernel) (by decide +kernel)
theorem ms_X12_home : Cond.selects RX12 yX12_home yX12_home ∈ lwG := lwc_4 65 (by decide +kernel) (by decide +kernel)
abbrev M_X12_isChild : MI := (yX12_isChild, cX12_isChild, 2, (some .boolean))
theorem pn_X12_isChild : plainFor yX12_isChild = true := by decide +kernel
theorem mc_X12_isChild : Cond.code yX12_isChild cX12_isChild 2 (some .boolean) ∈ lwG := lwc_4 78 (by decide +kernel) (by decide +kernel)
theorem mi_X12_isChild : Cond.instanceMethod yX12_isChild ∈ lwG := lwc_4 77 (by decide +kernel) (by decide +kernel)
theorem ms_X12_isChild : Cond.selects RX12 yX12_isChild yX12_isChild ∈ lwG := lwG_of 30 (by decide +kernel) (by decide +kernel)
abbrev M_X12_child : MI := (yX12_child, cX12_child, 3, (some .int))
theorem pn_X12_child : plainFor yX12_child = true := by decide +kernel
theorem mc_X12_child : Cond.code yX12_child cX12_child 3 (some .int) ∈ lwG := lwc_4 74 (by decide +kernel) (by decide +kernel)
theorem mi_X12_child : Cond.instanceMethod yX12_child ∈ lwG := lwc_4 72 (by decide +kernel) (by decide +kernel)
theorem ms_X12_child : Cond.selects RX12 yX12_child yX12_child ∈ lwG := lwc_4 73 (by decide +kernel) (by decide +kernel)
abbrev M_X12_isBuilt : MI := (yX12_isBuilt, cX12_isBuilt, 2, (some .boolean))
theorem pn_X12_isBuilt : plainFor yX12_isBuilt = true := by decide +kernel
theorem mc_X12_isBuilt : Cond.code yX12_isBuilt cX12_isBuilt 2 (some .boolean) ∈ lwG := lwc_4 88 (by decide +kernel) (by decide +kernel)
theorem mi_X12_isBuilt : Cond.instanceMethod yX12_isBuilt ∈ lwG := lwc_4 87 (by decide +kernel) (by decide +kernel)
theorem ms_X12_isBuilt : Cond.selects RX12 yX12_isBuilt yX12_isBuilt ∈ lwG := lwG_of 31 (by decide +kernel) (by decide +kernel)
abbrev M_X12_stone : MI := (yX12_stone, cX12_stone, 3, (some .int))
theorem pn_X12_stone : plainFor yX12_stone = true := by decide +kernel
theorem mc_X12_stone : Cond.code yX12_stone cX12_stone 3 (some .int) ∈ lwG := lwc_4 83 (by decide +kernel) (by decide +kernel)
theorem mi_X12_stone : Cond.instanceMethod yX12_stone ∈ lwG := lwc_4 81 (by decide +kernel) (by decide +kernel)
theorem ms_X12_stone : Cond.selects RX12 yX12_stone yX12_stone ∈ lwG := lwc_4 82 (by decide +kernel) (by decide +kernel)
abbrev M_X12_isWall : MI := (yX12_isWall, cX12_isWall, 2, (some .boolean))
theorem pn_X12_isWall : plainFor yX12_isWall = true := by decide +kernel
theorem mc_X12_isWall : Cond.code yX12_isWall cX12_isWall 2 (some .boolean) ∈ lwG := lwc_4 114 (by decide +kernel) (by decide +kernel)
theorem mi_X12_isWall : Cond.instanceMethod yX12_isWall ∈ lwG := lwc_4 113 (by decide +kernel) (by decide +kernel)
theorem ms_X12_isWall : Cond.selects RX12 yX12_isWall yX12_isWall ∈ lwG := lwG_of 32 (by decide +kernel) (by decide +kernel)
abbrev M_X12_wall : MI := (yX12_wall, cX12_wall, 4, (some .int))
theorem pn_X12_wall : plainFor yX12_wall = true := by decide +kernel
theorem mc_X12_wall : Cond.code yX12_wall cX12_wall 4 (some .int) ∈ lwG := lwc_4 110 (by decide +kernel) (by decide +kernel)
theorem mi_X12_wall : Cond.instanceMethod yX12_wall ∈ lwG := lwc_4 108 (by decide +kernel) (by decide +kernel)
theorem ms_X12_wall : Cond.selects RX12 yX12_wall yX12_wall ∈ lwG := lwc_4 109 (by decide +kernel) (by decide +kernel)
abbrev M_X12_at : MI := (yX12_at, cX12_at, 4, (some .int))
theorem pn_X12_at : plainFor yX12_at = true := by decide +kernel
theorem mc_X12_at : Cond.code yX12_at cX12_at 4 (some .int) ∈ lwG := lwc_4 119 (by decide +kernel) (by decide +kernel)
theorem mi_X12_at : Cond.instanceMethod yX12_at ∈ lwG := lwc_4 117 (by decide +kernel) (by decide +kernel)
theorem ms_X12_at : Cond.selects RX12 yX12_at yX12_at ∈ lwG := lwc_4 118 (by decide +kernel) (by decide +kernel)
abbrev M_X12_later : MI := (yX12_later, cX12_later, 3, (some .int))
theorem pn_X12_later : plainFor yX12_later = true := by decide +kernel
theorem mc_X12_later : Cond.code yX12_later cX12_later 3 (some .int) ∈ lwG := lwc_4 126 (by decide +kernel) (by decide +kernel)
theorem mi_X12_later : Cond.instanceMethod yX12_later ∈ lwG := lwc_4 124 (by decide +kernel) (by decide +kernel)
theorem ms_X12_later : Cond.selects RX12 yX12_later yX12_later ∈ lwG := lwc_4 125 (by decide +kernel) (by decide +kernel)
abbrev M_X12_built : MI := (yX12_built, cX12_built, 2, (some .int))
theorem pn_X12_built : plainFor yX12_built = true := by decide +kernel
theorem mc_X12_built : Cond.code yX12_built cX12_built 2 (some .int) ∈ lwG := lwc_5 17 (by decide +kernel) (by decide +kernel)
theorem mi_X12_built : Cond.instanceMethod yX12_built ∈ lwG := lwc_5 15 (by decide +kernel) (by decide +kernel)
theorem ms_X12_built : Cond.selects RX12 yX12_built yX12_built ∈ lwG := lwc_5 16 (by decide +kernel) (by decide +kernel)
abbrev M_X12_down : MI := (yX12_down, cX12_down, 2, (some .int))
theorem pn_X12_down : plainFor yX12_down = true := by decide +kernel
theorem mc_X12_down : Cond.code yX12_down cX12_down 2 (some .int) ∈ lwG := lwc_5 25 (by decide +kernel) (by decide +kernel)
theorem mi_X12_down : Cond.instanceMethod yX12_down ∈ lwG := lwc_5 23 (by decide +kernel) (by decide +kernel)
theorem ms_X12_down : Cond.selects RX12 yX12_down yX12_down ∈ lwG := lwc_5 24 (by decide +kernel) (by decide +kernel)
abbrev M_X12_props : MI := (yX12_props, cX12_props, 2, (some .int))
theorem pn_X12_props : plainFor yX12_props = true := by decide +kernel
theorem mc_X12_props : Cond.code yX12_props cX12_props 2 (some .int) ∈ lwG := lwc_5 37 (by decide +kernel) (by decide +kernel)
theorem mi_X12_props : Cond.instanceMethod yX12_props ∈ lwG := lwc_5 35 (by decide +kernel) (by decide +kernel)
theorem ms_X12_props : Cond.selects RX12 yX12_props yX12_props ∈ lwG := lwc_5 36 (by decide +kernel) (by decide +kernel)
abbrev M_X12_strongest : MI := (yX12_strongest, cX12_strongest, 4, (some .int))
theorem pn_X12_strongest : plainFor yX12_strongest = true := by decide +kernel
theorem mc_X12_strongest : Cond.code yX12_strongest cX12_strongest 4 (some .int) ∈ lwG := lwc_5 52 (by decide +kernel) (by decide +kernel)
theorem mi_X12_strongest : Cond.instanceMethod yX12_strongest ∈ lwG := lwc_5 50 (by decide +kernel) (by decide +kernel)
theorem ms_X12_strongest : Cond.selects RX12 yX12_strongest yX12_strongest ∈ lwG := lwc_5 51 (by decide +kernel) (by decide +kernel)
abbrev M_X12_order : MI := (yX12_order, cX12_order, 4, (some .int))
theorem pn_X12_order : plainFor yX12_order = true := by decide +kernel
theorem mc_X12_order : Cond.code yX12_order cX12_order 4 (some .int) ∈ lwG := lwc_5 67 (by decide +kernel) (by decide +kernel)
theorem mi_X12_order : Cond.instanceMethod yX12_order ∈ lwG := lwc_5 65 (by decide +kernel) (by decide +kernel)
theorem ms_X12_order : Cond.selects RX12 yX12_order yX12_order ∈ lwG := lwc_5 66 (by decide +kernel) (by decide +kernel)
abbrev M_X12_reconcile : MI := (yX12_reconcile, cX12_reconcile, 9, (some .int))
theorem pn_X12_reconcile : plainFor yX12_reconcile = true := by decide +kernel
theorem mc_X12_reconcile : Cond.code yX12_reconcile cX12_reconcile 9 (some .int) ∈ lwG := lwc_5 83 (by decide +kernel) (by decide +kernel)
theorem mi_X12_reconcile : Cond.instanceMethod yX12_reconcile ∈ lwG := lwc_5 81 (by decide +kernel) (by decide +kernel)
theorem ms_X12_reconcile : Cond.selects RX12 yX12_reconcile yX12_reconcile ∈ lwG := lwc_5 82 (by decide +kernel) (by decide +kernel)
abbrev M_X12_seams : MI := (yX12_seams, cX12_seams, 3, (some .int))
theorem pn_X12_seams : plainFor yX12_seams = true := by decide +kernel
theorem mc_X12_seams : Cond.code yX12_seams cX12_seams 3 (some .int) ∈ lwG := lwc_5 87 (by decide +kernel) (by decide +kernel)
theorem mi_X12_seams : Cond.instanceMethod yX12_seams ∈ lwG := lwc_5 85 (by decide +kernel) (by decide +kernel)
theorem ms_X12_seams : Cond.selects RX12 yX12_seams yX12_seams ∈ lwG := lwc_5 86 (by decide +kernel) (by decide +kernel)
abbrev M_X12_homes : MI := (yX12_homes, cX12_homes, 2, (some .int))
theorem pn_X12_homes : plainFor yX12_homes = true := by decide +kernel
theorem mc_X12_homes : Cond.code yX12_homes cX12_homes 2 (some .int) ∈ lwG := lwc_5 113 (by decide +kernel) (by decide +kernel)
theorem mi_X12_homes : Cond.instanceMethod yX12_homes ∈ lwG := lwc_5 111 (by decide +kernel) (by decide +kernel)
theorem ms_X12_homes : Cond.selects RX12 yX12_homes yX12_homes ∈ lwG := lwc_5 112 (by decide +kernel) (by decide +kernel)
abbrev M_X12_pulling : MI := (yX12_pulling, cX12_pulling, 2, (some .int))
theorem pn_X12_pulling : plainFor yX12_pulling = true := by decide +kernel
theorem mc_X12_pulling : Cond.code yX12_pulling cX12_pulling 2 (some .int) ∈ lwG := lwc_5 127 (by decide +kernel) (by decide +kernel)
theorem mi_X12_pulling : Cond.instanceMethod yX12_pulling ∈ lwG := lwc_5 125 (by decide +kernel) (by decide +kernel)
theorem ms_X12_pulling : Cond.selects RX12 yX12_pulling yX12_pulling ∈ lwG := lwc_5 126 (by decide +kernel) (by decide +kernel)
abbrev M_X12_canPass : MI := (yX12_canPass, cX12_canPass, 2, (some .boolean))
theorem pn_X12_canPass : plainFor yX12_canPass = true := by decide +kernel
theorem mc_X12_canPass : Cond.code yX12_canPass cX12_canPass 2 (some .boolean) ∈ lwG := lwc_5 145 (by decide +kernel) (by decide +kernel)
theorem mi_X12_canPass : Cond.instanceMethod yX12_canPass ∈ lwG := lwc_5 144 (by decide +kernel) (by decide +kernel)
theorem ms_X12_canPass : Cond.selects RX12 yX12_canPass yX12_canPass ∈ lwG := lwG_of 48 (by decide +kernel) (by decide +kernel)
abbrev M_X12_years : MI := (yX12_years, cX12_years, 3, (some .int))
theorem pn_X12_years : plainFor yX12_years = true := by decide +kernel
theorem mc_X12_years : Cond.code yX12_years cX12_years 3 (some .int) ∈ lwG := lwc_5 141 (by decide +kernel) (by decide +kernel)
theorem mi_X12_years : Cond.instanceMethod yX12_years ∈ lwG := lwc_5 139 (by decide +kernel) (by decide +kernel)
theorem ms_X12_years : Cond.selects RX12 yX12_years yX12_years ∈ lwG := lwc_5 140 (by decide +kernel) (by decide +kernel)
abbrev M_X12_drawHundred : MI := (yX12_drawHundred, cX12_drawHundred, 1, (some .int))
theorem pn_X12_drawHundred : plainFor yX12_drawHundred = true := by decide +kernel
theorem mc_X12_drawHundred : Cond.code yX12_drawHundred cX12_drawHundred 1 (some .int) ∈ lwG := lwc_5 160 (by decide +kernel) (by decide +kernel)
theorem mi_X12_drawHundred : Cond.instanceMethod yX12_drawHundred ∈ lwG := lwc_5 159 (by decide +kernel) (by decide +kernel)
theorem ms_X12_drawHundred : Cond.selects RX12 yX12_drawHundred yX12_drawHundred ∈ lwG := lwG_of 49 (by decide +kernel) (by decide +kernel)
abbrev M_X12_chance : MI := (yX12_chance, cX12_chance, 5, (some .int))
theorem pn_X12_chance : plainFor yX12_chance = true := by decide +kernel
theorem mc_X12_chance : Cond.code yX12_chance cX12_chance 5 (some .int) ∈ lwG := lwc_5 156 (by decide +kernel) (by decide +kernel)
theorem mi_X12_chance : Cond.instanceMethod yX12_chance ∈ lwG := lwc_5 154 (by decide +kernel) (by decide +kernel)
theorem ms_X12_chance : Cond.selects RX12 yX12_chance yX12_chance ∈ lwG := lwc_5 155 (by decide +kernel) (by decide +kernel)
abbrev M_X12_go : MI := (yX12_go, cX12_go, 4, (some .boolean))
theorem pn_X12_go : plainFor yX12_go = true := by decide +kernel
theorem mc_X12_go : Cond.code yX12_go cX12_go 4 (some .boolean) ∈ lwG := lwc_5 167 (by decide +kernel) (by decide +kernel)
theorem mi_X12_go : Cond.instanceMethod yX12_go ∈ lwG := lwc_5 165 (by decide +kernel) (by decide +kernel)
theorem ms_X12_go : Cond.selects RX12 yX12_go yX12_go ∈ lwG := lwc_5 166 (by decide +kernel) (by decide +kernel)
abbrev M_X12_pull : MI := (yX12_pull, cX12_pull, 2, (some .int))
theorem pn_X12_pull : plainFor yX12_pull = true := by decide +kernel
theorem mc_X12_pull : Cond.code yX12_pull cX12_pull 2 (some .int) ∈ lwG := lwc_5 171 (by decide +kernel) (by decide +kernel)
theorem mi_X12_pull : Cond.instanceMethod yX12_pull ∈ lwG := lwc_5 169 (by decide +kernel) (by decide +kernel)
theorem ms_X12_pull : Cond.selects RX12 yX12_pull yX12_pull ∈ lwG := lwc_5 170 (by decide +kernel) (by decide +kernel)
abbrev M_X12_peace : MI := (yX12_peace, cX12_peace, 2, (some .boolean))
theorem pn_X12_peace : plainFor yX12_peace = true := by decide +kernel
theorem mc_X12_peace : Cond.code yX12_peace cX12_peace 2 (some .boolean) ∈ lwG := lwc_5 176 (by decide +kernel) (by decide +kernel)
theorem mi_X12_peace : Cond.instanceMethod yX12_peace ∈ lwG := lwc_5 174 (by decide +kernel) (by decide +kernel)
theorem ms_X12_peace : Cond.selects RX12 yX12_peace yX12_peace ∈ lwG := lwc_5 175 (by decide +kernel) (by decide +kernel)
abbrev M_X12_undo : MI := (yX12_undo, cX12_undo, 1, (some .boolean))
theorem pn_X12_undo : plainFor yX12_undo = true := by decide +kernel
theorem mc_X12_undo : Cond.code yX12_undo cX12_undo 1 (some .boolean) ∈ lwG := lwc_5 180 (by decide +kernel) (by decide +kernel)
theorem mi_X12_undo : Cond.instanceMethod yX12_undo ∈ lwG := lwc_5 178 (by decide +kernel) (by decide +kernel)
theorem ms_X12_undo : Cond.selects RX12 yX12_undo yX12_undo ∈ lwG := lwc_5 179 (by decide +kernel) (by decide +kernel)
abbrev M_X12_seed : MI := (yX12_seed, cX12_seed, 2, (some .boolean))
theorem pn_X12_seed : plainFor yX12_seed = true := by decide +kernel
theorem mc_X12_seed : Cond.code yX12_seed cX12_seed 2 (some .boolean) ∈ lwG := lwc_5 190 (by decide +kernel) (by decide +kernel)
theorem mi_X12_seed : Cond.instanceMethod yX12_seed ∈ lwG := lwc_5 188 (by decide +kernel) (by decide +kernel)
theorem ms_X12_seed : Cond.selects RX12 yX12_seed yX12_seed ∈ lwG := lwc_5 189 (by decide +kernel) (by decide +kernel)
abbrev M_X12_kept : MI := (yX12_kept, cX12_kept, 4, (some .int))
theorem pn_X12_kept : plainFor yX12_kept = true := by decide +kernel
theorem mc_X12_kept : Cond.code yX12_kept cX12_kept 4 (some .int) ∈ lwG := lwc_5 194 (by decide +kernel) (by decide +kernel)
theorem mi_X12_kept : Cond.instanceMethod yX12_kept ∈ lwG := lwc_5 192 (by decide +kernel) (by decide +kernel)
theorem ms_X12_kept : Cond.selects RX12 yX12_kept yX12_kept ∈ lwG := lwc_5 193 (by decide +kernel) (by decide +kernel)
abbrev M_X12_image : MI := (yX12_image, cX12_image, 1, (some .int))
theorem pn_X12_image : plainFor yX12_image = true := by decide +kernel
theorem mc_X12_image : Cond.code yX12_image cX12_image 1 (some .int) ∈ lwG := lwc_5 198 (by decide +kernel) (by decide +kernel)
theorem mi_X12_image : Cond.instanceMethod yX12_image ∈ lwG := lwc_5 196 (by decide +kernel) (by decide +kernel)
theorem ms_X12_image : Cond.selects RX12 yX12_image yX12_image ∈ lwG := lwc_5 197 (by decide +kernel) (by decide +kernel)
abbrev M_X12_octet : MI := (yX12_octet, cX12_octet, 2, (some .int))
theorem pn_X12_octet : plainFor yX12_octet = true := by decide +kernel
theorem mc_X12_octet : Cond.code yX12_octet cX12_octet 2 (some .int) ∈ lwG := lwc_5 219 (by decide +kernel) (by decide +kernel)
theorem mi_X12_octet : Cond.instanceMethod yX12_octet ∈ lwG := lwc_5 217 (by decide +kernel) (by decide +kernel)
theorem ms_X12_octet : Cond.selects RX12 yX12_octet yX12_octet ∈ lwG := lwc_5 218 (by decide +kernel) (by decide +kernel)
abbrev M_X12_on : MI := (yX12_on, cX12_on, 2, (some .boolean))
theorem pn_X12_on : plainFor yX12_on = true := by decide +kernel
theorem mc_X12_on : Cond.code yX12_on cX12_on 2 (some .boolean) ∈ lwG := lwc_5 223 (by decide +kernel) (by decide +kernel)
theorem mi_X12_on : Cond.instanceMethod yX12_on ∈ lwG := lwc_5 221 (by decide +kernel) (by decide +kernel)
theorem ms_X12_on : Cond.selects RX12 yX12_on yX12_on ∈ lwG := lwc_5 222 (by decide +kernel) (by decide +kernel)
abbrev M_X12_status : MI := (yX12_status, cX12_status, 2, (some .int))
theorem pn_X12_status : plainFor yX12_status = true := by decide +kernel
theorem mc_X12_status : Cond.code yX12_status cX12_status 2 (some .int) ∈ lwG := lwc_6 8 (by decide +kernel) (by decide +kernel)
theorem mi_X12_status : Cond.instanceMethod yX12_status ∈ lwG := lwc_6 6 (by decide +kernel) (by decide +kernel)
theorem ms_X12_status : Cond.selects RX12 yX12_status yX12_status ∈ lwG := lwc_6 7 (by decide +kernel) (by decide +kernel)
abbrev M_X13_isDefault : MI := (yX13_isDefault, cX13_isDefault, 2, none)
theorem pn_X13_isDefault : plainFor yX13_isDefault = true := by decide +kernel
theorem mc_X13_isDefault : Cond.code yX13_isDefault cX13_isDefault 2 none ∈ lwG := lwc_6 18 (by decide +kernel) (by decide +kernel)
theorem mi_X13_isDefault : Cond.instanceMethod yX13_isDefault ∈ lwG := lwc_6 17 (by decide +kernel) (by decide +kernel)
theorem ms_X13_isDefault : Cond.selects RX13 yX13_isDefault yX13_isDefault ∈ lwG := lwG_of 52 (by decide +kernel) (by decide +kernel)
abbrev M_X13_is : MI := (yX13_is, cX13_is, 3, (some .boolean))
theorem pn_X13_is : plainFor yX13_is = true := by decide +kernel
theorem mc_X13_is : Cond.code yX13_is cX13_is 3 (some .boolean) ∈ lwG := lwc_7 128 (by decide +kernel) (by decide +kernel)
theorem mi_X13_is : Cond.static yX13_is ∈ lwG := lwc_7 127 (by decide +kernel) (by decide +kernel)
abbrev M_X13_put : MI := (yX13_put, cX13_put, 3, none)
theorem pn_X13_put : plainFor yX13_put = true := by decide +kernel
theorem mc_X13_put : Cond.code yX13_put cX13_put 3 none ∈ lwG := lwc_7 24 (by decide +kernel) (by decide +kernel)
theorem mi_X13_put : Cond.instanceMethod yX13_put ∈ lwG := lwc_7 23 (by decide +kernel) (by decide +kernel)
theorem ms_X13_put : Cond.selects RX13 yX13_put yX13_put ∈ lwG := lwG_of 54 (by decide +kernel) (by decide +kernel)
abbrev M_X13_refuses : MI := (yX13_refuses, cX13_refuses, 2, (some .int))
theorem pn_X13_refuses : plainFor yX13_refuses = true := by decide +kernel
theorem mc_X13_refuses : Cond.code yX13_refuses cX13_refuses 2 (some .int) ∈ lwG := lwc_7 20 (by decide +kernel) (by decide +kernel)
theorem mi_X13_refuses : Cond.instanceMethod yX13_refuses ∈ lwG := lwc_7 19 (by decide +kernel) (by decide +kernel)
theorem ms_X13_refuses : Cond.selects RX13 yX13_refuses yX13_refuses ∈ lwG := lwG_of 53 (by decide +kernel) (by decide +kernel)
abbrev M_X13_feed : MI := (yX13_feed, cX13_feed, 6, (some .int))
theorem pn_X13_feed : plainFor yX13_feed = true := by decide +kernel
theorem mc_X13_feed : Cond.code yX13_feed cX13_feed 6 (some .int) ∈ lwG := lwc_7 16 (by decide +kernel) (by decide +kernel)
theorem mi_X13_feed : Cond.instanceMethod yX13_feed ∈ lwG := lwc_7 14 (by decide +kernel) (by decide +kernel)
theorem ms_X13_feed : Cond.selects RX13 yX13_feed yX13_feed ∈ lwG := lwc_7 15 (by decide +kernel) (by decide +kernel)
abbrev M_X13_end : MI := (yX13_end, cX13_end, 2, (some .boolean))
theorem pn_X13_end : plainFor yX13_end = true := by decide +kernel
theorem mc_X13_end : Cond.code yX13_end cX13_end 2 (some .boolean) ∈ lwG := lwc_7 28 (by decide +kernel) (by decide +kernel)
theorem mi_X13_end : Cond.instanceMethod yX13_end ∈ lwG := lwc_7 26 (by decide +kernel) (by decide +kernel)
theorem ms_X13_end : Cond.selects RX13 yX13_end yX13_end ∈ lwG := lwc_7 27 (by decide +kernel) (by decide +kernel)
abbrev M_X13_blame : MI := (yX13_blame, cX13_blame, 3, none)
theorem pn_X13_blame : plainFor yX13_blame = true := by decide +kernel
theorem mc_X13_blame : Cond.code yX13_blame cX13_blame 3 none ∈ lwG := lwc_7 54 (by decide +kernel) (by decide +kernel)
theorem mi_X13_blame : Cond.instanceMethod yX13_blame ∈ lwG := lwc_7 53 (by decide +kernel) (by decide +kernel)
theorem ms_X13_blame : Cond.selects RX13 yX13_blame yX13_blame ∈ lwG := lwG_of 58 (by decide +kernel) (by decide +kernel)
abbrev M_X13_isLetter : MI := (yX13_isLetter, cX13_isLetter, 1, (some .boolean))
theorem pn_X13_isLetter : plainFor yX13_isLetter = true := by decide +kernel
theorem mc_X13_isLetter : Cond.code yX13_isLetter cX13_isLetter 1 (some .boolean) ∈ lwG := lwc_7 39 (by decide +kernel) (by decide +kernel)
theorem mi_X13_isLetter : Cond.static yX13_isLetter ∈ lwG := lwc_7 38 (by decide +kernel) (by decide +kernel)
abbrev M_X13_isDigit : MI := (yX13_isDigit, cX13_isDigit, 1, (some .boolean))
theorem pn_X13_isDigit : plainFor yX13_isDigit = true := by decide +kernel
theorem mc_X13_isDigit : Cond.code yX13_isDigit cX13_isDigit 1 (some .boolean) ∈ lwG := lwc_7 42 (by decide +kernel) (by decide +kernel)
theorem mi_X13_isDigit : Cond.static yX13_isDigit ∈ lwG := lwc_7 41 (by decide +kernel) (by decide +kernel)
abbrev M_X13_lex : MI := (yX13_lex, cX13_lex, 1, none)
theorem pn_X13_lex : plainFor yX13_lex = true := by decide +kernel
theorem mc_X13_lex : Cond.code yX13_lex cX13_lex 1 none ∈ lwG := lwc_7 50 (by decide +kernel) (by decide +kernel)
theorem mi_X13_lex : Cond.instanceMethod yX13_lex ∈ lwG := lwc_7 49 (by decide +kernel) (by decide +kernel)
theorem ms_X13_lex : Cond.selects RX13 yX13_lex yX13_lex ∈ lwG := lwG_of 57 (by decide +kernel) (by decide +kernel)
abbrev M_X13_ahead : MI := (yX13_ahead, cX13_ahead, 6, none)
theorem pn_X13_ahead : plainFor yX13_ahead = true := by decide +kernel
theorem mc_X13_ahead : Cond.code yX13_ahead cX13_ahead 6 none ∈ lwG := lwc_7 36 (by decide +kernel) (by decide +kernel)
theorem mi_X13_ahead : Cond.instanceMethod yX13_ahead ∈ lwG := lwc_7 35 (by decide +kernel) (by decide +kernel)
theorem ms_X13_ahead : Cond.selects RX13 yX13_ahead yX13_ahead ∈ lwG := lwG_of 55 (by decide +kernel) (by decide +kernel)
abbrev M_X13_isSign : MI := (yX13_isSign, cX13_isSign, 2, (some .boolean))
theorem pn_X13_isSign : plainFor yX13_isSign = true := by decide +kernel
theorem mc_X13_isSign : Cond.code yX13_isSign cX13_isSign 2 (some .boolean) ∈ lwG := lwc_7 186 (by decide +kernel) (by decide +kernel)
theorem mi_X13_isSign : Cond.instanceMethod yX13_isSign ∈ lwG := lwc_7 185 (by decide +kernel) (by decide +kernel)
theorem ms_X13_isSign : Cond.selects RX13 yX13_isSign yX13_isSign ∈ lwG := lwG_of 81 (by decide +kernel) (by decide +kernel)
abbrev M_X13_isWord : MI := (yX13_isWord, cX13_isWord, 3, (some .boolean))
theorem pn_X13_isWord : plainFor yX13_isWord = true := by decide +kernel
theorem mc_X13_isWord : Cond.code yX13_isWord cX13_isWord 3 (some .boolean) ∈ lwG := lwc_7 59 (by decide +kernel) (by decide +kernel)
theorem mi_X13_isWord : Cond.instanceMethod yX13_isWord ∈ lwG := lwc_7 58 (by decide +kernel) (by decide +kernel)
theorem ms_X13_isWord : Cond.selects RX13 yX13_isWord yX13_isWord ∈ lwG := lwG_of 59 (by decide +kernel) (by decide +kernel)
abbrev M_X13_must : MI := (yX13_must, cX13_must, 2, none)
theorem pn_X13_must : plainFor yX13_must = true := by decide +kernel
theorem mc_X13_must : Cond.code yX13_must cX13_must 2 none ∈ lwG := lwc_7 221 (by decide +kernel) (by decide +kernel)
theorem mi_X13_must : Cond.instanceMethod yX13_must ∈ lwG := lwc_7 220 (by decide +kernel) (by decide +kernel)
theorem ms_X13_must : Cond.selects RX13 yX13_must yX13_must ∈ lwG := lwG_of 89 (by decide +kernel) (by decide +kernel)
abbrev M_X13_isOwn : MI := (yX13_isOwn, cX13_isOwn, 3, (some .boolean))
theorem pn_X13_isOwn : plainFor yX13_isOwn = true := by decide +kernel
theorem mc_X13_isOwn : Cond.code yX13_isOwn cX13_isOwn 3 (some .boolean) ∈ lwG := lwc_7 75 (by decide +kernel) (by decide +kernel)
theorem mi_X13_isOwn : Cond.instanceMethod yX13_isOwn ∈ lwG := lwc_7 74 (by decide +kernel) (by decide +kernel)
theorem ms_X13_isOwn : Cond.selects RX13 yX13_isOwn yX13_isOwn ∈ lwG := lwG_of 63 (by decide +kernel) (by decide +kernel)
abbrev M_X13_toldOf : MI := (yX13_toldOf, cX13_toldOf, 2, (some .int))
theorem pn_X13_toldOf : plainFor yX13_toldOf = true := by decide +kernel
theorem mc_X13_toldOf : Cond.code yX13_toldOf cX13_toldOf 2 (some .int) ∈ lwG := lwc_8 36 (by decide +kernel) (by decide +kernel)
theorem mi_X13_toldOf : Cond.instanceMethod yX13_toldOf ∈ lwG := lwc_8 35 (by decide +kernel) (by decide +kernel)
theorem ms_X13_toldOf : Cond.selects RX13 yX13_toldOf yX13_toldOf ∈ lwG := lwG_of 98 (by decide +kernel) (by decide +kernel)
abbrev M_X13_manyOf : MI := (yX13_manyOf, cX13_manyOf, 3, (some .int))
theorem pn_X13_manyOf : plainFor yX13_manyOf = true := by decide +kernel
theorem mc_X13_manyOf : Cond.code yX13_manyOf cX13_manyOf 3 (some .int) ∈ lwG := lwc_7 113 (by decide +kernel) (by decide +kernel)
theorem mi_X13_manyOf : Cond.instanceMethod yX13_manyOf ∈ lwG := lwc_7 112 (by decide +kernel) (by decide +kernel)
theorem ms_X13_manyOf : Cond.selects RX13 yX13_manyOf yX13_manyOf ∈ lwG := lwG_of 65 (by decide +kernel) (by decide +kernel)
abbrev M_X13_nameOf : MI := (yX13_nameOf, cX13_nameOf, 4, (some .long))
theorem pn_X13_nameOf : plainFor yX13_nameOf = true := by decide +kernel
theorem mc_X13_nameOf : Cond.code yX13_nameOf cX13_nameOf 4 (some .long) ∈ lwG := lwc_7 117 (by decide +kernel) (by decide +kernel)
theorem mi_X13_nameOf : Cond.instanceMethod yX13_nameOf ∈ lwG := lwc_7 116 (by decide +kernel) (by decide +kernel)
theorem ms_X13_nameOf : Cond.selects RX13 yX13_nameOf yX13_nameOf ∈ lwG := lwG_of 66 (by decide +kernel) (by decide +kernel)
abbrev M_X13_named : MI := (yX13_named, cX13_named, 5, (some .int))
theorem pn_X13_named : plainFor yX13_named = true := by decide +kernel
theorem mc_X13_named : Cond.code yX13_named cX13_named 5 (some .int) ∈ lwG := lwc_7 109 (by decide +kernel) (by decide +kernel)
theorem mi_X13_named : Cond.instanceMethod yX13_named ∈ lwG := lwc_7 108 (by decide +kernel) (by decide +kernel)
theorem ms_X13_named : Cond.selects RX13 yX13_named yX13_named ∈ lwG := lwG_of 64 (by decide +kernel) (by decide +kernel)
abbrev M_X13_number : MI := (yX13_number, cX13_number, 4, (some .int))
theorem pn_X13_number : plainFor yX13_number = true := by decide +kernel
theorem mc_X13_number : Cond.code yX13_number cX13_number 4 (some .int) ∈ lwG := lwc_7 125 (by decide +kernel) (by decide +kernel)
theorem mi_X13_number : Cond.instanceMethod yX13_number ∈ lwG := lwc_7 124 (by decide +kernel) (by decide +kernel)
theorem ms_X13_number : Cond.selects RX13 yX13_number yX13_number ∈ lwG := lwG_of 68 (by decide +kernel) (by decide +kernel)
abbrev M_X13_add : MI := (yX13_add, cX13_add, 3, none)
theorem pn_X13_add : plainFor yX13_add = true := by decide +kernel
theorem mc_X13_add : Cond.code yX13_add cX13_add 3 none ∈ lwG := lwc_7 194 (by decide +kernel) (by decide +kernel)
theorem mi_X13_add : Cond.instanceMethod yX13_add ∈ lwG := lwc_7 193 (by decide +kernel) (by decide +kernel)
theorem ms_X13_add : Cond.selects RX13 yX13_add yX13_add ∈ lwG := lwG_of 83 (by decide +kernel) (by decide +kernel)
abbrev M_X13_rank : MI := (yX13_rank, cX13_rank, 1, (some .int))
theorem pn_X13_rank : plainFor yX13_rank = true := by decide +kernel
theorem mc_X13_rank : Cond.code yX13_rank cX13_rank 1 (some .int) ∈ lwG := lwc_7 205 (by decide +kernel) (by decide +kernel)
theorem mi_X13_rank : Cond.static yX13_rank ∈ lwG := lwc_7 204 (by decide +kernel) (by decide +kernel)
abbrev M_X13_joins : MI := (yX13_joins, cX13_joins, 2, none)
theorem pn_X13_joins : plainFor yX13_joins = true := by decide +kernel
theorem mc_X13_joins : Cond.code yX13_joins cX13_joins 2 none ∈ lwG := lwc_7 202 (by decide +kernel) (by decide +kernel)
theorem mi_X13_joins : Cond.instanceMethod yX13_joins ∈ lwG := lwc_7 201 (by decide +kernel) (by decide +kernel)
theorem ms_X13_joins : Cond.selects RX13 yX13_joins yX13_joins ∈ lwG := lwG_of 85 (by decide +kernel) (by decide +kernel)
abbrev M_X13_holdsBack : MI := (yX13_holdsBack, cX13_holdsBack, 2, none)
theorem pn_X13_holdsBack : plainFor yX13_holdsBack = true := by decide +kernel
theorem mc_X13_holdsBack : Cond.code yX13_holdsBack cX13_holdsBack 2 none ∈ lwG := lwc_7 182 (by decide +kernel) (by decide +kernel)
theorem mi_X13_holdsBack : Cond.instanceMethod yX13_holdsBack ∈ lwG := lwc_7 181 (by decide +kernel) (by decide +kernel)
theorem ms_X13_holdsBack : Cond.selects RX13 yX13_holdsBack yX13_holdsBack ∈ lwG := lwG_of 80 (by decide +kernel) (by decide +kernel)
abbrev M_X13_pushes : MI := (yX13_pushes, cX13_pushes, 2, none)
theorem pn_X13_pushes : plainFor yX13_pushes = true := by decide +kernel
theorem mc_X13_pushes : Cond.code yX13_pushes cX13_pushes 2 none ∈ lwG := lwc_7 171 (by decide +kernel) (by decide +kernel)
theorem mi_X13_pushes : Cond.instanceMethod yX13_pushes ∈ lwG := lwc_7 170 (by decide +kernel) (by decide +kernel)
theorem ms_X13_pushes : Cond.selects RX13 yX13_pushes yX13_pushes ∈ lwG := lwG_of 78 (by decide +kernel) (by decide +kernel)
abbrev M_X13_opens : MI := (yX13_opens, cX13_opens, 2, none)
theorem pn_X13_opens : plainFor yX13_opens = true := by decide +kernel
theorem mc_X13_opens : Cond.code yX13_opens cX13_opens 2 none ∈ lwG := lwc_7 190 (by decide +kernel) (by decide +kernel)
theorem mi_X13_opens : Cond.instanceMethod yX13_opens ∈ lwG := lwc_7 189 (by decide +kernel) (by decide +kernel)
theorem ms_X13_opens : Cond.selects RX13 yX13_opens yX13_opens ∈ lwG := lwG_of 82 (by decide +kernel) (by decide +kernel)
abbrev M_X13_isTest : MI := (yX13_isTest, cX13_isTest, 1, (some .boolean))
theorem pn_X13_isTest : plainFor yX13_isTest = true := by decide +kernel
theorem mc_X13_isTest : Cond.code yX13_isTest cX13_isTest 1 (some .boolean) ∈ lwG := lwc_7 178 (by decide +kernel) (by decide +kernel)
theorem mi_X13_isTest : Cond.static yX13_isTest ∈ lwG := lwc_7 177 (by decide +kernel) (by decide +kernel)
abbrev M_X13_operand : MI := (yX13_operand, cX13_operand, 4, (some .boolean))
theorem pn_X13_operand : plainFor yX13_operand = true := by decide +kernel
theorem mc_X13_operand : Cond.code yX13_operand cX13_operand 4 (some .boolean) ∈ lwG := lwc_7 175 (by decide +kernel) (by decide +kernel)
theorem mi_X13_operand : Cond.instanceMethod yX13_operand ∈ lwG := lwc_7 174 (by decide +kernel) (by decide +kernel)
theorem ms_X13_operand : Cond.selects RX13 yX13_operand yX13_operand ∈ lwG := lwG_of 79 (by decide +kernel) (by decide +kernel)
abbrev M_X13_goesOn : MI := (yX13_goesOn, cX13_goesOn, 5, (some .boolean))
theorem pn_X13_goesOn : plainFor yX13_goesOn = true := by decide +kernel
theorem mc_X13_goesOn : Cond.code yX13_goesOn cX13_goesOn 5 (some .boolean) ∈ lwG := lwc_7 198 (by decide +kernel) (by decide +kernel)
theorem mi_X13_goesOn : Cond.instanceMethod yX13_goesOn ∈ lwG := lwc_7 197 (by decide +kernel) (by decide +kernel)
theorem ms_X13_goesOn : Cond.selects RX13 yX13_goesOn yX13_goesOn ∈ lwG := lwG_of 84 (by decide +kernel) (by decide +kernel)
abbrev M_X13_reads : MI := (yX13_reads, cX13_reads, 3, none)
theorem pn_X13_reads : plainFor yX13_reads = true := by decide +kernel
theorem mc_X13_reads : Cond.code yX13_reads cX13_reads 3 none ∈ lwG := lwc_7 167 (by decide +kernel) (by decide +kernel)
theorem mi_X13_reads : Cond.instanceMethod yX13_reads ∈ lwG := lwc_7 166 (by decide +kernel) (by decide +kernel)
theorem ms_X13_reads : Cond.selects RX13 yX13_reads yX13_reads ∈ lwG := lwG_of 77 (by decide +kernel) (by decide +kernel)
abbrev M_X13_counts : MI := (yX13_counts, cX13_counts, 2, (some .boolean))
theorem pn_X13_counts : plainFor yX13_counts = true := by decide +kernel
theorem mc_X13_counts : Cond.code yX13_counts cX13_counts 2 (some .boolean) ∈ lwG := lwc_7 67 (by decide +kernel) (by decide +kernel)
theorem mi_X13_counts : Cond.instanceMethod yX13_counts ∈ lwG := lwc_7 66 (by decide +kernel) (by decide +kernel)
theorem ms_X13_counts : Cond.selects RX13 yX13_counts yX13_counts ∈ lwG := lwG_of 61 (by decide +kernel) (by decide +kernel)
abbrev M_X13_must_ : MI := (yX13_must_, cX13_must_, 3, none)
theorem pn_X13_must_ : plainFor yX13_must_ = true := by decide +kernel
theorem mc_X13_must_ : Cond.code yX13_must_ cX13_must_ 3 none ∈ lwG := lwc_7 121 (by decide +kernel) (by decide +kernel)
theorem mi_X13_must_ : Cond.instanceMethod yX13_must_ ∈ lwG := lwc_7 120 (by decide +kernel) (by decide +kernel)
theorem ms_X13_must_ : Cond.selects RX13 yX13_must_ yX13_must_ ∈ lwG := lwG_of 67 (by decide +kernel) (by decide +kernel)
abbrev M_X13_fresh : MI := (yX13_fresh, cX13_fresh, 3, (some .long))
theorem pn_X13_fresh : plainFor yX13_fresh = true := by decide +kernel
theorem mc_X13_fresh : Cond.code yX13_fresh cX13_fresh 3 (some .long) ∈ lwG := lwc_7 71 (by decide +kernel) (by decide +kernel)
theorem mi_X13_fresh : Cond.instanceMethod yX13_fresh ∈ lwG := lwc_7 70 (by decide +kernel) (by decide +kernel)
theorem ms_X13_fresh : Cond.selects RX13 yX13_fresh yX13_fresh ∈ lwG := lwG_of 62 (by decide +kernel) (by decide +kernel)
abbrev M_X13_has2 : MI := (yX13_has2, cX13_has2, 2, (some .boolean))
theorem pn_X13_has2 : plainFor yX13_has2 = true := by decide +kernel
theorem mc_X13_has2 : Cond.code yX13_has2 cX13_has2 2 (some .boolean) ∈ lwG := lwc_7 139 (by decide +kernel) (by decide +kernel)
theorem mi_X13_has2 : Cond.static yX13_has2 ∈ lwG := lwc_7 138 (by decide +kernel) (by decide +kernel)
abbrev M_X13_askedBut : MI := (yX13_askedBut, cX13_askedBut, 4, (some .int))
theorem pn_X13_askedBut : plainFor yX13_askedBut = true := by decide +kernel
theorem mc_X13_askedBut : Cond.code yX13_askedBut cX13_askedBut 4 (some .int) ∈ lwG := lwc_7 136 (by decide +kernel) (by decide +kernel)
theorem mi_X13_askedBut : Cond.instanceMethod yX13_askedBut ∈ lwG := lwc_7 135 (by decide +kernel) (by decide +kernel)
theorem ms_X13_askedBut : Cond.selects RX13 yX13_askedBut yX13_askedBut ∈ lwG := lwG_of 70 (by decide +kernel) (by decide +kernel)
abbrev M_X13_homing : MI := (yX13_homing, cX13_homing, 2, none)
theorem pn_X13_homing : plainFor yX13_homing = true := by decide +kernel
theorem mc_X13_homing : Cond.code yX13_homing cX13_homing 2 none ∈ lwG := lwc_7 63 (by decide +kernel) (by decide +kernel)
theorem mi_X13_homing : Cond.instanceMethod yX13_homing ∈ lwG := lwc_7 62 (by decide +kernel) (by decide +kernel)
theorem ms_X13_homing : Cond.selects RX13 yX13_homing yX13_homing ∈ lwG := lwG_of 60 (by decide +kernel) (by decide +kernel)
abbrev M_X13_childing : MI := (yX13_childing, cX13_childing, 2, none)
theorem pn_X13_childing : plainFor yX13_childing = true := by decide +kernel
theorem mc_X13_childing : Cond.code yX13_childing cX13_childing 2 none ∈ lwG := lwc_7 132 (by decide +kernel) (by decide +kernel)
theorem mi_X13_childing : Cond.instanceMethod yX13_childing ∈ lwG := lwc_7 131 (by decide +kernel) (by decide +kernel)
theorem ms_X13_childing : Cond.selects RX13 yX13_childing yX13_childing ∈ lwG := lwG_of 69 (by decide +kernel) (by decide +kernel)
abbrev M_X13_twins : MI := (yX13_twins, cX13_twins, 3, (some .int))
theorem pn_X13_twins : plainFor yX13_twins = true := by decide +kernel
theorem mc_X13_twins : Cond.code yX13_twins cX13_twins 3 (some .int) ∈ lwG := lwc_7 147 (by decide +kernel) (by decide +kernel)
theorem mi_X13_twins : Cond.instanceMethod yX13_twins ∈ lwG := lwc_7 146 (by decide +kernel) (by decide +kernel)
theorem ms_X13_twins : Cond.selects RX13 yX13_twins yX13_twins ∈ lwG := lwG_of 72 (by decide +kernel) (by decide +kernel)
abbrev M_X13_twinning : MI := (yX13_twinning, cX13_twinning, 3, none)
theorem pn_X13_twinning : plainFor yX13_twinning = true := by decide +kernel
theorem mc_X13_twinning : Cond.code yX13_twinning cX13_twinning 3 none ∈ lwG := lwc_7 143 (by decide +kernel) (by decide +kernel)
theorem mi_X13_twinning : Cond.instanceMethod yX13_twinning ∈ lwG := lwc_7 142 (by decide +kernel) (by decide +kernel)
theorem ms_X13_twinning : Cond.selects RX13 yX13_twinning yX13_twinning ∈ lwG := lwG_of 71 (by decide +kernel) (by decide +kernel)
abbrev M_X13_feuding : MI := (yX13_feuding, cX13_feuding, 6, (some .int))
theorem pn_X13_feuding : plainFor yX13_feuding = true := by decide +kernel
theorem mc_X13_feuding : Cond.code yX13_feuding cX13_feuding 6 (some .int) ∈ lwG := lwc_7 155 (by decide +kernel) (by decide +kernel)
theorem mi_X13_feuding : Cond.instanceMethod yX13_feuding ∈ lwG := lwc_7 154 (by decide +kernel) (by decide +kernel)
theorem ms_X13_feuding : Cond.selects RX13 yX13_feuding yX13_feuding ∈ lwG := lwG_of 74 (by decide +kernel) (by decide +kernel)
abbrev M_X13_feuds : MI := (yX13_feuds, cX13_feuds, 4, none)
theorem pn_X13_feuds : plainFor yX13_feuds = true := by decide +kernel
theorem mc_X13_feuds : Cond.code yX13_feuds cX13_feuds 4 none ∈ lwG := lwc_7 151 (by decide +kernel) (by decide +kernel)
theorem mi_X13_feuds : Cond.instanceMethod yX13_feuds ∈ lwG := lwc_7 150 (by decide +kernel) (by decide +kernel)
theorem ms_X13_feuds : Cond.selects RX13 yX13_feuds yX13_feuds ∈ lwG := lwG_of 73 (by decide +kernel) (by decide +kernel)
abbrev M_X13_walling : MI := (yX13_walling, cX13_walling, 2, none)
theorem pn_X13_walling : plainFor yX13_walling = true := by decide +kernel
theorem mc_X13_walling : Cond.code yX13_walling cX13_walling 2 none ∈ lwG := lwc_7 159 (by decide +kernel) (by decide +kernel)
theorem mi_X13_walling : Cond.instanceMethod yX13_walling ∈ lwG := lwc_7 158 (by decide +kernel) (by decide +kernel)
theorem ms_X13_walling : Cond.selects RX13 yX13_walling yX13_walling ∈ lwG := lwG_of 75 (by decide +kernel) (by decide +kernel)
abbrev M_X13_reading : MI := (yX13_reading, cX13_reading, 3, none)
theorem pn_X13_reading : plainFor yX13_reading = true := by decide +kernel
theorem mc_X13_reading : Cond.code yX13_reading cX13_reading 3 none ∈ lwG := lwc_7 163 (by decide +kernel) (by decide +kernel)
theorem mi_X13_reading : Cond.instanceMethod yX13_reading ∈ lwG := lwc_7 162 (by decide +kernel) (by decide +kernel)
theorem ms_X13_reading : Cond.selects RX13 yX13_reading yX13_reading ∈ lwG := lwG_of 76 (by decide +kernel) (by decide +kernel)
abbrev M_X13_telling : MI := (yX13_telling, cX13_telling, 5, none)
theorem pn_X13_telling : plainFor yX13_telling = true := by decide +kernel
theorem mc_X13_telling : Cond.code yX13_telling cX13_telling 5 none ∈ lwG := lwc_7 213 (by decide +kernel) (by decide +kernel)
theorem mi_X13_telling : Cond.instanceMethod yX13_telling ∈ lwG := lwc_7 212 (by decide +kernel) (by decide +kernel)
theorem ms_X13_telling : Cond.selects RX13 yX13_telling yX13_telling ∈ lwG := lwG_of 87 (by decide +kernel) (by decide +kernel)
abbrev M_X13_raising : MI := (yX13_raising, cX13_raising, 3, none)
theorem pn_X13_raising : plainFor yX13_raising = true := by decide +kernel
theorem mc_X13_raising : Cond.code yX13_raising cX13_raising 3 none ∈ lwG := lwc_7 209 (by decide +kernel) (by decide +kernel)
theorem mi_X13_raising : Cond.instanceMethod yX13_raising ∈ lwG := lwc_7 208 (by decide +kernel) (by decide +kernel)
theorem ms_X13_raising : Cond.selects RX13 yX13_raising yX13_raising ∈ lwG := lwG_of 86 (by decide +kernel) (by decide +kernel)
abbrev M_X13_statement : MI := (yX13_statement, cX13_statement, 1, none)
theorem pn_X13_statement : plainFor yX13_statement = true := by decide +kernel
theorem mc_X13_statement : Cond.code yX13_statement cX13_statement 1 none ∈ lwG := lwc_7 46 (by decide +kernel) (by decide +kernel)
theorem mi_X13_statement : Cond.instanceMethod yX13_statement ∈ lwG := lwc_7 45 (by decide +kernel) (by decide +kernel)
theorem ms_X13_statement : Cond.selects RX13 yX13_statement yX13_statement ∈ lwG := lwG_of 56 (by decide +kernel) (by decide +kernel)
abbrev M_X13_finishes : MI := (yX13_finishes, cX13_finishes, 3, none)
theorem pn_X13_finishes : plainFor yX13_finishes = true := by decide +kernel
theorem mc_X13_finishes : Cond.code yX13_finishes cX13_finishes 3 none ∈ lwG := lwc_7 217 (by decide +kernel) (by decide +kernel)
theorem mi_X13_finishes : Cond.instanceMethod yX13_finishes ∈ lwG := lwc_7 216 (by decide +kernel) (by decide +kernel)
theorem ms_X13_finishes : Cond.selects RX13 yX13_finishes yX13_finishes ∈ lwG := lwG_of 88 (by decide +kernel) (by decide +kernel)
abbrev M_X13_begin : MI := (yX13_begin, cX13_begin, 2, none)
theorem pn_X13_begin : plainFor yX13_begin = true := by decide +kernel
theorem mc_X13_begin : Cond.code yX13_begin cX13_begin 2 none ∈ lwG := lwc_7 225 (by decide +kernel) (by decide +kernel)
theorem mi_X13_begin : Cond.instanceMethod yX13_begin ∈ lwG := lwc_7 224 (by decide +kernel) (by decide +kernel)
theorem ms_X13_begin : Cond.selects RX13 yX13_begin yX13_begin ∈ lwG := lwG_of 90 (by decide +kernel) (by decide +kernel)
abbrev M_X13_town : MI := (yX13_town, cX13_town, 2, (some .int))
theorem pn_X13_town : plainFor yX13_town = true := by decide +kernel
theorem mc_X13_town : Cond.code yX13_town cX13_town 2 (some .int) ∈ lwG := lwc_7 32 (by decide +kernel) (by decide +kernel)
theorem mi_X13_town : Cond.instanceMethod yX13_town ∈ lwG := lwc_7 30 (by decide +kernel) (by decide +kernel)
theorem ms_X13_town : Cond.selects RX13 yX13_town yX13_town ∈ lwG := lwc_7 31 (by decide +kernel) (by decide +kernel)
abbrev M_X13_fault : MI := (yX13_fault, cX13_fault, 2, (some .int))
theorem pn_X13_fault : plainFor yX13_fault = true := by decide +kernel
theorem mc_X13_fault : Cond.code yX13_fault cX13_fault 2 (some .int) ∈ lwG := lwc_7 229 (by decide +kernel) (by decide +kernel)
theorem mi_X13_fault : Cond.instanceMethod yX13_fault ∈ lwG := lwc_7 227 (by decide +kernel) (by decide +kernel)
theorem ms_X13_fault : Cond.selects RX13 yX13_fault yX13_fault ∈ lwG := lwc_7 228 (by decide +kernel) (by decide +kernel)
abbrev M_X13_status : MI := (yX13_status, cX13_status, 2, (some .int))
theorem pn_X13_status : plainFor yX13_status = true := by decide +kernel
theorem mc_X13_status : Cond.code yX13_status cX13_status 2 (some .int) ∈ lwG := lwc_7 233 (by decide +kernel) (by decide +kernel)
theorem mi_X13_status : Cond.instanceMethod yX13_status ∈ lwG := lwc_7 231 (by decide +kernel) (by decide +kernel)
theorem ms_X13_status : Cond.selects RX13 yX13_status yX13_status ∈ lwG := lwc_7 232 (by decide +kernel) (by decide +kernel)
abbrev M_X13_copies : MI := (yX13_copies, cX13_copies, 4, none)
theorem pn_X13_copies : plainFor yX13_copies = true := by decide +kernel
theorem mc_X13_copies : Cond.code yX13_copies cX13_copies 4 none ∈ lwG := lwc_8 5 (by decide +kernel) (by decide +kernel)
theorem mi_X13_copies : Cond.instanceMethod yX13_copies ∈ lwG := lwc_8 4 (by decide +kernel) (by decide +kernel)
theorem ms_X13_copies : Cond.selects RX13 yX13_copies yX13_copies ∈ lwG := lwG_of 92 (by decide +kernel) (by decide +kernel)
abbrev M_X13_slot : MI := (yX13_slot, cX13_slot, 2, (some .int))
theorem pn_X13_slot : plainFor yX13_slot = true := by decide +kernel
theorem mc_X13_slot : Cond.code yX13_slot cX13_slot 2 (some .int) ∈ lwG := lwc_8 1 (by decide +kernel) (by decide +kernel)
theorem mi_X13_slot : Cond.instanceMethod yX13_slot ∈ lwG := lwc_8 0 (by decide +kernel) (by decide +kernel)
theorem ms_X13_slot : Cond.selects RX13 yX13_slot yX13_slot ∈ lwG := lwG_of 91 (by decide +kernel) (by decide +kernel)
abbrev M_X13_keeps : MI := (yX13_keeps, cX13_keeps, 1, none)
theorem pn_X13_keeps : plainFor yX13_keeps = true := by decide +kernel
theorem mc_X13_keeps : Cond.code yX13_keeps cX13_keeps 1 none ∈ lwG := lwc_9 39 (by decide +kernel) (by decide +kernel)
theorem mi_X13_keeps : Cond.instanceMethod yX13_keeps ∈ lwG := lwc_9 38 (by decide +kernel) (by decide +kernel)
theorem ms_X13_keeps : Cond.selects RX13 yX13_keeps yX13_keeps ∈ lwG := lwG_of 138 (by decide +kernel) (by decide +kernel)
abbrev M_X13_undo : MI := (yX13_undo, cX13_undo, 1, (some .boolean))
theorem pn_X13_undo : plainFor yX13_undo = true := by decide +kernel
theorem mc_X13_undo : Cond.code yX13_undo cX13_undo 1 (some .boolean) ∈ lwG := lwc_7 237 (by decide +kernel) (by decide +kernel)
theorem mi_X13_undo : Cond.instanceMethod yX13_undo ∈ lwG := lwc_7 235 (by decide +kernel) (by decide +kernel)
theorem ms_X13_undo : Cond.selects RX13 yX13_undo yX13_undo ∈ lwG := lwc_7 236 (by decide +kernel) (by decide +kernel)
abbrev M_X13_held : MI := (yX13_held, cX13_held, 2, (some .long))
theorem pn_X13_held : plainFor yX13_held = true := by decide +kernel
theorem mc_X13_held : Cond.code yX13_held cX13_held 2 (some .long) ∈ lwG := lwc_8 155 (by decide +kernel) (by decide +kernel)
theorem mi_X13_held : Cond.static yX13_held ∈ lwG := lwc_8 154 (by decide +kernel) (by decide +kernel)
abbrev M_X13_floor : MI := (yX13_floor, cX13_floor, 6, (some .long))
theorem pn_X13_floor : plainFor yX13_floor = true := by decide +kernel
theorem mc_X13_floor : Cond.code yX13_floor cX13_floor 6 (some .long) ∈ lwG := lwc_8 160 (by decide +kernel) (by decide +kernel)
theorem mi_X13_floor : Cond.static yX13_floor ∈ lwG := lwc_8 159 (by decide +kernel) (by decide +kernel)
abbrev M_X13_two : MI := (yX13_two, cX13_two, 5, (some .long))
theorem pn_X13_two : plainFor yX13_two = true := by decide +kernel
theorem mc_X13_two : Cond.code yX13_two cX13_two 5 (some .long) ∈ lwG := lwc_8 152 (by decide +kernel) (by decide +kernel)
theorem mi_X13_two : Cond.static yX13_two ∈ lwG := lwc_8 151 (by decide +kernel) (by decide +kernel)
abbrev M_X13_reckons : MI := (yX13_reckons, cX13_reckons, 5, (some .long))
theorem pn_X13_reckons : plainFor yX13_reckons = true := by decide +kernel
theorem mc_X13_reckons : Cond.code yX13_reckons cX13_reckons 5 (some .long) ∈ lwG := lwc_8 149 (by decide +kernel) (by decide +kernel)
theorem mi_X13_reckons : Cond.instanceMethod yX13_reckons ∈ lwG := lwc_8 148 (by decide +kernel) (by decide +kernel)
theorem ms_X13_reckons : Cond.selects RX13 yX13_reckons yX13_reckons ∈ lwG := lwG_of 119 (by decide +kernel) (by decide +kernel)
abbrev M_X13_isTold : MI := (yX13_isTold, cX13_isTold, 2, (some .boolean))
theorem pn_X13_isTold : plainFor yX13_isTold = true := by decide +kernel
theorem mc_X13_isTold : Cond.code yX13_isTold cX13_isTold 2 (some .boolean) ∈ lwG := lwc_8 145 (by decide +kernel) (by decide +kernel)
theorem mi_X13_isTold : Cond.instanceMethod yX13_isTold ∈ lwG := lwc_8 144 (by decide +kernel) (by decide +kernel)
theorem ms_X13_isTold : Cond.selects RX13 yX13_isTold yX13_isTold ∈ lwG := lwG_of 118 (by decide +kernel) (by decide +kernel)
abbrev M_X13_tells : MI := (yX13_tells, cX13_tells, 5, none)
theorem pn_X13_tells : plainFor yX13_tells = true := by decide +kernel
theorem mc_X13_tells : Cond.code yX13_tells cX13_tells 5 none ∈ lwG := lwc_8 141 (by decide +kernel) (by decide +kernel)
theorem mi_X13_tells : Cond.instanceMethod yX13_tells ∈ lwG := lwc_8 140 (by decide +kernel) (by decide +kernel)
theorem ms_X13_tells : Cond.selects RX13 yX13_tells yX13_tells ∈ lwG := lwG_of 117 (by decide +kernel) (by decide +kernel)
abbrev M_X13_raised : MI := (yX13_raised, cX13_raised, 7, (some .int))
theorem pn_X13_raised : plainFor yX13_raised = true := by decide +kernel
theorem mc_X13_raised : Cond.code yX13_raised cX13_raised 7 (some .int) ∈ lwG := lwc_8 137 (by decide +kernel) (by decide +kernel)
theorem mi_X13_raised : Cond.instanceMethod yX13_raised ∈ lwG := lwc_8 136 (by decide +kernel) (by decide +kernel)
theorem ms_X13_raised : Cond.selects RX13 yX13_raised yX13_raised ∈ lwG := lwG_of 116 (by decide +kernel) (by decide +kernel)
abbrev M_X13_born : MI := (yX13_born, cX13_born, 2, (some .int))
theorem pn_X13_born : plainFor yX13_born = true := by decide +kernel
theorem mc_X13_born : Cond.code yX13_born cX13_born 2 (some .int) ∈ lwG := lwc_8 32 (by decide +kernel) (by decide +kernel)
theorem mi_X13_born : Cond.instanceMethod yX13_born ∈ lwG := lwc_8 31 (by decide +kernel) (by decide +kernel)
theorem ms_X13_born : Cond.selects RX13 yX13_born yX13_born ∈ lwG := lwG_of 97 (by decide +kernel) (by decide +kernel)
abbrev M_X13_twin : MI := (yX13_twin, cX13_twin, 2, (some .int))
theorem pn_X13_twin : plainFor yX13_twin = true := by decide +kernel
theorem mc_X13_twin : Cond.code yX13_twin cX13_twin 2 (some .int) ∈ lwG := lwc_8 73 (by decide +kernel) (by decide +kernel)
theorem mi_X13_twin : Cond.instanceMethod yX13_twin ∈ lwG := lwc_8 72 (by decide +kernel) (by decide +kernel)
theorem ms_X13_twin : Cond.selects RX13 yX13_twin yX13_twin ∈ lwG := lwG_of 104 (by decide +kernel) (by decide +kernel)
abbrev M_X13_age : MI := (yX13_age, cX13_age, 3, (some .int))
theorem pn_X13_age : plainFor yX13_age = true := by decide +kernel
theorem mc_X13_age : Cond.code yX13_age cX13_age 3 (some .int) ∈ lwG := lwc_8 28 (by decide +kernel) (by decide +kernel)
theorem mi_X13_age : Cond.instanceMethod yX13_age ∈ lwG := lwc_8 27 (by decide +kernel) (by decide +kernel)
theorem ms_X13_age : Cond.selects RX13 yX13_age yX13_age ∈ lwG := lwG_of 96 (by decide +kernel) (by decide +kernel)
abbrev M_X13_isRaised : MI := (yX13_isRaised, cX13_isRaised, 3, (some .boolean))
theorem pn_X13_isRaised : plainFor yX13_isRaised = true := by decide +kernel
theorem mc_X13_isRaised : Cond.code yX13_isRaised cX13_isRaised 3 (some .boolean) ∈ lwG := lwc_8 85 (by decide +kernel) (by decide +kernel)
theorem mi_X13_isRaised : Cond.instanceMethod yX13_isRaised ∈ lwG := lwc_8 84 (by decide +kernel) (by decide +kernel)
theorem ms_X13_isRaised : Cond.selects RX13 yX13_isRaised yX13_isRaised ∈ lwG := lwG_of 106 (by decide +kernel) (by decide +kernel)
abbrev M_X13_isDone : MI := (yX13_isDone, cX13_isDone, 3, (some .boolean))
theorem pn_X13_isDone : plainFor yX13_isDone = true := by decide +kernel
theorem mc_X13_isDone : Cond.code yX13_isDone cX13_isDone 3 (some .boolean) ∈ lwG := lwc_8 24 (by decide +kernel) (by decide +kernel)
theorem mi_X13_isDone : Cond.instanceMethod yX13_isDone ∈ lwG := lwc_8 23 (by decide +kernel) (by decide +kernel)
theorem ms_X13_isDone : Cond.selects RX13 yX13_isDone yX13_isDone ∈ lwG := lwG_of 95 (by decide +kernel) (by decide +kernel)
abbrev M_X13_inWall : MI := (yX13_inWall, cX13_inWall, 3, (some .int))
theorem pn_X13_inWall : plainFor yX13_inWall = true := by decide +kernel
theorem mc_X13_inWall : Cond.code yX13_inWall cX13_inWall 3 (some .int) ∈ lwG := lwc_8 40 (by decide +kernel) (by decide +kernel)
theorem mi_X13_inWall : Cond.instanceMethod yX13_inWall ∈ lwG := lwc_8 39 (by decide +kernel) (by decide +kernel)
theorem ms_X13_inWall : Cond.selects RX13 yX13_inWall yX13_inWall ∈ lwG := lwG_of 99 (by decide +kernel) (by decide +kernel)
abbrev M_X13_column : MI := (yX13_column, cX13_column, 3, (some .int))
theorem pn_X13_column : plainFor yX13_column = true := by decide +kernel
theorem mc_X13_column : Cond.code yX13_column cX13_column 3 (some .int) ∈ lwG := lwc_8 89 (by decide +kernel) (by decide +kernel)
theorem mi_X13_column : Cond.instanceMethod yX13_column ∈ lwG := lwc_8 88 (by decide +kernel) (by decide +kernel)
theorem ms_X13_column : Cond.selects RX13 yX13_column yX13_column ∈ lwG := lwG_of 107 (by decide +kernel) (by decide +kernel)
abbrev M_X13_course : MI := (yX13_course, cX13_course, 3, (some .int))
theorem pn_X13_course : plainFor yX13_course = true := by decide +kernel
theorem mc_X13_course : Cond.code yX13_course cX13_course 3 (some .int) ∈ lwG := lwc_8 93 (by decide +kernel) (by decide +kernel)
theorem mi_X13_course : Cond.instanceMethod yX13_course ∈ lwG := lwc_8 92 (by decide +kernel) (by decide +kernel)
theorem ms_X13_course : Cond.selects RX13 yX13_course yX13_course ∈ lwG := lwG_of 108 (by decide +kernel) (by decide +kernel)
abbrev M_X13_strong : MI := (yX13_strong, cX13_strong, 3, (some .int))
theorem pn_X13_strong : plainFor yX13_strong = true := by decide +kernel
theorem mc_X13_strong : Cond.code yX13_strong cX13_strong 3 (some .int) ∈ lwG := lwc_8 81 (by decide +kernel) (by decide +kernel)
theorem mi_X13_strong : Cond.instanceMethod yX13_strong ∈ lwG := lwc_8 80 (by decide +kernel) (by decide +kernel)
theorem ms_X13_strong : Cond.selects RX13 yX13_strong yX13_strong ∈ lwG := lwG_of 105 (by decide +kernel) (by decide +kernel)
abbrev M_X13_isOnShelf : MI := (yX13_isOnShelf, cX13_isOnShelf, 3, (some .boolean))
theorem pn_X13_isOnShelf : plainFor yX13_isOnShelf = true := by decide +kernel
theorem mc_X13_isOnShelf : Cond.code yX13_isOnShelf cX13_isOnShelf 3 (some .boolean) ∈ lwG := lwc_8 20 (by decide +kernel) (by decide +kernel)
theorem mi_X13_isOnShelf : Cond.instanceMethod yX13_isOnShelf ∈ lwG := lwc_8 19 (by decide +kernel) (by decide +kernel)
theorem ms_X13_isOnShelf : Cond.selects RX13 yX13_isOnShelf yX13_isOnShelf ∈ lwG := lwG_of 94 (by decide +kernel) (by decide +kernel)
abbrev M_X13_lies : MI := (yX13_lies, cX13_lies, 6, (some .int))
theorem pn_X13_lies : plainFor yX13_lies = true := by decide +kernel
theorem mc_X13_lies : Cond.code yX13_lies cX13_lies 6 (some .int) ∈ lwG := lwc_8 121 (by decide +kernel) (by decide +kernel)
theorem mi_X13_lies : Cond.instanceMethod yX13_lies ∈ lwG := lwc_8 120 (by decide +kernel) (by decide +kernel)
theorem ms_X13_lies : Cond.selects RX13 yX13_lies yX13_lies ∈ lwG := lwG_of 113 (by decide +kernel) (by decide +kernel)
abbrev M_X13_tall : MI := (yX13_tall, cX13_tall, 6, (some .int))
theorem pn_X13_tall : plainFor yX13_tall = true := by decide +kernel
theorem mc_X13_tall : Cond.code yX13_tall cX13_tall 6 (some .int) ∈ lwG := lwc_8 101 (by decide +kernel) (by decide +kernel)
theorem mi_X13_tall : Cond.instanceMethod yX13_tall ∈ lwG := lwc_8 100 (by decide +kernel) (by decide +kernel)
theorem ms_X13_tall : Cond.selects RX13 yX13_tall yX13_tall ∈ lwG := lwG_of 110 (by decide +kernel) (by decide +kernel)
abbrev M_X13_load : MI := (yX13_load, cX13_load, 3, (some .int))
theorem pn_X13_load : plainFor yX13_load = true := by decide +kernel
theorem mc_X13_load : Cond.code yX13_load cX13_load 3 (some .int) ∈ lwG := lwc_8 97 (by decide +kernel) (by decide +kernel)
theorem mi_X13_load : Cond.instanceMethod yX13_load ∈ lwG := lwc_8 96 (by decide +kernel) (by decide +kernel)
theorem ms_X13_load : Cond.selects RX13 yX13_load yX13_load ∈ lwG := lwG_of 109 (by decide +kernel) (by decide +kernel)
abbrev M_X13_bears : MI := (yX13_bears, cX13_bears, 3, (some .int))
theorem pn_X13_bears : plainFor yX13_bears = true := by decide +kernel
theorem mc_X13_bears : Cond.code yX13_bears cX13_bears 3 (some .int) ∈ lwG := lwc_8 105 (by decide +kernel) (by decide +kernel)
theorem mi_X13_bears : Cond.instanceMethod yX13_bears ∈ lwG := lwc_8 104 (by decide +kernel) (by decide +kernel)
theorem ms_X13_bears : Cond.selects RX13 yX13_bears yX13_bears ∈ lwG := lwG_of 111 (by decide +kernel) (by decide +kernel)
abbrev M_X13_holds : MI := (yX13_holds, cX13_holds, 3, (some .boolean))
theorem pn_X13_holds : plainFor yX13_holds = true := by decide +kernel
theorem mc_X13_holds : Cond.code yX13_holds cX13_holds 3 (some .boolean) ∈ lwG := lwc_8 178 (by decide +kernel) (by decide +kernel)
theorem mi_X13_holds : Cond.instanceMethod yX13_holds ∈ lwG := lwc_8 177 (by decide +kernel) (by decide +kernel)
theorem ms_X13_holds : Cond.selects RX13 yX13_holds yX13_holds ∈ lwG := lwG_of 123 (by decide +kernel) (by decide +kernel)
abbrev M_X13_allHold : MI := (yX13_allHold, cX13_allHold, 4, (some .boolean))
theorem pn_X13_allHold : plainFor yX13_allHold = true := by decide +kernel
theorem mc_X13_allHold : Cond.code yX13_allHold cX13_allHold 4 (some .boolean) ∈ lwG := lwc_8 202 (by decide +kernel) (by decide +kernel)
theorem mi_X13_allHold : Cond.instanceMethod yX13_allHold ∈ lwG := lwc_8 201 (by decide +kernel) (by decide +kernel)
theorem ms_X13_allHold : Cond.selects RX13 yX13_allHold yX13_allHold ∈ lwG := lwG_of 129 (by decide +kernel) (by decide +kernel)
abbrev M_X13_writesDown : MI := (yX13_writesDown, cX13_writesDown, 6, none)
theorem pn_X13_writesDown : plainFor yX13_writesDown = true := by decide +kernel
theorem mc_X13_writesDown : Cond.code yX13_writesDown cX13_writesDown 6 none ∈ lwG := lwc_8 186 (by decide +kernel) (by decide +kernel)
theorem mi_X13_writesDown : Cond.instanceMethod yX13_writesDown ∈ lwG := lwc_8 185 (by decide +kernel) (by decide +kernel)
theorem ms_X13_writesDown : Cond.selects RX13 yX13_writesDown yX13_writesDown ∈ lwG := lwG_of 125 (by decide +kernel) (by decide +kernel)
abbrev M_X13_takesDown : MI := (yX13_takesDown, cX13_takesDown, 8, (some .int))
theorem pn_X13_takesDown : plainFor yX13_takesDown = true := by decide +kernel
theorem mc_X13_takesDown : Cond.code yX13_takesDown cX13_takesDown 8 (some .int) ∈ lwG := lwc_8 182 (by decide +kernel) (by decide +kernel)
theorem mi_X13_takesDown : Cond.instanceMethod yX13_takesDown ∈ lwG := lwc_8 181 (by decide +kernel) (by decide +kernel)
theorem ms_X13_takesDown : Cond.selects RX13 yX13_takesDown yX13_takesDown ∈ lwG := lwG_of 124 (by decide +kernel) (by decide +kernel)
abbrev M_X13_loose : MI := (yX13_loose, cX13_loose, 6, (some .int))
theorem pn_X13_loose : plainFor yX13_loose = true := by decide +kernel
theorem mc_X13_loose : Cond.code yX13_loose cX13_loose 6 (some .int) ∈ lwG := lwc_8 174 (by decide +kernel) (by decide +kernel)
theorem mi_X13_loose : Cond.instanceMethod yX13_loose ∈ lwG := lwc_8 173 (by decide +kernel) (by decide +kernel)
theorem ms_X13_loose : Cond.selects RX13 yX13_loose yX13_loose ∈ lwG := lwG_of 122 (by decide +kernel) (by decide +kernel)
abbrev M_X13_falls : MI := (yX13_falls, cX13_falls, 4, (some .int))
theorem pn_X13_falls : plainFor yX13_falls = true := by decide +kernel
theorem mc_X13_falls : Cond.code yX13_falls cX13_falls 4 (some .int) ∈ lwG := lwc_8 170 (by decide +kernel) (by decide +kernel)
theorem mi_X13_falls : Cond.instanceMethod yX13_falls ∈ lwG := lwc_8 169 (by decide +kernel) (by decide +kernel)
theorem ms_X13_falls : Cond.selects RX13 yX13_falls yX13_falls ∈ lwG := lwG_of 121 (by decide +kernel) (by decide +kernel)
abbrev M_X13_isFeud : MI := (yX13_isFeud, cX13_isFeud, 4, (some .boolean))
theorem pn_X13_isFeud : plainFor yX13_isFeud = true := by decide +kernel
theorem mc_X13_isFeud : Cond.code yX13_isFeud cX13_isFeud 4 (some .boolean) ∈ lwG := lwc_8 198 (by decide +kernel) (by decide +kernel)
theorem mi_X13_isFeud : Cond.instanceMethod yX13_isFeud ∈ lwG := lwc_8 197 (by decide +kernel) (by decide +kernel)
theorem ms_X13_isFeud : Cond.selects RX13 yX13_isFeud yX13_isFeud ∈ lwG := lwG_of 128 (by decide +kernel) (by decide +kernel)
abbrev M_X13_goesInto : MI := (yX13_goesInto, cX13_goesInto, 8, (some .boolean))
theorem pn_X13_goesInto : plainFor yX13_goesInto = true := by decide +kernel
theorem mc_X13_goesInto : Cond.code yX13_goesInto cX13_goesInto 8 (some .boolean) ∈ lwG := lwc_8 194 (by decide +kernel) (by decide +kernel)
theorem mi_X13_goesInto : Cond.instanceMethod yX13_goesInto ∈ lwG := lwc_8 193 (by decide +kernel) (by decide +kernel)
theorem ms_X13_goesInto : Cond.selects RX13 yX13_goesInto yX13_goesInto ∈ lwG := lwG_of 127 (by decide +kernel) (by decide +kernel)
abbrev M_X13_isBuilt : MI := (yX13_isBuilt, cX13_isBuilt, 4, (some .boolean))
theorem pn_X13_isBuilt : plainFor yX13_isBuilt = true := by decide +kernel
theorem mc_X13_isBuilt : Cond.code yX13_isBuilt cX13_isBuilt 4 (some .boolean) ∈ lwG := lwc_8 190 (by decide +kernel) (by decide +kernel)
theorem mi_X13_isBuilt : Cond.instanceMethod yX13_isBuilt ∈ lwG := lwc_8 189 (by decide +kernel) (by decide +kernel)
theorem ms_X13_isBuilt : Cond.selects RX13 yX13_isBuilt yX13_isBuilt ∈ lwG := lwG_of 126 (by decide +kernel) (by decide +kernel)
abbrev M_X13_bits : MI := (yX13_bits, cX13_bits, 3, (some .int))
theorem pn_X13_bits : plainFor yX13_bits = true := by decide +kernel
theorem mc_X13_bits : Cond.code yX13_bits cX13_bits 3 (some .int) ∈ lwG := lwc_8 12 (by decide +kernel) (by decide +kernel)
theorem mi_X13_bits : Cond.static yX13_bits ∈ lwG := lwc_8 11 (by decide +kernel) (by decide +kernel)
abbrev M_X13_freezes : MI := (yX13_freezes, cX13_freezes, 4, none)
theorem pn_X13_freezes : plainFor yX13_freezes = true := by decide +kernel
theorem mc_X13_freezes : Cond.code yX13_freezes cX13_freezes 4 none ∈ lwG := lwc_8 166 (by decide +kernel) (by decide +kernel)
theorem mi_X13_freezes : Cond.instanceMethod yX13_freezes ∈ lwG := lwc_8 165 (by decide +kernel) (by decide +kernel)
theorem ms_X13_freezes : Cond.selects RX13 yX13_freezes yX13_freezes ∈ lwG := lwG_of 120 (by decide +kernel) (by decide +kernel)
abbrev M_X13_passes : MI := (yX13_passes, cX13_passes, 5, none)
theorem pn_X13_passes : plainFor yX13_passes = true := by decide +kernel
theorem mc_X13_passes : Cond.code yX13_passes cX13_passes 5 none ∈ lwG := lwc_8 133 (by decide +kernel) (by decide +kernel)
theorem mi_X13_passes : Cond.instanceMethod yX13_passes ∈ lwG := lwc_8 132 (by decide +kernel) (by decide +kernel)
theorem ms_X13_passes : Cond.selects RX13 yX13_passes yX13_passes ∈ lwG := lwG_of 115 (by decide +kernel) (by decide +kernel)
abbrev M_X13_isHome : MI := (yX13_isHome, cX13_isHome, 2, (some .boolean))
theorem pn_X13_isHome : plainFor yX13_isHome = true := by decide +kernel
theorem mc_X13_isHome : Cond.code yX13_isHome cX13_isHome 2 (some .boolean) ∈ lwG := lwc_8 61 (by decide +kernel) (by decide +kernel)
theorem mi_X13_isHome : Cond.instanceMethod yX13_isHome ∈ lwG := lwc_8 60 (by decide +kernel) (by decide +kernel)
theorem ms_X13_isHome : Cond.selects RX13 yX13_isHome yX13_isHome ∈ lwG := lwG_of 102 (by decide +kernel) (by decide +kernel)
abbrev M_X13_isChild : MI := (yX13_isChild, cX13_isChild, 2, (some .boolean))
theorem pn_X13_isChild : plainFor yX13_isChild = true := by decide +kernel
theorem mc_X13_isChild : Cond.code yX13_isChild cX13_isChild 2 (some .boolean) ∈ lwG := lwc_8 69 (by decide +kernel) (by decide +kernel)
theorem mi_X13_isChild : Cond.instanceMethod yX13_isChild ∈ lwG := lwc_8 68 (by decide +kernel) (by decide +kernel)
theorem ms_X13_isChild : Cond.selects RX13 yX13_isChild yX13_isChild ∈ lwG := lwG_of 103 (by decide +kernel) (by decide +kernel)
abbrev M_X13_isWall : MI := (yX13_isWall, cX13_isWall, 2, (some .boolean))
theorem pn_X13_isWall : plainFor yX13_isWall = true := by decide +kernel
theorem mc_X13_isWall : Cond.code yX13_isWall cX13_isWall 2 (some .boolean) ∈ lwG := lwc_8 113 (by decide +kernel) (by decide +kernel)
theorem mi_X13_isWall : Cond.instanceMethod yX13_isWall ∈ lwG := lwc_8 112 (by decide +kernel) (by decide +kernel)
theorem ms_X13_isWall : Cond.selects RX13 yX13_isWall yX13_isWall ∈ lwG := lwG_of 112 (by decide +kernel) (by decide +kernel)
abbrev M_X13_builtIn : MI := (yX13_builtIn, cX13_builtIn, 4, (some .int))
theorem pn_X13_builtIn : plainFor yX13_builtIn = true := by decide +kernel
theorem mc_X13_builtIn : Cond.code yX13_builtIn cX13_builtIn 4 (some .int) ∈ lwG := lwc_8 44 (by decide +kernel) (by decide +kernel)
theorem mi_X13_builtIn : Cond.instanceMethod yX13_builtIn ∈ lwG := lwc_8 43 (by decide +kernel) (by decide +kernel)
theorem ms_X13_builtIn : Cond.selects RX13 yX13_builtIn yX13_builtIn ∈ lwG := lwG_of 100 (by decide +kernel) (by decide +kernel)
abbrev M_X13_onShelf : MI := (yX13_onShelf, cX13_onShelf, 4, (some .int))
theorem pn_X13_onShelf : plainFor yX13_onShelf = true := by decide +kernel
theorem mc_X13_onShelf : Cond.code yX13_onShelf cX13_onShelf 4 (some .int) ∈ lwG := lwc_8 16 (by decide +kernel) (by decide +kernel)
theorem mi_X13_onShelf : Cond.instanceMethod yX13_onShelf ∈ lwG := lwc_8 15 (by decide +kernel) (by decide +kernel)
theorem ms_X13_onShelf : Cond.selects RX13 yX13_onShelf yX13_onShelf ∈ lwG := lwG_of 93 (by decide +kernel) (by decide +kernel)
abbrev M_X13_stonesIn : MI := (yX13_stonesIn, cX13_stonesIn, 4, (some .int))
theorem pn_X13_stonesIn : plainFor yX13_stonesIn = true := by decide +kernel
theorem mc_X13_stonesIn : Cond.code yX13_stonesIn cX13_stonesIn 4 (some .int) ∈ lwG := lwc_8 48 (by decide +kernel) (by decide +kernel)
theorem mi_X13_stonesIn : Cond.instanceMethod yX13_stonesIn ∈ lwG := lwc_8 47 (by decide +kernel) (by decide +kernel)
theorem ms_X13_stonesIn : Cond.selects RX13 yX13_stonesIn yX13_stonesIn ∈ lwG := lwG_of 101 (by decide +kernel) (by decide +kernel)
abbrev M_X13_has : MI := (yX13_has, cX13_has, 4, (some .int))
theorem pn_X13_has : plainFor yX13_has = true := by decide +kernel
theorem mc_X13_has : Cond.code yX13_has cX13_has 4 (some .int) ∈ lwG := lwc_8 9 (by decide +kernel) (by decide +kernel)
theorem mi_X13_has : Cond.instanceMethod yX13_has ∈ lwG := lwc_8 7 (by decide +kernel) (by decide +kernel)
theorem ms_X13_has : Cond.selects RX13 yX13_has yX13_has ∈ lwG := lwc_8 8 (by decide +kernel) (by decide +kernel)
abbrev M_X13_letter : MI := (yX13_letter, cX13_letter, 9, (some .int))
theorem pn_X13_letter : plainFor yX13_letter = true := by decide +kernel
theorem mc_X13_letter : Cond.code yX13_letter cX13_letter 9 (some .int) ∈ lwG := lwc_8 52 (by decide +kernel) (by decide +kernel)
theorem mi_X13_letter : Cond.instanceMethod yX13_letter ∈ lwG := lwc_8 50 (by decide +kernel) (by decide +kernel)
theorem ms_X13_letter : Cond.selects RX13 yX13_letter yX13_letter ∈ lwG := lwc_8 51 (by decide +kernel) (by decide +kernel)
abbrev M_X13_home : MI := (yX13_home, cX13_home, 5, (some .int))
theorem pn_X13_home : plainFor yX13_home = true := by decide +kernel
theorem mc_X13_home : Cond.code yX13_home cX13_home 5 (some .int) ∈ lwG := lwc_8 57 (by decide +kernel) (by decide +kernel)
theorem mi_X13_home : Cond.instanceMethod yX13_home ∈ lwG := lwc_8 55 (by decide +kernel) (by decide +kernel)
theorem ms_X13_home : Cond.selects RX13 yX13_home yX13_home ∈ lwG := lwc_8 56 (by decide +kernel) (by decide +kernel)
abbrev M_X13_child : MI := (yX13_child, cX13_child, 3, (some .int))
theorem pn_X13_child : plainFor yX13_child = true := by decide +kernel
theorem mc_X13_child : Cond.code yX13_child cX13_child 3 (some .int) ∈ lwG := lwc_8 65 (by decide +kernel) (by decide +kernel)
theorem mi_X13_child : Cond.instanceMethod yX13_child ∈ lwG := lwc_8 63 (by decide +kernel) (by decide +kernel)
theorem ms_X13_child : Cond.selects RX13 yX13_child yX13_child ∈ lwG := lwc_8 64 (by decide +kernel) (by decide +kernel)
abbrev M_X13_stone : MI := (yX13_stone, cX13_stone, 4, (some .int))
theorem pn_X13_stone : plainFor yX13_stone = true := by decide +kernel
theorem mc_X13_stone : Cond.code yX13_stone cX13_stone 4 (some .int) ∈ lwG := lwc_8 77 (by decide +kernel) (by decide +kernel)
theorem mi_X13_stone : Cond.instanceMethod yX13_stone ∈ lwG := lwc_8 75 (by decide +kernel) (by decide +kernel)
theorem ms_X13_stone : Cond.selects RX13 yX13_stone yX13_stone ∈ lwG := lwc_8 76 (by decide +kernel) (by decide +kernel)
abbrev M_X13_wall : MI := (yX13_wall, cX13_wall, 3, (some .int))
theorem pn_X13_wall : plainFor yX13_wall = true := by decide +kernel
theorem mc_X13_wall : Cond.code yX13_wall cX13_wall 3 (some .int) ∈ lwG := lwc_8 109 (by decide +kernel) (by decide +kernel)
theorem mi_X13_wall : Cond.instanceMethod yX13_wall ∈ lwG := lwc_8 107 (by decide +kernel) (by decide +kernel)
theorem ms_X13_wall : Cond.selects RX13 yX13_wall yX13_wall ∈ lwG := lwc_8 108 (by decide +kernel) (by decide +kernel)
abbrev M_X13_at : MI := (yX13_at, cX13_at, 4, (some .int))
theorem pn_X13_at : plainFor yX13_at = true := by decide +kernel
theorem mc_X13_at : Cond.code yX13_at cX13_at 4 (some .int) ∈ lwG := lwc_8 117 (by decide +kernel) (by decide +kernel)
theorem mi_X13_at : Cond.instanceMethod yX13_at ∈ lwG := lwc_8 115 (by decide +kernel) (by decide +kernel)
theorem ms_X13_at : Cond.selects RX13 yX13_at yX13_at ∈ lwG := lwc_8 116 (by decide +kernel) (by decide +kernel)
abbrev M_X13_isAhead : MI := (yX13_isAhead, cX13_isAhead, 4, (some .boolean))
theorem pn_X13_isAhead : plainFor yX13_isAhead = true := by decide +kernel
theorem mc_X13_isAhead : Cond.code yX13_isAhead cX13_isAhead 4 (some .boolean) ∈ lwG := lwc_8 129 (by decide +kernel) (by decide +kernel)
theorem mi_X13_isAhead : Cond.instanceMethod yX13_isAhead ∈ lwG := lwc_8 128 (by decide +kernel) (by decide +kernel)
theorem ms_X13_isAhead : Cond.selects RX13 yX13_isAhead yX13_isAhead ∈ lwG := lwG_of 114 (by decide +kernel) (by decide +kernel)
abbrev M_X13_later : MI := (yX13_later, cX13_later, 6, (some .int))
theorem pn_X13_later : plainFor yX13_later = true := by decide +kernel
theorem mc_X13_later : Cond.code yX13_later cX13_later 6 (some .int) ∈ lwG := lwc_8 125 (by decide +kernel) (by decide +kernel)
theorem mi_X13_later : Cond.instanceMethod yX13_later ∈ lwG := lwc_8 123 (by decide +kernel) (by decide +kernel)
theorem ms_X13_later : Cond.selects RX13 yX13_later yX13_later ∈ lwG := lwc_8 124 (by decide +kernel) (by decide +kernel)
abbrev M_X13_built : MI := (yX13_built, cX13_built, 3, (some .int))
theorem pn_X13_built : plainFor yX13_built = true := by decide +kernel
theorem mc_X13_built : Cond.code yX13_built cX13_built 3 (some .int) ∈ lwG := lwc_8 206 (by decide +kernel) (by decide +kernel)
theorem mi_X13_built : Cond.instanceMethod yX13_built ∈ lwG := lwc_8 204 (by decide +kernel) (by decide +kernel)
theorem ms_X13_built : Cond.selects RX13 yX13_built yX13_built ∈ lwG := lwc_8 205 (by decide +kernel) (by decide +kernel)
abbrev M_X13_down : MI := (yX13_down, cX13_down, 3, (some .int))
theorem pn_X13_down : plainFor yX13_down = true := by decide +kernel
theorem mc_X13_down : Cond.code yX13_down cX13_down 3 (some .int) ∈ lwG := lwc_8 210 (by decide +kernel) (by decide +kernel)
theorem mi_X13_down : Cond.instanceMethod yX13_down ∈ lwG := lwc_8 208 (by decide +kernel) (by decide +kernel)
theorem ms_X13_down : Cond.selects RX13 yX13_down yX13_down ∈ lwG := lwc_8 209 (by decide +kernel) (by decide +kernel)
abbrev M_X13_areHeld : MI := (yX13_areHeld, cX13_areHeld, 7, (some .boolean))
theorem pn_X13_areHeld : plainFor yX13_areHeld = true := by decide +kernel
theorem mc_X13_areHeld : Cond.code yX13_areHeld cX13_areHeld 7 (some .boolean) ∈ lwG := lwc_8 218 (by decide +kernel) (by decide +kernel)
theorem mi_X13_areHeld : Cond.instanceMethod yX13_areHeld ∈ lwG := lwc_8 217 (by decide +kernel) (by decide +kernel)
theorem ms_X13_areHeld : Cond.selects RX13 yX13_areHeld yX13_areHeld ∈ lwG := lwG_of 130 (by decide +kernel) (by decide +kernel)
abbrev M_X13_props : MI := (yX13_props, cX13_props, 5, (some .int))
theorem pn_X13_props : plainFor yX13_props = true := by decide +kernel
theorem mc_X13_props : Cond.code yX13_props cX13_props 5 (some .int) ∈ lwG := lwc_8 214 (by decide +kernel) (by decide +kernel)
theorem mi_X13_props : Cond.instanceMethod yX13_props ∈ lwG := lwc_8 212 (by decide +kernel) (by decide +kernel)
theorem ms_X13_props : Cond.selects RX13 yX13_props yX13_props ∈ lwG := lwc_8 213 (by decide +kernel) (by decide +kernel)
abbrev M_X13_strongest : MI := (yX13_strongest, cX13_strongest, 8, (some .int))
theorem pn_X13_strongest : plainFor yX13_strongest = true := by decide +kernel
theorem mc_X13_strongest : Cond.code yX13_strongest cX13_strongest 8 (some .int) ∈ lwG := lwc_8 222 (by decide +kernel) (by decide +kernel)
theorem mi_X13_strongest : Cond.instanceMethod yX13_strongest ∈ lwG := lwc_8 220 (by decide +kernel) (by decide +kernel)
theorem ms_X13_strongest : Cond.selects RX13 yX13_strongest yX13_strongest ∈ lwG := lwc_8 221 (by decide +kernel) (by decide +kernel)
abbrev M_X13_isRow : MI := (yX13_isRow, cX13_isRow, 6, (some .boolean))
theorem pn_X13_isRow : plainFor yX13_isRow = true := by decide +kernel
theorem mc_X13_isRow : Cond.code yX13_isRow cX13_isRow 6 (some .boolean) ∈ lwG := lwc_8 230 (by decide +kernel) (by decide +kernel)
theorem mi_X13_isRow : Cond.instanceMethod yX13_isRow ∈ lwG := lwc_8 229 (by decide +kernel) (by decide +kernel)
theorem ms_X13_isRow : Cond.selects RX13 yX13_isRow yX13_isRow ∈ lwG := lwG_of 131 (by decide +kernel) (by decide +kernel)
abbrev M_X13_order : MI := (yX13_order, cX13_order, 9, (some .int))
theorem pn_X13_order : plainFor yX13_order = true := by decide +kernel
theorem mc_X13_order : Cond.code yX13_order cX13_order 9 (some .int) ∈ lwG := lwc_8 226 (by decide +kernel) (by decide +kernel)
theorem mi_X13_order : Cond.instanceMethod yX13_order ∈ lwG := lwc_8 224 (by decide +kernel) (by decide +kernel)
theorem ms_X13_order : Cond.selects RX13 yX13_order yX13_order ∈ lwG := lwc_8 225 (by decide +kernel) (by decide +kernel)
abbrev M_X13_reconcile : MI := (yX13_reconcile, cX13_reconcile, 8, (some .int))
theorem pn_X13_reconcile : plainFor yX13_reconcile = true := by decide +kernel
theorem mc_X13_reconcile : Cond.code yX13_reconcile cX13_reconcile 8 (some .int) ∈ lwG := lwc_8 234 (by decide +kernel) (by decide +kernel)
theorem mi_X13_reconcile : Cond.instanceMethod yX13_reconcile ∈ lwG := lwc_8 232 (by decide +kernel) (by decide +kernel)
theorem ms_X13_reconcile : Cond.selects RX13 yX13_reconcile yX13_reconcile ∈ lwG := lwc_8 233 (by decide +kernel) (by decide +kernel)
abbrev M_X13_raises : MI := (yX13_raises, cX13_raises, 1, (some .int))
theorem pn_X13_raises : plainFor yX13_raises = true := by decide +kernel
theorem mc_X13_raises : Cond.code yX13_raises cX13_raises 1 (some .int) ∈ lwG := lwc_9 2 (by decide +kernel) (by decide +kernel)
theorem mi_X13_raises : Cond.instanceMethod yX13_raises ∈ lwG := lwc_9 1 (by decide +kernel) (by decide +kernel)
theorem ms_X13_raises : Cond.selects RX13 yX13_raises yX13_raises ∈ lwG := lwG_of 132 (by decide +kernel) (by decide +kernel)
abbrev M_X13_strongBy : MI := (yX13_strongBy, cX13_strongBy, 5, (some .int))
theorem pn_X13_strongBy : plainFor yX13_strongBy = true := by decide +kernel
theorem mc_X13_strongBy : Cond.code yX13_strongBy cX13_strongBy 5 (some .int) ∈ lwG := lwc_9 18 (by decide +kernel) (by decide +kernel)
theorem mi_X13_strongBy : Cond.instanceMethod yX13_strongBy ∈ lwG := lwc_9 17 (by decide +kernel) (by decide +kernel)
theorem ms_X13_strongBy : Cond.selects RX13 yX13_strongBy yX13_strongBy ∈ lwG := lwG_of 136 (by decide +kernel) (by decide +kernel)
abbrev M_X13_isHomeBy : MI := (yX13_isHomeBy, cX13_isHomeBy, 3, (some .boolean))
theorem pn_X13_isHomeBy : plainFor yX13_isHomeBy = true := by decide +kernel
theorem mc_X13_isHomeBy : Cond.code yX13_isHomeBy cX13_isHomeBy 3 (some .boolean) ∈ lwG := lwc_9 14 (by decide +kernel) (by decide +kernel)
theorem mi_X13_isHomeBy : Cond.instanceMethod yX13_isHomeBy ∈ lwG := lwc_9 13 (by decide +kernel) (by decide +kernel)
theorem ms_X13_isHomeBy : Cond.selects RX13 yX13_isHomeBy yX13_isHomeBy ∈ lwG := lwG_of 135 (by decide +kernel) (by decide +kernel)
abbrev M_X13_homesBy : MI := (yX13_homesBy, cX13_homesBy, 3, (some .int))
theorem pn_X13_homesBy : plainFor yX13_homesBy = true := by decide +kernel
theorem mc_X13_homesBy : Cond.code yX13_homesBy cX13_homesBy 3 (some .int) ∈ lwG := lwc_9 10 (by decide +kernel) (by decide +kernel)
theorem mi_X13_homesBy : Cond.instanceMethod yX13_homesBy ∈ lwG := lwc_9 9 (by decide +kernel) (by decide +kernel)
theorem ms_X13_homesBy : Cond.selects RX13 yX13_homesBy yX13_homesBy ∈ lwG := lwG_of 134 (by decide +kernel) (by decide +kernel)
abbrev M_X13_twoBytes : MI := (yX13_twoBytes, cX13_twoBytes, 2, (some .int))
theorem pn_X13_twoBytes : plainFor yX13_twoBytes = true := by decide +kernel
theorem mc_X13_twoBytes : Cond.code yX13_twoBytes cX13_twoBytes 2 (some .int) ∈ lwG := lwc_9 6 (by decide +kernel) (by decide +kernel)
theorem mi_X13_twoBytes : Cond.instanceMethod yX13_twoBytes ∈ lwG := lwc_9 5 (by decide +kernel) (by decide +kernel)
theorem ms_X13_twoBytes : Cond.selects RX13 yX13_twoBytes yX13_twoBytes ∈ lwG := lwG_of 133 (by decide +kernel) (by decide +kernel)
abbrev M_X13_seams : MI := (yX13_seams, cX13_seams, 5, (some .int))
theorem pn_X13_seams : plainFor yX13_seams = true := by decide +kernel
theorem mc_X13_seams : Cond.code yX13_seams cX13_seams 5 (some .int) ∈ lwG := lwc_8 238 (by decide +kernel) (by decide +kernel)
theorem mi_X13_seams : Cond.instanceMethod yX13_seams ∈ lwG := lwc_8 236 (by decide +kernel) (by decide +kernel)
theorem ms_X13_seams : Cond.selects RX13 yX13_seams yX13_seams ∈ lwG := lwc_8 237 (by decide +kernel) (by decide +kernel)
abbrev M_X13_homes : MI := (yX13_homes, cX13_homes, 10, (some .int))
theorem pn_X13_homes : plainFor yX13_homes = true := by decide +kernel
theorem mc_X13_homes : Cond.code yX13_homes cX13_homes 10 (some .int) ∈ lwG := lwc_9 22 (by decide +kernel) (by decide +kernel)
theorem mi_X13_homes : Cond.instanceMethod yX13_homes ∈ lwG := lwc_9 20 (by decide +kernel) (by decide +kernel)
theorem ms_X13_homes : Cond.selects RX13 yX13_homes yX13_homes ∈ lwG := lwc_9 21 (by decide +kernel) (by decide +kernel)
abbrev M_X13_areLeftHolding : MI := (yX13_areLeftHolding, cX13_areLeftHolding, 3, (some .boolean))
theorem pn_X13_areLeftHolding : plainFor yX13_areLeftHolding = true := by decide +kernel
theorem mc_X13_areLeftHolding : Cond.code yX13_areLeftHolding cX13_areLeftHolding 3 (some .boolean) ∈ lwG := lwc_9 31 (by decide +kernel) (by decide +kernel)
theorem mi_X13_areLeftHolding : Cond.instanceMethod yX13_areLeftHolding ∈ lwG := lwc_9 30 (by decide +kernel) (by decide +kernel)
theorem ms_X13_areLeftHolding : Cond.selects RX13 yX13_areLeftHolding yX13_areLeftHolding ∈ lwG := lwG_of 137 (by decide +kernel) (by decide +kernel)
abbrev M_X13_pulling : MI := (yX13_pulling, cX13_pulling, 10, (some .int))
theorem pn_X13_pulling : plainFor yX13_pulling = true := by decide +kernel
theorem mc_X13_pulling : Cond.code yX13_pulling cX13_pulling 10 (some .int) ∈ lwG := lwc_9 27 (by decide +kernel) (by decide +kernel)
theorem mi_X13_pulling : Cond.instanceMethod yX13_pulling ∈ lwG := lwc_9 25 (by decide +kernel) (by decide +kernel)
theorem ms_X13_pulling : Cond.selects RX13 yX13_pulling yX13_pulling ∈ lwG := lwc_9 26 (by decide +kernel) (by decide +kernel)
abbrev M_X13_years : MI := (yX13_years, cX13_years, 4, (some .int))
theorem pn_X13_years : plainFor yX13_years = true := by decide +kernel
theorem mc_X13_years : Cond.code yX13_years cX13_years 4 (some .int) ∈ lwG := lwc_9 35 (by decide +kernel) (by decide +kernel)
theorem mi_X13_years : Cond.instanceMethod yX13_years ∈ lwG := lwc_9 33 (by decide +kernel) (by decide +kernel)
theorem ms_X13_years : Cond.selects RX13 yX13_years yX13_years ∈ lwG := lwc_9 34 (by decide +kernel) (by decide +kernel)
abbrev M_X13_draw : MI := (yX13_draw, cX13_draw, 2, (some .int))
theorem pn_X13_draw : plainFor yX13_draw = true := by decide +kernel
theorem mc_X13_draw : Cond.code yX13_draw cX13_draw 2 (some .int) ∈ lwG := lwc_9 47 (by decide +kernel) (by decide +kernel)
theorem mi_X13_draw : Cond.instanceMethod yX13_draw ∈ lwG := lwc_9 46 (by decide +kernel) (by decide +kernel)
theorem ms_X13_draw : Cond.selects RX13 yX13_draw yX13_draw ∈ lwG := lwG_of 139 (by decide +kernel) (by decide +kernel)
abbrev M_X13_chance : MI := (yX13_chance, cX13_chance, 5, (some .int))
theorem pn_X13_chance : plainFor yX13_chance = true := by decide +kernel
theorem mc_X13_chance : Cond.code yX13_chance cX13_chance 5 (some .int) ∈ lwG := lwc_9 43 (by decide +kernel) (by decide +kernel)
theorem mi_X13_chance : Cond.instanceMethod yX13_chance ∈ lwG := lwc_9 41 (by decide +kernel) (by decide +kernel)
theorem ms_X13_chance : Cond.selects RX13 yX13_chance yX13_chance ∈ lwG := lwc_9 42 (by decide +kernel) (by decide +kernel)
abbrev M_X13_go : MI := (yX13_go, cX13_go, 3, (some .boolean))
theorem pn_X13_go : plainFor yX13_go = true := by decide +kernel
theorem mc_X13_go : Cond.code yX13_go cX13_go 3 (some .boolean) ∈ lwG := lwc_9 55 (by decide +kernel) (by decide +kernel)
theorem mi_X13_go : Cond.instanceMethod yX13_go ∈ lwG := lwc_9 53 (by decide +kernel) (by decide +kernel)
theorem ms_X13_go : Cond.selects RX13 yX13_go yX13_go ∈ lwG := lwc_9 54 (by decide +kernel) (by decide +kernel)
abbrev M_X13_pull : MI := (yX13_pull, cX13_pull, 3, (some .int))
theorem pn_X13_pull : plainFor yX13_pull = true := by decide +kernel
theorem mc_X13_pull : Cond.code yX13_pull cX13_pull 3 (some .int) ∈ lwG := lwc_9 59 (by decide +kernel) (by decide +kernel)
theorem mi_X13_pull : Cond.instanceMethod yX13_pull ∈ lwG := lwc_9 57 (by decide +kernel) (by decide +kernel)
theorem ms_X13_pull : Cond.selects RX13 yX13_pull yX13_pull ∈ lwG := lwc_9 58 (by decide +kernel) (by decide +kernel)
abbrev M_X13_peace : MI := (yX13_peace, cX13_peace, 2, (some .boolean))
theorem pn_X13_peace : plainFor yX13_peace = true := by decide +kernel
theorem mc_X13_peace : Cond.code yX13_peace cX13_peace 2 (some .boolean) ∈ lwG := lwc_9 63 (by decide +kernel) (by decide +kernel)
theorem mi_X13_peace : Cond.instanceMethod yX13_peace ∈ lwG := lwc_9 61 (by decide +kernel) (by decide +kernel)
theorem ms_X13_peace : Cond.selects RX13 yX13_peace yX13_peace ∈ lwG := lwc_9 62 (by decide +kernel) (by decide +kernel)
abbrev M_X13_seed : MI := (yX13_seed, cX13_seed, 2, (some .boolean))
theorem pn_X13_seed : plainFor yX13_seed = true := by decide +kernel
theorem mc_X13_seed : Cond.code yX13_seed cX13_seed 2 (some .boolean) ∈ lwG := lwc_9 67 (by decide +kernel) (by decide +kernel)
theorem mi_X13_seed : Cond.instanceMethod yX13_seed ∈ lwG := lwc_9 65 (by decide +kernel) (by decide +kernel)
theorem ms_X13_seed : Cond.selects RX13 yX13_seed yX13_seed ∈ lwG := lwc_9 66 (by decide +kernel) (by decide +kernel)
abbrev M_X13_kept : MI := (yX13_kept, cX13_kept, 3, (some .int))
theorem pn_X13_kept : plainFor yX13_kept = true := by decide +kernel
theorem mc_X13_kept : Cond.code yX13_kept cX13_kept 3 (some .int) ∈ lwG := lwc_9 71 (by decide +kernel) (by decide +kernel)
theorem mi_X13_kept : Cond.instanceMethod yX13_kept ∈ lwG := lwc_9 69 (by decide +kernel) (by decide +kernel)
theorem ms_X13_kept : Cond.selects RX13 yX13_kept yX13_kept ∈ lwG := lwc_9 70 (by decide +kernel) (by decide +kernel)
abbrev M_X13_writes : MI := (yX13_writes, cX13_writes, 2, none)
theorem pn_X13_writes : plainFor yX13_writes = true := by decide +kernel
theorem mc_X13_writes : Cond.code yX13_writes cX13_writes 2 none ∈ lwG := lwc_9 83 (by decide +kernel) (by decide +kernel)
theorem mi_X13_writes : Cond.instanceMethod yX13_writes ∈ lwG := lwc_9 82 (by decide +kernel) (by decide +kernel)
theorem ms_X13_writes : Cond.selects RX13 yX13_writes yX13_writes ∈ lwG := lwG_of 141 (by decide +kernel) (by decide +kernel)
abbrev M_X13_writesTwo : MI := (yX13_writesTwo, cX13_writesTwo, 2, none)
theorem pn_X13_writesTwo : plainFor yX13_writesTwo = true := by decide +kernel
theorem mc_X13_writesTwo : Cond.code yX13_writesTwo cX13_writesTwo 2 none ∈ lwG := lwc_9 79 (by decide +kernel) (by decide +kernel)
theorem mi_X13_writesTwo : Cond.instanceMethod yX13_writesTwo ∈ lwG := lwc_9 78 (by decide +kernel) (by decide +kernel)
theorem ms_X13_writesTwo : Cond.selects RX13 yX13_writesTwo yX13_writesTwo ∈ lwG := lwG_of 140 (by decide +kernel) (by decide +kernel)
abbrev M_X13_image : MI := (yX13_image, cX13_image, 3, (some .int))
theorem pn_X13_image : plainFor yX13_image = true := by decide +kernel
theorem mc_X13_image : Cond.code yX13_image cX13_image 3 (some .int) ∈ lwG := lwc_9 75 (by decide +kernel) (by decide +kernel)
theorem mi_X13_image : Cond.instanceMethod yX13_image ∈ lwG := lwc_9 73 (by decide +kernel) (by decide +kernel)
theorem ms_X13_image : Cond.selects RX13 yX13_image yX13_image ∈ lwG := lwc_9 74 (by decide +kernel) (by decide +kernel)
abbrev M_X13_octet : MI := (yX13_octet, cX13_octet, 2, (some .int))
theorem pn_X13_octet : plainFor yX13_octet = true := by decide +kernel
theorem mc_X13_octet : Cond.code yX13_octet cX13_octet 2 (some .int) ∈ lwG := lwc_9 87 (by decide +kernel) (by decide +kernel)
theorem mi_X13_octet : Cond.instanceMethod yX13_octet ∈ lwG := lwc_9 85 (by decide +kernel) (by decide +kernel)
theorem ms_X13_octet : Cond.selects RX13 yX13_octet yX13_octet ∈ lwG := lwc_9 86 (by decide +kernel) (by decide +kernel)
abbrev M_X13_childOn : MI := (yX13_childOn, cX13_childOn, 5, (some .boolean))
theorem pn_X13_childOn : plainFor yX13_childOn = true := by decide +kernel
theorem mc_X13_childOn : Cond.code yX13_childOn cX13_childOn 5 (some .boolean) ∈ lwG := lwc_9 99 (by decide +kernel) (by decide +kernel)
theorem mi_X13_childOn : Cond.instanceMethod yX13_childOn ∈ lwG := lwc_9 98 (by decide +kernel) (by decide +kernel)
theorem ms_X13_childOn : Cond.selects RX13 yX13_childOn yX13_childOn ∈ lwG := lwG_of 143 (by decide +kernel) (by decide +kernel)
abbrev M_X13_areLaid : MI := (yX13_areLaid, cX13_areLaid, 3, (some .boolean))
theorem pn_X13_areLaid : plainFor yX13_areLaid = true := by decide +kernel
theorem mc_X13_areLaid : Cond.code yX13_areLaid cX13_areLaid 3 (some .boolean) ∈ lwG := lwc_9 103 (by decide +kernel) (by decide +kernel)
theorem mi_X13_areLaid : Cond.instanceMethod yX13_areLaid ∈ lwG := lwc_9 102 (by decide +kernel) (by decide +kernel)
theorem ms_X13_areLaid : Cond.selects RX13 yX13_areLaid yX13_areLaid ∈ lwG := lwG_of 144 (by decide +kernel) (by decide +kernel)
abbrev M_X13_comesOn : MI := (yX13_comesOn, cX13_comesOn, 5, (some .boolean))
theorem pn_X13_comesOn : plainFor yX13_comesOn = true := by decide +kernel
theorem mc_X13_comesOn : Cond.code yX13_comesOn cX13_comesOn 5 (some .boolean) ∈ lwG := lwc_9 95 (by decide +kernel) (by decide +kernel)
theorem mi_X13_comesOn : Cond.instanceMethod yX13_comesOn ∈ lwG := lwc_9 94 (by decide +kernel) (by decide +kernel)
theorem ms_X13_comesOn : Cond.selects RX13 yX13_comesOn yX13_comesOn ∈ lwG := lwG_of 142 (by decide +kernel) (by decide +kernel)
abbrev M_X13_on : MI := (yX13_on, cX13_on, 2, (some .boolean))
theorem pn_X13_on : plainFor yX13_on = true := by decide +kernel
theorem mc_X13_on : Cond.code yX13_on cX13_on 2 (some .boolean) ∈ lwG := lwc_9 91 (by decide +kernel) (by decide +kernel)
theorem mi_X13_on : Cond.instanceMethod yX13_on ∈ lwG := lwc_9 89 (by decide +kernel) (by decide +kernel)
theorem ms_X13_on : Cond.selects RX13 yX13_on yX13_on ∈ lwG := lwc_9 90 (by decide +kernel) (by decide +kernel)
abbrev M_J9_max_7cf53 : MI := (yJ9_max_7cf53, cJ9_max_7cf53, 2, (some .int))
theorem pn_J9_max_7cf53 : plainFor yJ9_max_7cf53 = true := by decide +kernel
theorem mc_J9_max_7cf53 : Cond.code yJ9_max_7cf53 cJ9_max_7cf53 2 (some .int) ∈ lwG := lwc_4 106 (by decide +kernel) (by decide +kernel)
theorem mi_J9_max_7cf53 : Cond.static yJ9_max_7cf53 ∈ lwG := lwc_4 105 (by decide +kernel) (by decide +kernel)
abbrev M_J9_max_f86c9 : MI := (yJ9_max_f86c9, cJ9_max_f86c9, 4, (some .long))
theorem pn_J9_max_f86c9 : plainFor yJ9_max_f86c9 = true := by decide +kernel
theorem mc_J9_max_f86c9 : Cond.code yJ9_max_f86c9 cJ9_max_f86c9 4 (some .long) ∈ lwG := lwc_4 180 (by decide +kernel) (by decide +kernel)
theorem mi_J9_max_f86c9 : Cond.static yJ9_max_f86c9 ∈ lwG := lwc_4 179 (by decide +kernel) (by decide +kernel)
abbrev M_J9_min_7cf53 : MI := (yJ9_min_7cf53, cJ9_min_7cf53, 2, (some .int))
theorem pn_J9_min_7cf53 : plainFor yJ9_min_7cf53 = true := by decide +kernel
theorem mc_J9_min_7cf53 : Cond.code yJ9_min_7cf53 cJ9_min_7cf53 2 (some .int) ∈ lwG := lwc_4 185 (by decide +kernel) (by decide +kernel)
theorem mi_J9_min_7cf53 : Cond.static yJ9_min_7cf53 ∈ lwG := lwc_4 184 (by decide +kernel) (by decide +kernel)
abbrev M_J9_min_f86c9 : MI := (yJ9_min_f86c9, cJ9_min_f86c9, 4, (some .long))
theorem pn_J9_min_f86c9 : plainFor yJ9_min_f86c9 = true := by decide +kernel
theorem mc_J9_min_f86c9 : Cond.code yJ9_min_f86c9 cJ9_min_f86c9 4 (some .long) ∈ lwG := lwc_4 177 (by decide +kernel) (by decide +kernel)
theorem mi_J9_min_f86c9 : Cond.static yJ9_min_f86c9 ∈ lwG := lwc_4 176 (by decide +kernel) (by decide +kernel)
theorem lk_X1_13 : Cond.fieldLink RX1 13 "StoneRaised$Acts" "rows" "[[I" ∈ lwG := lwc_2 132 (by decide +kernel) (by decide +kernel)
theorem gf_X1_13 {g : GT} {d : Nat} {M : MI} {Q : Int → Sg → Prop} {pc : Nat} {ls st : List AV} {σ : Sg} (hM : M.1.cls = RX1) (hd : decode M.2.1 pc = .ok (.getfield 13, 3)) (h : Wp g d M Q (pc + 3) ls ((42, 66) :: st) σ) : Wp g d M Q pc ls ((10, 65) :: st) σ := r_getf (ci := 0) (k := 0) (o := 65) (by decide) (by decide) (by rw [hM]; exact lk_X1_13) hd h
theorem lk_X1_16 : Cond.fieldLink RX1 16 "StoneRaised$Acts" "count" "I" ∈ lwG := lwc_2 133 (by decide +kernel) (by decide +kernel)
theorem gf_X1_16 {g : GT} {d : Nat} {M : MI} {Q : Int → Sg → Prop} {pc : Nat} {ls st : List AV} {σ : Sg} (hM : M.1.cls = RX1) (hd : decode M.2.1 pc = .ok (.getfield 16, 3)) (h : Wp g d M Q (pc + 3) ls ((0, (σ 65 1)) :: st) σ) : Wp g d M Q pc ls ((10, 65) :: st) σ := r_getf (ci := 0) (k := 1) (o := 65) (by decide) (by decide) (by rw [hM]; exact lk_X1_16) hd h
theorem pf_X1_16 {g : GT} {d : Nat} {M : MI} {Q : Int → Sg → Prop} {pc : Nat} {ls st : List AV} {σ : Sg} {v : Int} (hM : M.1.cls = RX1) (hd : decode M.2.1 pc = .ok (.putfield 16, 3)) (h : Wp g d M Q (pc + 3) ls st (ups σ 65 1 v)) : Wp g d M Q pc ls ((0, v) :: (10, 65) :: st) σ := r_putf (ci := 0) (k := 1) (o := 65) (by decide) (by decide) (by rw [hM]; exact lk_X1_16) rfl rfl rfl rfl hd h
theorem lk_X1_20 : Cond.fieldLink RX1 20 "StoneRaised$Acts" "next" "I" ∈ lwG := lwc_2 135 (by decide +kernel) (by decide +kernel)
theorem gf_X1_20 {g : GT} {d : Nat} {M : MI} {Q : Int → Sg → Prop} {pc : Nat} {ls st : List AV} {σ : Sg} (hM : M.1.cls = RX1) (hd : decode M.2.1 pc = .ok (.getfield 20, 3)) (h : Wp g d M Q (pc + 3) ls ((0, (σ 65 2)) :: st) σ) : Wp g d M Q pc ls ((10, 65) :: st) σ := r_getf (ci := 0) (k := 2) (o := 65) (by decide) (by decide) (by rw [hM]; exact lk_X1_20) hd h
theorem pf_X1_20 {g : GT} {d : Nat} {M : MI} {Q : Int → Sg → Prop} {pc : Nat} {ls st : List AV} {σ : Sg} {v : Int} (hM : M.1.cls = RX1) (hd : decode M.2.1 pc = .ok (.putfield 20, 3)) (h : Wp g d M Q (pc + 3) ls st (ups σ 65 2 v)) : Wp g d M Q pc ls ((0, v) :: (10, 65) :: st) σ := r_putf (ci := 0) (k := 2) (o := 65) (by decide) (by decide) (by rw [hM]; exact lk_X1_20) rfl rfl rfl rfl hd h
theorem lk_X1_23 : Cond.fieldLink RX1 23 "StoneRaised$World" "year" "I" ∈ lwG := lwc_2 32 (by decide +kernel) (by decide +kernel)
theorem gf_X1_23 {g : GT} {d : Nat} {M : MI} {Q : Int → Sg → Prop} {pc : Nat} {ls st : List AV} {σ : Sg} {o : Int} (hM : M.1.cls = RX1) (hd : decode M.2.1 pc = .ok (.getfield 23, 3)) (h : Wp g d M Q (pc + 3) ls ((0, (σ o 1)) :: st) σ) : Wp g d M Q pc ls ((19, o) :: st) σ := r_getf (ci := 9) (k := 1) (o := o) (by decide) (by decide) (by rw [hM]; exact lk_X1_23) hd h
theorem pf_X1_23 {g : GT} {d : Nat} {M : MI} {Q : Int → Sg → Prop} {pc : Nat} {ls st : List AV} {σ : Sg} {o : Int} {v : Int} (hM : M.1.cls = RX1) (hd : decode M.2.1 pc = .ok (.putfield 23, 3)) (h : Wp g d M Q (pc + 3) ls st (ups σ o 1 v)) : Wp g d M Q pc ls ((0, v) :: (19, o) :: st) σ := r_putf (ci := 9) (k := 1) (o := o) (by decide) (by decide) (by rw [hM]; exact lk_X1_23) rfl rfl rfl rfl hd h
theorem lk_X1_28 : Cond.fieldLink RX1 28 "StoneRaised$World" "ended" "I" ∈ lwG := lwc_2 38 (by decide +kernel) (by decide +kernel)
theorem gf_X1_28 {g : GT} {d : Nat} {M : MI} {Q : Int → Sg → Prop} {pc : Nat} {ls st : List AV} {σ : Sg} {o : Int} (hM : M.1.cls = RX1) (hd : decode M.2.1 pc = .ok (.getfield 28, 3)) (h : Wp g d M Q (pc + 3) ls ((0, (σ o 2)) :: st) σ) : Wp g d M Q pc ls ((19, o) :: st) σ := r_getf (ci := 9) (k := 2) (o := o) (by decide) (by decide) (by rw [hM]; exact lk_X1_28) hd h
theorem pf_X1_28 {g : GT} {d : Nat} {M : MI} {Q : Int → Sg → Prop} {pc : Nat} {ls st : List AV} {σ : Sg} {o : Int} {v : Int} (hM : M.1.cls = RX1) (hd : decode M.2.1 pc = .ok (.putfield 28, 3)) (h : Wp g d M Q (pc + 3) ls st (ups σ o 2 v)) : Wp g d M Q pc ls ((0, v) :: (19, o) :: st) σ := r_putf (ci := 9) (k := 2) (o := o) (by decide) (by decide) (by rw [hM]; exact lk_X1_28) rfl rfl rfl rfl hd h
theorem lk_X1_31 : Cond.fieldLink RX1 31 "StoneRaised$World" "keptCount" "I" ∈ lwG := lwc_2 63 (by decide +kernel) (by decide +kernel)
theorem gf_X1_31 {g : GT} {d : Nat} {M : MI} {Q : Int → Sg → Prop} {pc : Nat} {ls st : List AV} {σ : Sg} {o : Int} (hM : M.1.cls = RX1) (hd : decode M.2.1 pc = .ok (.getfield 31, 3)) (h : Wp g d M Q (pc + 3) ls ((0, (σ o 9)) :: st) σ) : Wp g d M Q pc ls ((19, o) :: st) σ := r_getf (ci := 9) (k := 9) (o := o) (by decide) (by decide) (by rw [hM]; exact lk_X1_31) hd h
theorem pf_X1_31 {g : GT} {d : Nat} {M : MI} {Q : Int → Sg → Prop} {pc : Nat} {ls st : List AV} {σ : Sg} {o : Int} {v : Int} (hM : M.1.cls = RX1) (hd : decode M.2.1 pc = .ok (.putfield 31, 3)) (h : Wp g d M Q (pc + 3) ls st (ups σ o 9 v)) : Wp g d M Q pc ls ((0, v) :: (19, o) :: st) σ := r_putf (ci := 9) (k := 9) (o := o) (by decide) (by decide) (by rw [hM]; exact lk_X1_31) rfl rfl rfl rfl hd h
theorem lk_X1_34 : Cond.fieldLink RX1 34 "StoneRaised$World" "place" "[I" ∈ lwG := lwc_2 51 (by decide +kernel) (by decide +kernel)
theorem gf_X1_34 {g : GT} {d : Nat} {M : MI} {Q : Int → Sg → Prop} {pc : Nat} {ls st : List AV} {σ : Sg} {o : Int} (hM : M.1.cls = RX1) (hd : decode M.2.1 pc = .ok (.getfield 34, 3)) (h : Wp g d M Q (pc + 3) ls ((33, (o + 3)) :: st) σ) : Wp g d M Q pc ls ((19, o) :: st) σ := r_getf (ci := 9) (k := 5) (o := o) (by decide) (by decide) (by rw [hM]; exact lk_X1_34) hd h
theorem lk_X1_38 : Cond.fieldLink RX1 38 "StoneRaised$World" "strong" "[I" ∈ lwG := lwc_2 46 (by decide +kernel) (by decide +kernel)
theorem gf_X1_38 {g : GT} {d : Nat} {M : MI} {Q : Int → Sg → Prop} {pc : Nat} {ls st : List AV} {σ : Sg} {o : Int} (hM : M.1.cls = RX1) (hd : decode M.2.1 pc = .ok (.getfield 38, 3)) (h : Wp g d M Q (pc + 3) ls ((33, (o + 2)) :: st) σ) : Wp g d M Q pc ls ((19, o) :: st) σ := r_getf (ci := 9) (k := 4) (o := o) (by decide) (by decide) (by rw [hM]; exact lk_X1_38) hd h
theorem lk_X1_41 : Cond.fieldLink RX1 41 "StoneRaised$World" "homeOf" "[I" ∈ lwG := lwc_2 42 (by decide +kernel) (by decide +kernel)
theorem gf_X1_41 {g : GT} {d : Nat} {M : MI} {Q : Int → Sg → Prop} {pc : Nat} {ls st : List AV} {σ : Sg} {o : Int} (hM : M.1.cls = RX1) (hd : decode M.2.1 pc = .ok (.getfield 41, 3)) (h : Wp g d M Q (pc + 3) ls ((33, (o + 1)) :: st) σ) : Wp g d M Q pc ls ((19, o) :: st) σ := r_getf (ci := 9) (k := 3) (o := o) (by decide) (by decide) (by rw [hM]; exact lk_X1_41) hd h
theorem lk_X1_44 : Cond.fieldLink RX1 44 "StoneRaised$World" "kept" "[I" ∈ lwG := lwc_2 61 (by decide +kernel) (by decide +kernel)
theorem gf_X1_44 {g : GT} {d : Nat} {M : MI} {Q : Int → Sg → Prop} {pc : Nat} {ls st : List AV} {σ : Sg} {o : Int} (hM : M.1.cls = RX1) (hd : decode M.2.1 pc = .ok (.getfield 44, 3)) (h : Wp g d M Q (pc + 3) ls ((41, (o + 6)) :: st) σ) : Wp g d M Q pc ls ((19, o) :: st) σ := r_getf (ci := 9) (k := 8) (o := o) (by decide) (by decide) (by rw [hM]; exact lk_X1_44) hd h
theorem lk_X11_9 : Cond.fieldLink RX11 9 "StoneRaised$World" "homeOf" "[I" ∈ lwG := lwc_2 40 (by decide +kernel) (by decide +kernel)
theorem gf_X11_9 {g : GT} {d : Nat} {M : MI} {Q : Int → Sg → Prop} {pc : Nat} {ls st : List AV} {σ : Sg} {o : Int} (hM : M.1.cls = RX11) (hd : decode M.2.1 pc = .ok (.getfield 9, 3)) (h : Wp g d M Q (pc + 3) ls ((33, (o + 1)) :: st) σ) : Wp g d M Q pc ls ((19, o) :: st) σ := r_getf (ci := 9) (k := 3) (o := o) (by decide) (by decide) (by rw [hM]; exact lk_X11_9) hd h
theorem lk_X11_15 : Cond.fieldLink RX11 15 "StoneRaised$World" "strong" "[I" ∈ lwG := lwc_2 44 (by decide +kernel) (by decide +kernel)
theorem gf_X11_15 {g : GT} {d : Nat} {M : MI} {Q : Int → Sg → Prop} {pc : Nat} {ls st : List AV} {σ : Sg} {o : Int} (hM : M.1.cls = RX11) (hd : decode M.2.1 pc = .ok (.getfield 15, 3)) (h : Wp g d M Q (pc + 3) ls ((33, (o + 2)) :: st) σ) : Wp g d M Q pc ls ((19, o) :: st) σ := r_getf (ci := 9) (k := 4) (o := o) (by decide) (by decide) (by rw [hM]; exact lk_X11_15) hd h
theorem lk_X11_18 : Cond.fieldLink RX11 18 "StoneRaised$World" "place" "[I" ∈ lwG := lwc_2 48 (by decide +kernel) (by decide +kernel)
theorem gf_X11_18 {g : GT} {d : Nat} {M : MI} {Q : Int → Sg → Prop} {pc : Nat} {ls st : List AV} {σ : Sg} {o : Int} (hM : M.1.cls = RX11) (hd : decode M.2.1 pc = .ok (.getfield 18, 3)) (h : Wp g d M Q (pc + 3) ls ((33, (o + 3)) :: st) σ) : Wp g d M Q pc ls ((19, o) :: st) σ := r_getf (ci := 9) (k := 5) (o := o) (by decide) (by decide) (by rw [hM]; exact lk_X11_18) hd h
theorem lk_X11_21 : Cond.fieldLink RX11 21 "StoneRaised$World" "lies" "[I" ∈ lwG := lwc_2 53 (by decide +kernel) (by decide +kernel)
theorem gf_X11_21 {g : GT} {d : Nat} {M : MI} {Q : Int → Sg → Prop} {pc : Nat} {ls st : List AV} {σ : Sg} {o : Int} (hM : M.1.cls = RX11) (hd : decode M.2.1 pc = .ok (.getfield 21, 3)) (h : Wp g d M Q (pc + 3) ls ((39, (o + 4)) :: st) σ) : Wp g d M Q pc ls ((19, o) :: st) σ := r_getf (ci := 9) (k := 6) (o := o) (by decide) (by decide) (by rw [hM]; exact lk_X11_21) hd h
theorem lk_X11_24 : Cond.fieldLink RX11 24 "StoneRaised$World" "height" "[I" ∈ lwG := lwc_2 57 (by decide +kernel) (by decide +kernel)
theorem gf_X11_24 {g : GT} {d : Nat} {M : MI} {Q : Int → Sg → Prop} {pc : Nat} {ls st : List AV} {σ : Sg} {o : Int} (hM : M.1.cls = RX11) (hd : decode M.2.1 pc = .ok (.getfield 24, 3)) (h : Wp g d M Q (pc + 3) ls ((40, (o + 5)) :: st) σ) : Wp g d M Q pc ls ((19, o) :: st) σ := r_getf (ci := 9) (k := 7) (o := o) (by decide) (by decide) (by rw [hM]; exact lk_X11_24) hd h
theorem lk_X11_27 : Cond.fieldLink RX11 27 "StoneRaised$World" "kept" "[I" ∈ lwG := lwc_2 60 (by decide +kernel) (by decide +kernel)
theorem gf_X11_27 {g : GT} {d : Nat} {M : MI} {Q : Int → Sg → Prop} {pc : Nat} {ls st : List AV} {σ : Sg} {o : Int} (hM : M.1.cls = RX11) (hd : decode M.2.1 pc = .ok (.getfield 27, 3)) (h : Wp g d M Q (pc + 3) ls ((41, (o + 6)) :: st) σ) : Wp g d M Q pc ls ((19, o) :: st) σ := r_getf (ci := 9) (k := 8) (o := o) (by decide) (by decide) (by rw [hM]; exact lk_X11_27) hd h
theorem lk_X11_34 : Cond.fieldLink RX11 34 "StoneRaised$World" "town" "LStoneRaised$Town;" ∈ lwG := lwc_2 27 (by decide +kernel) (by decide +kernel)
theorem gf_X11_34 {g : GT} {d : Nat} {M : MI} {Q : Int → Sg → Prop} {pc : Nat} {ls st : List AV} {σ : Sg} {o : Int} (hM : M.1.cls = RX11) (hd : decode M.2.1 pc = .ok (.getfield 34, 3)) (h : Wp g d M Q (pc + 3) ls ((18, (σ o 0)) :: st) σ) : Wp g d M Q pc ls ((19, o) :: st) σ := r_getf (ci := 9) (k := 0) (o := o) (by decide) (by decide) (by rw [hM]; exact lk_X11_34) hd h
theorem pf_X11_34 {g : GT} {d : Nat} {M : MI} {Q : Int → Sg → Prop} {pc : Nat} {ls st : List AV} {σ : Sg} {o : Int} {v : Int} (hM : M.1.cls = RX11) (hd : decode M.2.1 pc = .ok (.putfield 34, 3)) (h : Wp g d M Q (pc + 3) ls st (ups σ o 0 v)) : Wp g d M Q pc ls ((18, v) :: (19, o) :: st) σ := r_putf (ci := 9) (k := 0) (o := o) (by decide) (by decide) (by rw [hM]; exact lk_X11_34) rfl rfl (by rw [conc_o (by decide)]; rfl) (by rw [conc_o (by decide)]; rfl) hd h
theorem lk_X11_38 : Cond.fieldLink RX11 38 "StoneRaised$World" "year" "I" ∈ lwG := lwc_2 30 (by decide +kernel) (by decide +kernel)
theorem gf_X11_38 {g : GT} {d : Nat} {M : MI} {Q : Int → Sg → Prop} {pc : Nat} {ls st : List AV} {σ : Sg} {o : Int} (hM : M.1.cls = RX11) (hd : decode M.2.1 pc = .ok (.getfield 38, 3)) (h : Wp g d M Q (pc + 3) ls ((0, (σ o 1)) :: st) σ) : Wp g d M Q pc ls ((19, o) :: st) σ := r_getf (ci := 9) (k := 1) (o := o) (by decide) (by decide) (by rw [hM]; exact lk_X11_38) hd h
theorem pf_X11_38 {g : GT} {d : Nat} {M : MI} {Q : Int → Sg → Prop} {pc : Nat} {ls st : List AV} {σ : Sg} {o : Int} {v : Int} (hM : M.1.cls = RX11) (hd : decode M.2.1 pc = .ok (.putfield 38, 3)) (h : Wp g d M Q (pc + 3) ls st (ups σ o 1 v)) : Wp g d M Q pc ls ((0, v) :: (19, o) :: st) σ := r_putf (ci := 9) (k := 1) (o := o) (by decide) (by decide) (by rw [hM]; exact lk_X11_38) rfl rfl rfl rfl hd h
theorem lk_X11_42 : Cond.fieldLink RX11 42 "StoneRaised$World" "ended" "I" ∈ lwG := lwc_2 35 (by decide +kernel) (by decide +kernel)
theorem gf_X11_42 {g : GT} {d : Nat} {M : MI} {Q : Int → Sg → Prop} {pc : Nat} {ls st : List AV} {σ : Sg} {o : Int} (hM : M.1.cls = RX11) (hd : decode M.2.1 pc = .ok (.getfield 42, 3)) (h : Wp g d M Q (pc + 3) ls ((0, (σ o 2)) :: st) σ) : Wp g d M Q pc ls ((19, o) :: st) σ := r_getf (ci := 9) (k := 2) (o := o) (by decide) (by decide) (by rw [hM]; exact lk_X11_42) hd h
theorem pf_X11_42 {g : GT} {d : Nat} {M : MI} {Q : Int → Sg → Prop} {pc : Nat} {ls st : List AV} {σ : Sg} {o : Int} {v : Int} (hM : M.1.cls = RX11) (hd : decode M.2.1 pc = .ok (.putfield 42, 3)) (h : Wp g d M Q (pc + 3) ls st (ups σ o 2 v)) : Wp g d M Q pc ls ((0, v) :: (19, o) :: st) σ := r_putf (ci := 9) (k := 2) (o := o) (by decide) (by decide) (by rw [hM]; exact lk_X11_42) rfl rfl rfl rfl hd h
theorem lk_X11_45 : Cond.fieldLink RX11 45 "StoneRaised$Town" "firstHome" "[I" ∈ lwG := lwc_1 92 (by decide +kernel) (by decide +kernel)
theorem gf_X11_45 {g : GT} {d : Nat} {M : MI} {Q : Int → Sg → Prop} {pc : Nat} {ls st : List AV} {σ : Sg} {o : Int} (hM : M.1.cls = RX11) (hd : decode M.2.1 pc = .ok (.getfield 45, 3)) (h : Wp g d M Q (pc + 3) ls ((33, (o + 8)) :: st) σ) : Wp g d M Q pc ls ((18, o) :: st) σ := r_getf (ci := 8) (k := 4) (o := o) (by decide) (by decide) (by rw [hM]; exact lk_X11_45) hd h
theorem lk_X11_68 : Cond.fieldLink RX11 68 "StoneRaised$World" "keptCount" "I" ∈ lwG := lwc_2 64 (by decide +kernel) (by decide +kernel)
theorem gf_X11_68 {g : GT} {d : Nat} {M : MI} {Q : Int → Sg → Prop} {pc : Nat} {ls st : List AV} {σ : Sg} {o : Int} (hM : M.1.cls = RX11) (hd : decode M.2.1 pc = .ok (.getfield 68, 3)) (h : Wp g d M Q (pc + 3) ls ((0, (σ o 9)) :: st) σ) : Wp g d M Q pc ls ((19, o) :: st) σ := r_getf (ci := 9) (k := 9) (o := o) (by decide) (by decide) (by rw [hM]; exact lk_X11_68) hd h
theorem pf_X11_68 {g : GT} {d : Nat} {M : MI} {Q : Int → Sg → Prop} {pc : Nat} {ls st : List AV} {σ : Sg} {o : Int} {v : Int} (hM : M.1.cls = RX11) (hd : decode M.2.1 pc = .ok (.putfield 68, 3)) (h : Wp g d M Q (pc + 3) ls st (ups σ o 9 v)) : Wp g d M Q pc ls ((0, v) :: (19, o) :: st) σ := r_putf (ci := 9) (k := 9) (o := o) (by decide) (by decide) (by rw [hM]; exact lk_X11_68) rfl rfl rfl rfl hd h
theorem lk_X11_71 : Cond.fieldLink RX11 71 "StoneRaised$World" "waiting" "I" ∈ lwG := lwc_2 66 (by decide +kernel) (by decide +kernel)
theorem gf_X11_71 {g : GT} {d : Nat} {M : MI} {Q : Int → Sg → Prop} {pc : Nat} {ls st : List AV} {σ : Sg} {o : Int} (hM : M.1.cls = RX11) (hd : decode M.2.1 pc = .ok (.getfield 71, 3)) (h : Wp g d M Q (pc + 3) ls ((0, (σ o 10)) :: st) σ) : Wp g d M Q pc ls ((19, o) :: st) σ := r_getf (ci := 9) (k := 10) (o := o) (by decide) (by decide) (by rw [hM]; exact lk_X11_71) hd h
theorem pf_X11_71 {g : GT} {d : Nat} {M : MI} {Q : Int → Sg → Prop} {pc : Nat} {ls st : List AV} {σ : Sg} {o : Int} {v : Int} (hM : M.1.cls = RX11) (hd : decode M.2.1 pc = .ok (.putfield 71, 3)) (h : Wp g d M Q (pc + 3) ls st (ups σ o 10 v)) : Wp g d M Q pc ls ((0, v) :: (19, o) :: st) σ := r_putf (ci := 9) (k := 10) (o := o) (by decide) (by decide) (by rw [hM]; exact lk_X11_71) rfl rfl rfl rfl hd h
theorem lk_X11_74 : Cond.fieldLink RX11 74 "StoneRaised$World" "fell" "I" ∈ lwG := lwc_2 67 (by decide +kernel) (by decide +kernel)
theorem gf_X11_74 {g : GT} {d : Nat} {M : MI} {Q : Int → Sg → Prop} {pc : Nat} {ls st : List AV} {σ : Sg} {o : Int} (hM : M.1.cls = RX11) (hd : decode M.2.1 pc = .ok (.getfield 74, 3)) (h : Wp g d M Q (pc + 3) ls ((0, (σ o 11)) :: st) σ) : Wp g d M Q pc ls ((19, o) :: st) σ := r_getf (ci := 9) (k := 11) (o := o) (by decide) (by decide) (by rw [hM]; exact lk_X11_74) hd h
theorem pf_X11_74 {g : GT} {d : Nat} {M : MI} {Q : Int → Sg → Prop} {pc : Nat} {ls st : List AV} {σ : Sg} {o : Int} {v : Int} (hM : M.1.cls = RX11) (hd : decode M.2.1 pc = .ok (.putfield 74, 3)) (h : Wp g d M Q (pc + 3) ls st (ups σ o 11 v)) : Wp g d M Q pc ls ((0, v) :: (19, o) :: st) σ := r_putf (ci := 9) (k := 11) (o := o) (by decide) (by decide) (by rw [hM]; exact lk_X11_74) rfl rfl rfl rfl hd h
theorem lk_X11_77 : Cond.fieldLink RX11 77 "StoneRaised$World" "built" "I" ∈ lwG := lwc_2 69 (by decide +kernel) (by decide +kernel)
theorem gf_X11_77 {g : GT} {d : Nat} {M : MI} {Q : Int → Sg → Prop} {pc : Nat} {ls st : List AV} {σ : Sg} {o : Int} (hM : M.1.cls = RX11) (hd : decode M.2.1 pc = .ok (.getfield 77, 3)) (h : Wp g d M Q (pc + 3) ls ((0, (σ o 12)) :: st) σ) : Wp g d M Q pc ls ((19, o) :: st) σ := r_getf (ci := 9) (k := 12) (o := o) (by decide) (by decide) (by rw [hM]; exact lk_X11_77) hd h
theorem pf_X11_77 {g : GT} {d : Nat} {M : MI} {Q : Int → Sg → Prop} {pc : Nat} {ls st : List AV} {σ : Sg} {o : Int} {v : Int} (hM : M.1.cls = RX11) (hd : decode M.2.1 pc = .ok (.putfield 77, 3)) (h : Wp g d M Q (pc + 3) ls st (ups σ o 12 v)) : Wp g d M Q pc ls ((0, v) :: (19, o) :: st) σ := r_putf (ci := 9) (k := 12) (o := o) (by decide) (by decide) (by rw [hM]; exact lk_X11_77) rfl rfl rfl rfl hd h
theorem lk_X11_80 : Cond.fieldLink RX11 80 "StoneRaised$Town" "born" "[I" ∈ lwG := lwc_1 96 (by decide +kernel) (by decide +kernel)
theorem gf_X11_80 {g : GT} {d : Nat} {M : MI} {Q : Int → Sg → Prop} {pc : Nat} {ls st : List AV} {σ : Sg} {o : Int} (hM : M.1.cls = RX11) (hd : decode M.2.1 pc = .ok (.getfield 80, 3)) (h : Wp g d M Q (pc + 3) ls ((33, (o + 9)) :: st) σ) : Wp g d M Q pc ls ((18, o) :: st) σ := r_getf (ci := 8) (k := 5) (o := o) (by decide) (by decide) (by rw [hM]; exact lk_X11_80) hd h
theorem lk_X11_87 : Cond.fieldLink RX11 87 "StoneRaised$Town" "raisedTo" "I" ∈ lwG := lwc_1 131 (by decide +kernel) (by decide +kernel)
theorem gf_X11_87 {g : GT} {d : Nat} {M : MI} {Q : Int → Sg → Prop} {pc : Nat} {ls st : List AV} {σ : Sg} {o : Int} (hM : M.1.cls = RX11) (hd : decode M.2.1 pc = .ok (.getfield 87, 3)) (h : Wp g d M Q (pc + 3) ls ((0, (σ o 15)) :: st) σ) : Wp g d M Q pc ls ((18, o) :: st) σ := r_getf (ci := 8) (k := 15) (o := o) (by decide) (by decide) (by rw [hM]; exact lk_X11_87) hd h
theorem pf_X11_87 {g : GT} {d : Nat} {M : MI} {Q : Int → Sg → Prop} {pc : Nat} {ls st : List AV} {σ : Sg} {o : Int} {v : Int} (hM : M.1.cls = RX11) (hd : decode M.2.1 pc = .ok (.putfield 87, 3)) (h : Wp g d M Q (pc + 3) ls st (ups σ o 15 v)) : Wp g d M Q pc ls ((0, v) :: (18, o) :: st) σ := r_putf (ci := 8) (k := 15) (o := o) (by decide) (by decide) (by rw [hM]; exact lk_X11_87) rfl rfl rfl rfl hd h
theorem lk_X11_94 : Cond.fieldLink RX11 94 "StoneRaised$Town" "raisedFrom" "I" ∈ lwG := lwc_1 129 (by decide +kernel) (by decide +kernel)
theorem gf_X11_94 {g : GT} {d : Nat} {M : MI} {Q : Int → Sg → Prop} {pc : Nat} {ls st : List AV} {σ : Sg} {o : Int} (hM : M.1.cls = RX11) (hd : decode M.2.1 pc = .ok (.getfield 94, 3)) (h : Wp g d M Q (pc + 3) ls ((0, (σ o 14)) :: st) σ) : Wp g d M Q pc ls ((18, o) :: st) σ := r_getf (ci := 8) (k := 14) (o := o) (by decide) (by decide) (by rw [hM]; exact lk_X11_94) hd h
theorem pf_X11_94 {g : GT} {d : Nat} {M : MI} {Q : Int → Sg → Prop} {pc : Nat} {ls st : List AV} {σ : Sg} {o : Int} {v : Int} (hM : M.1.cls = RX11) (hd : decode M.2.1 pc = .ok (.putfield 94, 3)) (h : Wp g d M Q (pc + 3) ls st (ups σ o 14 v)) : Wp g d M Q pc ls ((0, v) :: (18, o) :: st) σ := r_putf (ci := 8) (k := 14) (o := o) (by decide) (by decide) (by rw [hM]; exact lk_X11_94) rfl rfl rfl rfl hd h
theorem lk_X11_104 : Cond.fieldLink RX11 104 "StoneRaised$Town" "wide" "[I" ∈ lwG := lwc_1 107 (by decide +kernel) (by decide +kernel)
theorem gf_X11_104 {g : GT} {d : Nat} {M : MI} {Q : Int → Sg → Prop} {pc : Nat} {ls st : List AV} {σ : Sg} {o : Int} (hM : M.1.cls = RX11) (hd : decode M.2.1 pc = .ok (.getfield 104, 3)) (h : Wp g d M Q (pc + 3) ls ((35, (o + 11)) :: st) σ) : Wp g d M Q pc ls ((18, o) :: st) σ := r_getf (ci := 8) (k := 7) (o := o) (by decide) (by decide) (by rw [hM]; exact lk_X11_104) hd h
theorem lk_X11_113 : Cond.fieldLink RX11 113 "StoneRaised$Town" "high" "[I" ∈ lwG := lwc_1 112 (by decide +kernel) (by decide +kernel)
theorem gf_X11_113 {g : GT} {d : Nat} {M : MI} {Q : Int → Sg → Prop} {pc : Nat} {ls st : List AV} {σ : Sg} {o : Int} (hM : M.1.cls = RX11) (hd : decode M.2.1 pc = .ok (.getfield 113, 3)) (h : Wp g d M Q (pc + 3) ls ((35, (o + 12)) :: st) σ) : Wp g d M Q pc ls ((18, o) :: st) σ := r_getf (ci := 8) (k := 8) (o := o) (by decide) (by decide) (by rw [hM]; exact lk_X11_113) hd h
theorem lk_X11_126 : Cond.fieldLink RX11 126 "StoneRaised$Town" "weighs" "I" ∈ lwG := lwc_1 136 (by decide +kernel) (by decide +kernel)
theorem gf_X11_126 {g : GT} {d : Nat} {M : MI} {Q : Int → Sg → Prop} {pc : Nat} {ls st : List AV} {σ : Sg} {o : Int} (hM : M.1.cls = RX11) (hd : decode M.2.1 pc = .ok (.getfield 126, 3)) (h : Wp g d M Q (pc + 3) ls ((0, (σ o 16)) :: st) σ) : Wp g d M Q pc ls ((18, o) :: st) σ := r_getf (ci := 8) (k := 16) (o := o) (by decide) (by decide) (by rw [hM]; exact lk_X11_126) hd h
theorem pf_X11_126 {g : GT} {d : Nat} {M : MI} {Q : Int → Sg → Prop} {pc : Nat} {ls st : List AV} {σ : Sg} {o : Int} {v : Int} (hM : M.1.cls = RX11) (hd : decode M.2.1 pc = .ok (.putfield 126, 3)) (h : Wp g d M Q (pc + 3) ls st (ups σ o 16 v)) : Wp g d M Q pc ls ((0, v) :: (18, o) :: st) σ := r_putf (ci := 8) (k := 16) (o := o) (by decide) (by decide) (by rw [hM]; exact lk_X11_126) rfl rfl rfl rfl hd h
theorem lk_X11_134 : Cond.fieldLink RX11 134 "StoneRaised$Town" "twin" "[I" ∈ lwG := lwc_1 101 (by decide +kernel) (by decide +kernel)
theorem gf_X11_134 {g : GT} {d : Nat} {M : MI} {Q : Int → Sg → Prop} {pc : Nat} {ls st : List AV} {σ : Sg} {o : Int} (hM : M.1.cls = RX11) (hd : decode M.2.1 pc = .ok (.getfield 134, 3)) (h : Wp g d M Q (pc + 3) ls ((33, (o + 10)) :: st) σ) : Wp g d M Q pc ls ((18, o) :: st) σ := r_getf (ci := 8) (k := 6) (o := o) (by decide) (by decide) (by rw [hM]; exact lk_X11_134) hd h
theorem lk_X11_156 : Cond.fieldLink RX11 156 "StoneRaised$Town" "bites" "I" ∈ lwG := lwc_1 143 (by decide +kernel) (by decide +kernel)
theorem gf_X11_156 {g : GT} {d : Nat} {M : MI} {Q : Int → Sg → Prop} {pc : Nat} {ls st : List AV} {σ : Sg} {o : Int} (hM : M.1.cls = RX11) (hd : decode M.2.1 pc = .ok (.getfield 156, 3)) (h : Wp g d M Q (pc + 3) ls ((0, (σ o 18)) :: st) σ) : Wp g d M Q pc ls ((18, o) :: st) σ := r_getf (ci := 8) (k := 18) (o := o) (by decide) (by decide) (by rw [hM]; exact lk_X11_156) hd h
theorem pf_X11_156 {g : GT} {d : Nat} {M : MI} {Q : Int → Sg → Prop} {pc : Nat} {ls st : List AV} {σ : Sg} {o : Int} {v : Int} (hM : M.1.cls = RX11) (hd : decode M.2.1 pc = .ok (.putfield 156, 3)) (h : Wp g d M Q (pc + 3) ls st (ups σ o 18 v)) : Wp g d M Q pc ls ((0, v) :: (18, o) :: st) σ := r_putf (ci := 8) (k := 18) (o := o) (by decide) (by decide) (by rw [hM]; exact lk_X11_156) rfl rfl rfl rfl hd h
theorem lk_X11_196 : Cond.fieldLink RX11 196 "StoneRaised$Town" "may" "LStoneRaised$Formula;" ∈ lwG := lwc_1 119 (by decide +kernel) (by decide +kernel)
theorem gf_X11_196 {g : GT} {d : Nat} {M : MI} {Q : Int → Sg → Prop} {pc : Nat} {ls st : List AV} {σ : Sg} {o : Int} (hM : M.1.cls = RX11) (hd : decode M.2.1 pc = .ok (.getfield 196, 3)) (h : Wp g d M Q (pc + 3) ls ((11, (o + 17)) :: st) σ) : Wp g d M Q pc ls ((18, o) :: st) σ := r_getf (ci := 8) (k := 11) (o := o) (by decide) (by decide) (by rw [hM]; exact lk_X11_196) hd h
theorem lk_X11_200 : Cond.fieldLink RX11 200 "StoneRaised$Formula" "size" "I" ∈ lwG := lwc_1 65 (by decide +kernel) (by decide +kernel)
theorem gf_X11_200 {g : GT} {d : Nat} {M : MI} {Q : Int → Sg → Prop} {pc : Nat} {ls st : List AV} {σ : Sg} {o : Int} (hM : M.1.cls = RX11) (hd : decode M.2.1 pc = .ok (.getfield 200, 3)) (h : Wp g d M Q (pc + 3) ls ((0, (σ o 2)) :: st) σ) : Wp g d M Q pc ls ((11, o) :: st) σ := r_getf (ci := 1) (k := 2) (o := o) (by decide) (by decide) (by rw [hM]; exact lk_X11_200) hd h
theorem pf_X11_200 {g : GT} {d : Nat} {M : MI} {Q : Int → Sg → Prop} {pc : Nat} {ls st : List AV} {σ : Sg} {o : Int} {v : Int} (hM : M.1.cls = RX11) (hd : decode M.2.1 pc = .ok (.putfield 200, 3)) (h : Wp g d M Q (pc + 3) ls st (ups σ o 2 v)) : Wp g d M Q pc ls ((0, v) :: (11, o) :: st) σ := r_putf (ci := 1) (k := 2) (o := o) (by decide) (by decide) (by rw [hM]; exact lk_X11_200) rfl rfl rfl rfl hd h
theorem lk_X11_209 : Cond.fieldLink RX11 209 "StoneRaised$Town" "facts" "[I" ∈ lwG := lwc_1 121 (by decide +kernel) (by decide +kernel)
theorem gf_X11_209 {g : GT} {d : Nat} {M : MI} {Q : Int → Sg → Prop} {pc : Nat} {ls st : List AV} {σ : Sg} {o : Int} (hM : M.1.cls = RX11) (hd : decode M.2.1 pc = .ok (.getfield 209, 3)) (h : Wp g d M Q (pc + 3) ls ((33, (o + 20)) :: st) σ) : Wp g d M Q pc ls ((18, o) :: st) σ := r_getf (ci := 8) (k := 12) (o := o) (by decide) (by decide) (by rw [hM]; exact lk_X11_209) hd h
theorem lk_X11_212 : Cond.fieldLink RX11 212 "StoneRaised$Word" "COURSE" "LStoneRaised$Word;" ∈ lwG := lwc_4 238 (by decide +kernel) (by decide +kernel)
theorem lk_X11_218 : Cond.fieldLink RX11 218 "StoneRaised$Word" "fact" "I" ∈ lwG := lwc_9 108 (by decide +kernel) (by decide +kernel)
theorem lk_X11_221 : Cond.fieldLink RX11 221 "StoneRaised$Word" "LEFT" "LStoneRaised$Word;" ∈ lwG := lwc_4 239 (by decide +kernel) (by decide +kernel)
theorem lk_X11_224 : Cond.fieldLink RX11 224 "StoneRaised$Word" "UNDER" "LStoneRaised$Word;" ∈ lwG := lwc_5 1 (by decide +kernel) (by decide +kernel)
theorem lk_X12_10 : Cond.fieldLink RX12 10 "StoneRaised" "tape" "LStoneRaised$Tape;" ∈ lwG := lwc_2 175 (by decide +kernel) (by decide +kernel)
theorem gf_X12_10 {g : GT} {d : Nat} {M : MI} {Q : Int → Sg → Prop} {pc : Nat} {ls st : List AV} {σ : Sg} (hM : M.1.cls = RX12) (hd : decode M.2.1 pc = .ok (.getfield 10, 3)) (h : Wp g d M Q (pc + 3) ls ((17, 2) :: st) σ) : Wp g d M Q pc ls ((20, 1) :: st) σ := r_getf (ci := 10) (k := 0) (o := 1) (by decide) (by decide) (by rw [hM]; exact lk_X12_10) hd h
theorem lk_X12_19 : Cond.fieldLink RX12 19 "StoneRaised" "current" "LStoneRaised$Town;" ∈ lwG := lwc_2 183 (by decide +kernel) (by decide +kernel)
theorem gf_X12_19 {g : GT} {d : Nat} {M : MI} {Q : Int → Sg → Prop} {pc : Nat} {ls st : List AV} {σ : Sg} (hM : M.1.cls = RX12) (hd : decode M.2.1 pc = .ok (.getfield 19, 3)) (h : Wp g d M Q (pc + 3) ls ((18, (σ 1 8)) :: st) σ) : Wp g d M Q pc ls ((20, 1) :: st) σ := r_getf (ci := 10) (k := 8) (o := 1) (by decide) (by decide) (by rw [hM]; exact lk_X12_19) hd h
theorem pf_X12_19 {g : GT} {d : Nat} {M : MI} {Q : Int → Sg → Prop} {pc : Nat} {ls st : List AV} {σ : Sg} {v : Int} (hM : M.1.cls = RX12) (hd : decode M.2.1 pc = .ok (.putfield 19, 3)) (h : Wp g d M Q (pc + 3) ls st (ups σ 1 8 v)) : Wp g d M Q pc ls ((18, v) :: (20, 1) :: st) σ := r_putf (ci := 10) (k := 8) (o := 1) (by decide) (by decide) (by rw [hM]; exact lk_X12_19) rfl rfl (by rw [conc_o (by decide)]; rfl) (by rw [conc_o (by decide)]; rfl) hd h
theorem lk_X12_23 : Cond.fieldLink RX12 23 "StoneRaised" "draft" "LStoneRaised$Town;" ∈ lwG := lwc_2 184 (by decide +kernel) (by decide +kernel)
theorem gf_X12_23 {g : GT} {d : Nat} {M : MI} {Q : Int → Sg → Prop} {pc : Nat} {ls st : List AV} {σ : Sg} (hM : M.1.cls = RX12) (hd : decode M.2.1 pc = .ok (.getfield 23, 3)) (h : Wp g d M Q (pc + 3) ls ((18, (σ 1 9)) :: st) σ) : Wp g d M Q pc ls ((20, 1) :: st) σ := r_getf (ci := 10) (k := 9) (o := 1) (by decide) (by decide) (by rw [hM]; exact lk_X12_23) hd h
theorem pf_X12_23 {g : GT} {d : Nat} {M : MI} {Q : Int → Sg → Prop} {pc : Nat} {ls st : List AV} {σ : Sg} {v : Int} (hM : M.1.cls = RX12) (hd : decode M.2.1 pc = .ok (.putfield 23, 3)) (h : Wp g d M Q (pc + 3) ls st (ups σ 1 9 v)) : Wp g d M Q pc ls ((18, v) :: (20, 1) :: st) σ := r_putf (ci := 10) (k := 9) (o := 1) (by decide) (by decide) (by rw [hM]; exact lk_X12_23) rfl rfl (by rw [conc_o (by decide)]; rfl) (by rw [conc_o (by decide)]; rfl) hd h
theorem lk_X12_31 : Cond.fieldLink RX12 31 "StoneRaised" "parser" "LStoneRaised$Parser;" ∈ lwG := lwc_2 176 (by decide +kernel) (by decide +kernel)
theorem gf_X12_31 {g : GT} {d : Nat} {M : MI} {Q : Int → Sg → Prop} {pc : Nat} {ls st : List AV} {σ : Sg} (hM : M.1.cls = RX12) (hd : decode M.2.1 pc = .ok (.getfield 31, 3)) (h : Wp g d M Q (pc + 3) ls ((13, 46) :: st) σ) : Wp g d M Q pc ls ((20, 1) :: st) σ := r_getf (ci := 10) (k := 1) (o := 1) (by decide) (by decide) (by rw [hM]; exact lk_X12_31) hd h
theorem lk_X12_40 : Cond.fieldLink RX12 40 "StoneRaised" "now" "LStoneRaised$World;" ∈ lwG := lwc_2 177 (by decide +kernel) (by decide +kernel)
theorem gf_X12_40 {g : GT} {d : Nat} {M : MI} {Q : Int → Sg → Prop} {pc : Nat} {ls st : List AV} {σ : Sg} (hM : M.1.cls = RX12) (hd : decode M.2.1 pc = .ok (.getfield 40, 3)) (h : Wp g d M Q (pc + 3) ls ((19, 48) :: st) σ) : Wp g d M Q pc ls ((20, 1) :: st) σ := r_getf (ci := 10) (k := 2) (o := 1) (by decide) (by decide) (by rw [hM]; exact lk_X12_40) hd h
theorem lk_X12_47 : Cond.fieldLink RX12 47 "StoneRaised" "plans" "LStoneRaised$Plans;" ∈ lwG := lwc_2 178 (by decide +kernel) (by decide +kernel)
theorem gf_X12_47 {g : GT} {d : Nat} {M : MI} {Q : Int → Sg → Prop} {pc : Nat} {ls st : List AV} {σ : Sg} (hM : M.1.cls = RX12) (hd : decode M.2.1 pc = .ok (.getfield 47, 3)) (h : Wp g d M Q (pc + 3) ls ((14, 55) :: st) σ) : Wp g d M Q pc ls ((20, 1) :: st) σ := r_getf (ci := 10) (k := 3) (o := 1) (by decide) (by decide) (by rw [hM]; exact lk_X12_47) hd h
theorem lk_X12_54 : Cond.fieldLink RX12 54 "StoneRaised" "acts" "LStoneRaised$Acts;" ∈ lwG := lwc_2 179 (by decide +kernel) (by decide +kernel)
theorem gf_X12_54 {g : GT} {d : Nat} {M : MI} {Q : Int → Sg → Prop} {pc : Nat} {ls st : List AV} {σ : Sg} (hM : M.1.cls = RX12) (hd : decode M.2.1 pc = .ok (.getfield 54, 3)) (h : Wp g d M Q (pc + 3) ls ((10, 65) :: st) σ) : Wp g d M Q pc ls ((20, 1) :: st) σ := r_getf (ci := 10) (k := 4) (o := 1) (by decide) (by decide) (by rw [hM]; exact lk_X12_54) hd h
theorem lk_X12_61 : Cond.fieldLink RX12 61 "StoneRaised" "told" "LStoneRaised$Seams;" ∈ lwG := lwc_2 180 (by decide +kernel) (by decide +kernel)
theorem gf_X12_61 {g : GT} {d : Nat} {M : MI} {Q : Int → Sg → Prop} {pc : Nat} {ls st : List AV} {σ : Sg} (hM : M.1.cls = RX12) (hd : decode M.2.1 pc = .ok (.getfield 61, 3)) (h : Wp g d M Q (pc + 3) ls ((16, 87) :: st) σ) : Wp g d M Q pc ls ((20, 1) :: st) σ := r_getf (ci := 10) (k := 5) (o := 1) (by decide) (by decide) (by rw [hM]; exact lk_X12_61) hd h
theorem lk_X12_68 : Cond.fieldLink RX12 68 "StoneRaised" "shown" "LStoneRaised$Image;" ∈ lwG := lwc_2 181 (by decide +kernel) (by decide +kernel)
theorem gf_X12_68 {g : GT} {d : Nat} {M : MI} {Q : Int → Sg → Prop} {pc : Nat} {ls st : List AV} {σ : Sg} (hM : M.1.cls = RX12) (hd : decode M.2.1 pc = .ok (.getfield 68, 3)) (h : Wp g d M Q (pc + 3) ls ((12, 89) :: st) σ) : Wp g d M Q pc ls ((20, 1) :: st) σ := r_getf (ci := 10) (k := 6) (o := 1) (by decide) (by decide) (by rw [hM]; exact lk_X12_68) hd h
theorem lk_X12_72 : Cond.fieldLink RX12 72 "StoneRaised" "refused" "[I" ∈ lwG := lwc_2 182 (by decide +kernel) (by decide +kernel)
theorem gf_X12_72 {g : GT} {d : Nat} {M : MI} {Q : Int → Sg → Prop} {pc : Nat} {ls st : List AV} {σ : Sg} (hM : M.1.cls = RX12) (hd : decode M.2.1 pc = .ok (.getfield 72, 3)) (h : Wp g d M Q (pc + 3) ls ((34, 91) :: st) σ) : Wp g d M Q pc ls ((20, 1) :: st) σ := r_getf (ci := 10) (k := 7) (o := 1) (by decide) (by decide) (by rw [hM]; exact lk_X12_72) hd h
theorem lk_X12_76 : Cond.fieldLink RX12 76 "StoneRaised" "faultKind" "I" ∈ lwG := lwc_2 185 (by decide +kernel) (by decide +kernel)
theorem gf_X12_76 {g : GT} {d : Nat} {M : MI} {Q : Int → Sg → Prop} {pc : Nat} {ls st : List AV} {σ : Sg} (hM : M.1.cls = RX12) (hd : decode M.2.1 pc = .ok (.getfield 76, 3)) (h : Wp g d M Q (pc + 3) ls ((0, (σ 1 10)) :: st) σ) : Wp g d M Q pc ls ((20, 1) :: st) σ := r_getf (ci := 10) (k := 10) (o := 1) (by decide) (by decide) (by rw [hM]; exact lk_X12_76) hd h
theorem pf_X12_76 {g : GT} {d : Nat} {M : MI} {Q : Int → Sg → Prop} {pc : Nat} {ls st : List AV} {σ : Sg} {v : Int} (hM : M.1.cls = RX12) (hd : decode M.2.1 pc = .ok (.putfield 76, 3)) (h : Wp g d M Q (pc + 3) ls st (ups σ 1 10 v)) : Wp g d M Q pc ls ((0, v) :: (20, 1) :: st) σ := r_putf (ci := 10) (k := 10) (o := 1) (by decide) (by decide) (by rw [hM]; exact lk_X12_76) rfl rfl rfl rfl hd h
theorem lk_X12_80 : Cond.fieldLink RX12 80 "StoneRaised" "faultPlace" "I" ∈ lwG := lwc_2 186 (by decide +kernel) (by decide +kernel)
theorem gf_X12_80 {g : GT} {d : Nat} {M : MI} {Q : Int → Sg → Prop} {pc : Nat} {ls st : List AV} {σ : Sg} (hM : M.1.cls = RX12) (hd : decode M.2.1 pc = .ok (.getfield 80, 3)) (h : Wp g d M Q (pc + 3) ls ((0, (σ 1 11)) :: st) σ) : Wp g d M Q pc ls ((20, 1) :: st) σ := r_getf (ci := 10) (k := 11) (o := 1) (by decide) (by decide) (by rw [hM]; exact lk_X12_80) hd h
theorem pf_X12_80 {g : GT} {d : Nat} {M : MI} {Q : Int → Sg → Prop} {pc : Nat} {ls st : List AV} {σ : Sg} {v : Int} (hM : M.1.cls = RX12) (hd : decode M.2.1 pc = .ok (.putfield 80, 3)) (h : Wp g d M Q (pc + 3) ls st (ups σ 1 11 v)) : Wp g d M Q pc ls ((0, v) :: (20, 1) :: st) σ := r_putf (ci := 10) (k := 11) (o := 1) (by decide) (by decide) (by rw [hM]; exact lk_X12_80) rfl rfl rfl rfl hd h
theorem lk_X12_83 : Cond.fieldLink RX12 83 "StoneRaised" "seedNow" "I" ∈ lwG := lwc_2 187 (by decide +kernel) (by decide +kernel)
theorem gf_X12_83 {g : GT} {d : Nat} {M : MI} {Q : Int → Sg → Prop} {pc : Nat} {ls st : List AV} {σ : Sg} (hM : M.1.cls = RX12) (hd : decode M.2.1 pc = .ok (.getfield 83, 3)) (h : Wp g d M Q (pc + 3) ls ((0, (σ 1 12)) :: st) σ) : Wp g d M Q pc ls ((20, 1) :: st) σ := r_getf (ci := 10) (k := 12) (o := 1) (by decide) (by decide) (by rw [hM]; exact lk_X12_83) hd h
theorem pf_X12_83 {g : GT} {d : Nat} {M : MI} {Q : Int → Sg → Prop} {pc : Nat} {ls st : List AV} {σ : Sg} {v : Int} (hM : M.1.cls = RX12) (hd : decode M.2.1 pc = .ok (.putfield 83, 3)) (h : Wp g d M Q (pc + 3) ls st (ups σ 1 12 v)) : Wp g d M Q pc ls ((0, v) :: (20, 1) :: st) σ := r_putf (ci := 10) (k := 12) (o := 1) (by decide) (by decide) (by rw [hM]; exact lk_X12_83) rfl rfl rfl rfl hd h
theorem lk_X12_86 : Cond.fieldLink RX12 86 "StoneRaised$Tape" "size" "I" ∈ lwG := lwc_1 35 (by decide +kernel) (by decide +kernel)
theorem gf_X12_86 {g : GT} {d : Nat} {M : MI} {Q : Int → Sg → Prop} {pc : Nat} {ls st : List AV} {σ : Sg} (hM : M.1.cls = RX12) (hd : decode M.2.1 pc = .ok (.getfield 86, 3)) (h : Wp g d M Q (pc + 3) ls ((0, (σ 2 1)) :: st) σ) : Wp g d M Q pc ls ((17, 2) :: st) σ := r_getf (ci := 7) (k := 1) (o := 2) (by decide) (by decide) (by rw [hM]; exact lk_X12_86) hd h
theorem pf_X12_86 {g : GT} {d : Nat} {M : MI} {Q : Int → Sg → Prop} {pc : Nat} {ls st : List AV} {σ : Sg} {v : Int} (hM : M.1.cls = RX12) (hd : decode M.2.1 pc = .ok (.putfield 86, 3)) (h : Wp g d M Q (pc + 3) ls st (ups σ 2 1 v)) : Wp g d M Q pc ls ((0, v) :: (17, 2) :: st) σ := r_putf (ci := 7) (k := 1) (o := 2) (by decide) (by decide) (by rw [hM]; exact lk_X12_86) rfl rfl rfl rfl hd h
theorem lk_X12_107 : Cond.fieldLink RX12 107 "StoneRaised$Parser" "reader" "LStoneRaised$Reader;" ∈ lwG := lwc_1 229 (by decide +kernel) (by decide +kernel)
theorem gf_X12_107 {g : GT} {d : Nat} {M : MI} {Q : Int → Sg → Prop} {pc : Nat} {ls st : List AV} {σ : Sg} (hM : M.1.cls = RX12) (hd : decode M.2.1 pc = .ok (.getfield 107, 3)) (h : Wp g d M Q (pc + 3) ls ((15, 47) :: st) σ) : Wp g d M Q pc ls ((13, 46) :: st) σ := r_getf (ci := 3) (k := 0) (o := 46) (by decide) (by decide) (by rw [hM]; exact lk_X12_107) hd h
theorem lk_X12_111 : Cond.fieldLink RX12 111 "StoneRaised$Reader" "fault" "I" ∈ lwG := lwc_1 208 (by decide +kernel) (by decide +kernel)
theorem gf_X12_111 {g : GT} {d : Nat} {M : MI} {Q : Int → Sg → Prop} {pc : Nat} {ls st : List AV} {σ : Sg} (hM : M.1.cls = RX12) (hd : decode M.2.1 pc = .ok (.getfield 111, 3)) (h : Wp g d M Q (pc + 3) ls ((0, (σ 47 6)) :: st) σ) : Wp g d M Q pc ls ((15, 47) :: st) σ := r_getf (ci := 5) (k := 6) (o := 47) (by decide) (by decide) (by rw [hM]; exact lk_X12_111) hd h
theorem pf_X12_111 {g : GT} {d : Nat} {M : MI} {Q : Int → Sg → Prop} {pc : Nat} {ls st : List AV} {σ : Sg} {v : Int} (hM : M.1.cls = RX12) (hd : decode M.2.1 pc = .ok (.putfield 111, 3)) (h : Wp g d M Q (pc + 3) ls st (ups σ 47 6 v)) : Wp g d M Q pc ls ((0, v) :: (15, 47) :: st) σ := r_putf (ci := 5) (k := 6) (o := 47) (by decide) (by decide) (by rw [hM]; exact lk_X12_111) rfl rfl rfl rfl hd h
theorem lk_X12_116 : Cond.fieldLink RX12 116 "StoneRaised$Reader" "place" "I" ∈ lwG := lwc_1 210 (by decide +kernel) (by decide +kernel)
theorem gf_X12_116 {g : GT} {d : Nat} {M : MI} {Q : Int → Sg → Prop} {pc : Nat} {ls st : List AV} {σ : Sg} (hM : M.1.cls = RX12) (hd : decode M.2.1 pc = .ok (.getfield 116, 3)) (h : Wp g d M Q (pc + 3) ls ((0, (σ 47 7)) :: st) σ) : Wp g d M Q pc ls ((15, 47) :: st) σ := r_getf (ci := 5) (k := 7) (o := 47) (by decide) (by decide) (by rw [hM]; exact lk_X12_116) hd h
theorem pf_X12_116 {g : GT} {d : Nat} {M : MI} {Q : Int → Sg → Prop} {pc : Nat} {ls st : List AV} {σ : Sg} {v : Int} (hM : M.1.cls = RX12) (hd : decode M.2.1 pc = .ok (.putfield 116, 3)) (h : Wp g d M Q (pc + 3) ls st (ups σ 47 7 v)) : Wp g d M Q pc ls ((0, v) :: (15, 47) :: st) σ := r_putf (ci := 5) (k := 7) (o := 47) (by decide) (by decide) (by rw [hM]; exact lk_X12_116) rfl rfl rfl rfl hd h
theorem lk_X12_138 : Cond.fieldLink RX12 138 "StoneRaised$Town" "feuds" "I" ∈ lwG := lwc_1 124 (by decide +kernel) (by decide +kernel)
theorem gf_X12_138 {g : GT} {d : Nat} {M : MI} {Q : Int → Sg → Prop} {pc : Nat} {ls st : List AV} {σ : Sg} {o : Int} (hM : M.1.cls = RX12) (hd : decode M.2.1 pc = .ok (.getfield 138, 3)) (h : Wp g d M Q (pc + 3) ls ((0, (σ o 13)) :: st) σ) : Wp g d M Q pc ls ((18, o) :: st) σ := r_getf (ci := 8) (k := 13) (o := o) (by decide) (by decide) (by rw [hM]; exact lk_X12_138) hd h
theorem pf_X12_138 {g : GT} {d : Nat} {M : MI} {Q : Int → Sg → Prop} {pc : Nat} {ls st : List AV} {σ : Sg} {o : Int} {v : Int} (hM : M.1.cls = RX12) (hd : decode M.2.1 pc = .ok (.putfield 138, 3)) (h : Wp g d M Q (pc + 3) ls st (ups σ o 13 v)) : Wp g d M Q pc ls ((0, v) :: (18, o) :: st) σ := r_putf (ci := 8) (k := 13) (o := o) (by decide) (by decide) (by rw [hM]; exact lk_X12_138) rfl rfl rfl rfl hd h
theorem lk_X12_141 : Cond.fieldLink RX12 141 "StoneRaised$World" "ended" "I" ∈ lwG := lwc_2 39 (by decide +kernel) (by decide +kernel)
theorem gf_X12_141 {g : GT} {d : Nat} {M : MI} {Q : Int → Sg → Prop} {pc : Nat} {ls st : List AV} {σ : Sg} {o : Int} (hM : M.1.cls = RX12) (hd : decode M.2.1 pc = .ok (.getfield 141, 3)) (h : Wp g d M Q (pc + 3) ls ((0, (σ o 2)) :: st) σ) : Wp g d M Q pc ls ((19, o) :: st) σ := r_getf (ci := 9) (k := 2) (o := o) (by decide) (by decide) (by rw [hM]; exact lk_X12_141) hd h
theorem pf_X12_141 {g : GT} {d : Nat} {M : MI} {Q : Int → Sg → Prop} {pc : Nat} {ls st : List AV} {σ : Sg} {o : Int} {v : Int} (hM : M.1.cls = RX12) (hd : decode M.2.1 pc = .ok (.putfield 141, 3)) (h : Wp g d M Q (pc + 3) ls st (ups σ o 2 v)) : Wp g d M Q pc ls ((0, v) :: (19, o) :: st) σ := r_putf (ci := 9) (k := 2) (o := o) (by decide) (by decide) (by rw [hM]; exact lk_X12_141) rfl rfl rfl rfl hd h
theorem lk_X12_149 : Cond.fieldLink RX12 149 "StoneRaised$World" "year" "I" ∈ lwG := lwc_2 34 (by decide +kernel) (by decide +kernel)
theorem gf_X12_149 {g : GT} {d : Nat} {M : MI} {Q : Int → Sg → Prop} {pc : Nat} {ls st : List AV} {σ : Sg} {o : Int} (hM : M.1.cls = RX12) (hd : decode M.2.1 pc = .ok (.getfield 149, 3)) (h : Wp g d M Q (pc + 3) ls ((0, (σ o 1)) :: st) σ) : Wp g d M Q pc ls ((19, o) :: st) σ := r_getf (ci := 9) (k := 1) (o := o) (by decide) (by decide) (by rw [hM]; exact lk_X12_149) hd h
theorem pf_X12_149 {g : GT} {d : Nat} {M : MI} {Q : Int → Sg → Prop} {pc : Nat} {ls st : List AV} {σ : Sg} {o : Int} {v : Int} (hM : M.1.cls = RX12) (hd : decode M.2.1 pc = .ok (.putfield 149, 3)) (h : Wp g d M Q (pc + 3) ls st (ups σ o 1 v)) : Wp g d M Q pc ls ((0, v) :: (19, o) :: st) σ := r_putf (ci := 9) (k := 1) (o := o) (by decide) (by decide) (by rw [hM]; exact lk_X12_149) rfl rfl rfl rfl hd h
theorem lk_X12_158 : Cond.fieldLink RX12 158 "StoneRaised$World" "keptCount" "I" ∈ lwG := lwc_2 65 (by decide +kernel) (by decide +kernel)
theorem gf_X12_158 {g : GT} {d : Nat} {M : MI} {Q : Int → Sg → Prop} {pc : Nat} {ls st : List AV} {σ : Sg} {o : Int} (hM : M.1.cls = RX12) (hd : decode M.2.1 pc = .ok (.getfield 158, 3)) (h : Wp g d M Q (pc + 3) ls ((0, (σ o 9)) :: st) σ) : Wp g d M Q pc ls ((19, o) :: st) σ := r_getf (ci := 9) (k := 9) (o := o) (by decide) (by decide) (by rw [hM]; exact lk_X12_158) hd h
theorem pf_X12_158 {g : GT} {d : Nat} {M : MI} {Q : Int → Sg → Prop} {pc : Nat} {ls st : List AV} {σ : Sg} {o : Int} {v : Int} (hM : M.1.cls = RX12) (hd : decode M.2.1 pc = .ok (.putfield 158, 3)) (h : Wp g d M Q (pc + 3) ls st (ups σ o 9 v)) : Wp g d M Q pc ls ((0, v) :: (19, o) :: st) σ := r_putf (ci := 9) (k := 9) (o := o) (by decide) (by decide) (by rw [hM]; exact lk_X12_158) rfl rfl rfl rfl hd h
theorem lk_X12_161 : Cond.fieldLink RX12 161 "StoneRaised$Acts" "count" "I" ∈ lwG := lwc_2 134 (by decide +kernel) (by decide +kernel)
theorem gf_X12_161 {g : GT} {d : Nat} {M : MI} {Q : Int → Sg → Prop} {pc : Nat} {ls st : List AV} {σ : Sg} (hM : M.1.cls = RX12) (hd : decode M.2.1 pc = .ok (.getfield 161, 3)) (h : Wp g d M Q (pc + 3) ls ((0, (σ 65 1)) :: st) σ) : Wp g d M Q pc ls ((10, 65) :: st) σ := r_getf (ci := 0) (k := 1) (o := 65) (by decide) (by decide) (by rw [hM]; exact lk_X12_161) hd h
theorem pf_X12_161 {g : GT} {d : Nat} {M : MI} {Q : Int → Sg → Prop} {pc : Nat} {ls st : List AV} {σ : Sg} {v : Int} (hM : M.1.cls = RX12) (hd : decode M.2.1 pc = .ok (.putfield 161, 3)) (h : Wp g d M Q (pc + 3) ls st (ups σ 65 1 v)) : Wp g d M Q pc ls ((0, v) :: (10, 65) :: st) σ := r_putf (ci := 0) (k := 1) (o := 65) (by decide) (by decide) (by rw [hM]; exact lk_X12_161) rfl rfl rfl rfl hd h
theorem lk_X12_164 : Cond.fieldLink RX12 164 "StoneRaised$Town" "named" "[I" ∈ lwG := lwc_1 82 (by decide +kernel) (by decide +kernel)
theorem gf_X12_164 {g : GT} {d : Nat} {M : MI} {Q : Int → Sg → Prop} {pc : Nat} {ls st : List AV} {σ : Sg} {o : Int} (hM : M.1.cls = RX12) (hd : decode M.2.1 pc = .ok (.getfield 164, 3)) (h : Wp g d M Q (pc + 3) ls ((31, (o + 1)) :: st) σ) : Wp g d M Q pc ls ((18, o) :: st) σ := r_getf (ci := 8) (k := 0) (o := o) (by decide) (by decide) (by rw [hM]; exact lk_X12_164) hd h
theorem lk_X12_167 : Cond.fieldLink RX12 167 "StoneRaised$Town" "names" "[[I" ∈ lwG := lwc_1 84 (by decide +kernel) (by decide +kernel)
theorem gf_X12_167 {g : GT} {d : Nat} {M : MI} {Q : Int → Sg → Prop} {pc : Nat} {ls st : List AV} {σ : Sg} {o : Int} (hM : M.1.cls = RX12) (hd : decode M.2.1 pc = .ok (.getfield 167, 3)) (h : Wp g d M Q (pc + 3) ls ((32, (o + 2)) :: st) σ) : Wp g d M Q pc ls ((18, o) :: st) σ := r_getf (ci := 8) (k := 1) (o := o) (by decide) (by decide) (by rw [hM]; exact lk_X12_167) hd h
theorem lk_X12_171 : Cond.fieldLink RX12 171 "StoneRaised$Town" "talk" "[I" ∈ lwG := lwc_1 87 (by decide +kernel) (by decide +kernel)
theorem gf_X12_171 {g : GT} {d : Nat} {M : MI} {Q : Int → Sg → Prop} {pc : Nat} {ls st : List AV} {σ : Sg} {o : Int} (hM : M.1.cls = RX12) (hd : decode M.2.1 pc = .ok (.getfield 171, 3)) (h : Wp g d M Q (pc + 3) ls ((34, (o + 6)) :: st) σ) : Wp g d M Q pc ls ((18, o) :: st) σ := r_getf (ci := 8) (k := 2) (o := o) (by decide) (by decide) (by rw [hM]; exact lk_X12_171) hd h
theorem lk_X12_174 : Cond.fieldLink RX12 174 "StoneRaised$Town" "warm" "[I" ∈ lwG := lwc_1 90 (by decide +kernel) (by decide +kernel)
theorem gf_X12_174 {g : GT} {d : Nat} {M : MI} {Q : Int → Sg → Prop} {pc : Nat} {ls st : List AV} {σ : Sg} {o : Int} (hM : M.1.cls = RX12) (hd : decode M.2.1 pc = .ok (.getfield 174, 3)) (h : Wp g d M Q (pc + 3) ls ((34, (o + 7)) :: st) σ) : Wp g d M Q pc ls ((18, o) :: st) σ := r_getf (ci := 8) (k := 3) (o := o) (by decide) (by decide) (by rw [hM]; exact lk_X12_174) hd h
theorem lk_X12_184 : Cond.fieldLink RX12 184 "StoneRaised$World" "homeOf" "[I" ∈ lwG := lwc_2 43 (by decide +kernel) (by decide +kernel)
theorem gf_X12_184 {g : GT} {d : Nat} {M : MI} {Q : Int → Sg → Prop} {pc : Nat} {ls st : List AV} {σ : Sg} {o : Int} (hM : M.1.cls = RX12) (hd : decode M.2.1 pc = .ok (.getfield 184, 3)) (h : Wp g d M Q (pc + 3) ls ((33, (o + 1)) :: st) σ) : Wp g d M Q pc ls ((19, o) :: st) σ := r_getf (ci := 9) (k := 3) (o := o) (by decide) (by decide) (by rw [hM]; exact lk_X12_184) hd h
theorem lk_X12_187 : Cond.fieldLink RX12 187 "StoneRaised$Town" "born" "[I" ∈ lwG := lwc_1 97 (by decide +kernel) (by decide +kernel)
theorem gf_X12_187 {g : GT} {d : Nat} {M : MI} {Q : Int → Sg → Prop} {pc : Nat} {ls st : List AV} {σ : Sg} {o : Int} (hM : M.1.cls = RX12) (hd : decode M.2.1 pc = .ok (.getfield 187, 3)) (h : Wp g d M Q (pc + 3) ls ((33, (o + 9)) :: st) σ) : Wp g d M Q pc ls ((18, o) :: st) σ := r_getf (ci := 8) (k := 5) (o := o) (by decide) (by decide) (by rw [hM]; exact lk_X12_187) hd h
theorem lk_X12_190 : Cond.fieldLink RX12 190 "StoneRaised$Town" "twin" "[I" ∈ lwG := lwc_1 100 (by decide +kernel) (by decide +kernel)
theorem gf_X12_190 {g : GT} {d : Nat} {M : MI} {Q : Int → Sg → Prop} {pc : Nat} {ls st : List AV} {σ : Sg} {o : Int} (hM : M.1.cls = RX12) (hd : decode M.2.1 pc = .ok (.getfield 190, 3)) (h : Wp g d M Q (pc + 3) ls ((33, (o + 10)) :: st) σ) : Wp g d M Q pc ls ((18, o) :: st) σ := r_getf (ci := 8) (k := 6) (o := o) (by decide) (by decide) (by rw [hM]; exact lk_X12_190) hd h
theorem lk_X12_197 : Cond.fieldLink RX12 197 "StoneRaised$World" "strong" "[I" ∈ lwG := lwc_2 47 (by decide +kernel) (by decide +kernel)
theorem gf_X12_197 {g : GT} {d : Nat} {M : MI} {Q : Int → Sg → Prop} {pc : Nat} {ls st : List AV} {σ : Sg} {o : Int} (hM : M.1.cls = RX12) (hd : decode M.2.1 pc = .ok (.getfield 197, 3)) (h : Wp g d M Q (pc + 3) ls ((33, (o + 2)) :: st) σ) : Wp g d M Q pc ls ((19, o) :: st) σ := r_getf (ci := 9) (k := 4) (o := o) (by decide) (by decide) (by rw [hM]; exact lk_X12_197) hd h
theorem lk_X12_212 : Cond.fieldLink RX12 212 "StoneRaised$Town" "wide" "[I" ∈ lwG := lwc_1 106 (by decide +kernel) (by decide +kernel)
theorem gf_X12_212 {g : GT} {d : Nat} {M : MI} {Q : Int → Sg → Prop} {pc : Nat} {ls st : List AV} {σ : Sg} {o : Int} (hM : M.1.cls = RX12) (hd : decode M.2.1 pc = .ok (.getfield 212, 3)) (h : Wp g d M Q (pc + 3) ls ((35, (o + 11)) :: st) σ) : Wp g d M Q pc ls ((18, o) :: st) σ := r_getf (ci := 8) (k := 7) (o := o) (by decide) (by decide) (by rw [hM]; exact lk_X12_212) hd h
theorem lk_X12_215 : Cond.fieldLink RX12 215 "StoneRaised$World" "height" "[I" ∈ lwG := lwc_2 59 (by decide +kernel) (by decide +kernel)
theorem gf_X12_215 {g : GT} {d : Nat} {M : MI} {Q : Int → Sg → Prop} {pc : Nat} {ls st : List AV} {σ : Sg} {o : Int} (hM : M.1.cls = RX12) (hd : decode M.2.1 pc = .ok (.getfield 215, 3)) (h : Wp g d M Q (pc + 3) ls ((40, (o + 5)) :: st) σ) : Wp g d M Q pc ls ((19, o) :: st) σ := r_getf (ci := 9) (k := 7) (o := o) (by decide) (by decide) (by rw [hM]; exact lk_X12_215) hd h
theorem lk_X12_218 : Cond.fieldLink RX12 218 "StoneRaised$Town" "high" "[I" ∈ lwG := lwc_1 111 (by decide +kernel) (by decide +kernel)
theorem gf_X12_218 {g : GT} {d : Nat} {M : MI} {Q : Int → Sg → Prop} {pc : Nat} {ls st : List AV} {σ : Sg} {o : Int} (hM : M.1.cls = RX12) (hd : decode M.2.1 pc = .ok (.getfield 218, 3)) (h : Wp g d M Q (pc + 3) ls ((35, (o + 12)) :: st) σ) : Wp g d M Q pc ls ((18, o) :: st) σ := r_getf (ci := 8) (k := 8) (o := o) (by decide) (by decide) (by rw [hM]; exact lk_X12_218) hd h
theorem lk_X12_224 : Cond.fieldLink RX12 224 "StoneRaised$World" "lies" "[I" ∈ lwG := lwc_2 56 (by decide +kernel) (by decide +kernel)
theorem gf_X12_224 {g : GT} {d : Nat} {M : MI} {Q : Int → Sg → Prop} {pc : Nat} {ls st : List AV} {σ : Sg} {o : Int} (hM : M.1.cls = RX12) (hd : decode M.2.1 pc = .ok (.getfield 224, 3)) (h : Wp g d M Q (pc + 3) ls ((39, (o + 4)) :: st) σ) : Wp g d M Q pc ls ((19, o) :: st) σ := r_getf (ci := 9) (k := 6) (o := o) (by decide) (by decide) (by rw [hM]; exact lk_X12_224) hd h
theorem lk_X12_235 : Cond.fieldLink RX12 235 "StoneRaised$Plans" "ahead" "LStoneRaised$World;" ∈ lwG := lwc_2 107 (by decide +kernel) (by decide +kernel)
theorem gf_X12_235 {g : GT} {d : Nat} {M : MI} {Q : Int → Sg → Prop} {pc : Nat} {ls st : List AV} {σ : Sg} (hM : M.1.cls = RX12) (hd : decode M.2.1 pc = .ok (.getfield 235, 3)) (h : Wp g d M Q (pc + 3) ls ((19, 58) :: st) σ) : Wp g d M Q pc ls ((14, 55) :: st) σ := r_getf (ci := 4) (k := 0) (o := 55) (by decide) (by decide) (by rw [hM]; exact lk_X12_235) hd h
theorem lk_X12_238 : Cond.fieldLink RX12 238 "StoneRaised$World" "fell" "I" ∈ lwG := lwc_2 68 (by decide +kernel) (by decide +kernel)
theorem gf_X12_238 {g : GT} {d : Nat} {M : MI} {Q : Int → Sg → Prop} {pc : Nat} {ls st : List AV} {σ : Sg} {o : Int} (hM : M.1.cls = RX12) (hd : decode M.2.1 pc = .ok (.getfield 238, 3)) (h : Wp g d M Q (pc + 3) ls ((0, (σ o 11)) :: st) σ) : Wp g d M Q pc ls ((19, o) :: st) σ := r_getf (ci := 9) (k := 11) (o := o) (by decide) (by decide) (by rw [hM]; exact lk_X12_238) hd h
theorem pf_X12_238 {g : GT} {d : Nat} {M : MI} {Q : Int → Sg → Prop} {pc : Nat} {ls st : List AV} {σ : Sg} {o : Int} {v : Int} (hM : M.1.cls = RX12) (hd : decode M.2.1 pc = .ok (.putfield 238, 3)) (h : Wp g d M Q (pc + 3) ls st (ups σ o 11 v)) : Wp g d M Q pc ls ((0, v) :: (19, o) :: st) σ := r_putf (ci := 9) (k := 11) (o := o) (by decide) (by decide) (by rw [hM]; exact lk_X12_238) rfl rfl rfl rfl hd h
theorem lk_X12_267 : Cond.fieldLink RX12 267 "StoneRaised$Plans" "most" "I" ∈ lwG := lwc_2 111 (by decide +kernel) (by decide +kernel)
theorem gf_X12_267 {g : GT} {d : Nat} {M : MI} {Q : Int → Sg → Prop} {pc : Nat} {ls st : List AV} {σ : Sg} (hM : M.1.cls = RX12) (hd : decode M.2.1 pc = .ok (.getfield 267, 3)) (h : Wp g d M Q (pc + 3) ls ((0, (σ 55 2)) :: st) σ) : Wp g d M Q pc ls ((14, 55) :: st) σ := r_getf (ci := 4) (k := 2) (o := 55) (by decide) (by decide) (by rw [hM]; exact lk_X12_267) hd h
theorem pf_X12_267 {g : GT} {d : Nat} {M : MI} {Q : Int → Sg → Prop} {pc : Nat} {ls st : List AV} {σ : Sg} {v : Int} (hM : M.1.cls = RX12) (hd : decode M.2.1 pc = .ok (.putfield 267, 3)) (h : Wp g d M Q (pc + 3) ls st (ups σ 55 2 v)) : Wp g d M Q pc ls ((0, v) :: (14, 55) :: st) σ := r_putf (ci := 4) (k := 2) (o := 55) (by decide) (by decide) (by rw [hM]; exact lk_X12_267) rfl rfl rfl rfl hd h
theorem lk_X12_270 : Cond.fieldLink RX12 270 "StoneRaised$Plans" "best" "[I" ∈ lwG := lwc_2 109 (by decide +kernel) (by decide +kernel)
theorem gf_X12_270 {g : GT} {d : Nat} {M : MI} {Q : Int → Sg → Prop} {pc : Nat} {ls st : List AV} {σ : Sg} (hM : M.1.cls = RX12) (hd : decode M.2.1 pc = .ok (.getfield 270, 3)) (h : Wp g d M Q (pc + 3) ls ((34, 56) :: st) σ) : Wp g d M Q pc ls ((14, 55) :: st) σ := r_getf (ci := 4) (k := 1) (o := 55) (by decide) (by decide) (by rw [hM]; exact lk_X12_270) hd h
theorem lk_X12_277 : Cond.fieldLink RX12 277 "StoneRaised$Seams" "homes" "I" ∈ lwG := lwc_2 150 (by decide +kernel) (by decide +kernel)
theorem gf_X12_277 {g : GT} {d : Nat} {M : MI} {Q : Int → Sg → Prop} {pc : Nat} {ls st : List AV} {σ : Sg} (hM : M.1.cls = RX12) (hd : decode M.2.1 pc = .ok (.getfield 277, 3)) (h : Wp g d M Q (pc + 3) ls ((0, (σ 87 0)) :: st) σ) : Wp g d M Q pc ls ((16, 87) :: st) σ := r_getf (ci := 6) (k := 0) (o := 87) (by decide) (by decide) (by rw [hM]; exact lk_X12_277) hd h
theorem pf_X12_277 {g : GT} {d : Nat} {M : MI} {Q : Int → Sg → Prop} {pc : Nat} {ls st : List AV} {σ : Sg} {v : Int} (hM : M.1.cls = RX12) (hd : decode M.2.1 pc = .ok (.putfield 277, 3)) (h : Wp g d M Q (pc + 3) ls st (ups σ 87 0 v)) : Wp g d M Q pc ls ((0, v) :: (16, 87) :: st) σ := r_putf (ci := 6) (k := 0) (o := 87) (by decide) (by decide) (by rw [hM]; exact lk_X12_277) rfl rfl rfl rfl hd h
theorem lk_X12_295 : Cond.fieldLink RX12 295 "StoneRaised$World" "built" "I" ∈ lwG := lwc_2 70 (by decide +kernel) (by decide +kernel)
theorem gf_X12_295 {g : GT} {d : Nat} {M : MI} {Q : Int → Sg → Prop} {pc : Nat} {ls st : List AV} {σ : Sg} {o : Int} (hM : M.1.cls = RX12) (hd : decode M.2.1 pc = .ok (.getfield 295, 3)) (h : Wp g d M Q (pc + 3) ls ((0, (σ o 12)) :: st) σ) : Wp g d M Q pc ls ((19, o) :: st) σ := r_getf (ci := 9) (k := 12) (o := o) (by decide) (by decide) (by rw [hM]; exact lk_X12_295) hd h
theorem pf_X12_295 {g : GT} {d : Nat} {M : MI} {Q : Int → Sg → Prop} {pc : Nat} {ls st : List AV} {σ : Sg} {o : Int} {v : Int} (hM : M.1.cls = RX12) (hd : decode M.2.1 pc = .ok (.putfield 295, 3)) (h : Wp g d M Q (pc + 3) ls st (ups σ o 12 v)) : Wp g d M Q pc ls ((0, v) :: (19, o) :: st) σ := r_putf (ci := 9) (k := 12) (o := o) (by decide) (by decide) (by rw [hM]; exact lk_X12_295) rfl rfl rfl rfl hd h
theorem lk_X12_305 : Cond.fieldLink RX12 305 "StoneRaised$Town" "frost" "I" ∈ lwG := lwc_1 139 (by decide +kernel) (by decide +kernel)
theorem gf_X12_305 {g : GT} {d : Nat} {M : MI} {Q : Int → Sg → Prop} {pc : Nat} {ls st : List AV} {σ : Sg} {o : Int} (hM : M.1.cls = RX12) (hd : decode M.2.1 pc = .ok (.getfield 305, 3)) (h : Wp g d M Q (pc + 3) ls ((0, (σ o 17)) :: st) σ) : Wp g d M Q pc ls ((18, o) :: st) σ := r_getf (ci := 8) (k := 17) (o := o) (by decide) (by decide) (by rw [hM]; exact lk_X12_305) hd h
theorem pf_X12_305 {g : GT} {d : Nat} {M : MI} {Q : Int → Sg → Prop} {pc : Nat} {ls st : List AV} {σ : Sg} {o : Int} {v : Int} (hM : M.1.cls = RX12) (hd : decode M.2.1 pc = .ok (.putfield 305, 3)) (h : Wp g d M Q (pc + 3) ls st (ups σ o 17 v)) : Wp g d M Q pc ls ((0, v) :: (18, o) :: st) σ := r_putf (ci := 8) (k := 17) (o := o) (by decide) (by decide) (by rw [hM]; exact lk_X12_305) rfl rfl rfl rfl hd h
theorem lk_X12_315 : Cond.fieldLink RX12 315 "StoneRaised$World" "kept" "[I" ∈ lwG := lwc_2 62 (by decide +kernel) (by decide +kernel)
theorem gf_X12_315 {g : GT} {d : Nat} {M : MI} {Q : Int → Sg → Prop} {pc : Nat} {ls st : List AV} {σ : Sg} {o : Int} (hM : M.1.cls = RX12) (hd : decode M.2.1 pc = .ok (.getfield 315, 3)) (h : Wp g d M Q (pc + 3) ls ((41, (o + 6)) :: st) σ) : Wp g d M Q pc ls ((19, o) :: st) σ := r_getf (ci := 9) (k := 8) (o := o) (by decide) (by decide) (by rw [hM]; exact lk_X12_315) hd h
theorem lk_X12_321 : Cond.fieldLink RX12 321 "StoneRaised$Image" "size" "I" ∈ lwG := lwc_2 169 (by decide +kernel) (by decide +kernel)
theorem gf_X12_321 {g : GT} {d : Nat} {M : MI} {Q : Int → Sg → Prop} {pc : Nat} {ls st : List AV} {σ : Sg} (hM : M.1.cls = RX12) (hd : decode M.2.1 pc = .ok (.getfield 321, 3)) (h : Wp g d M Q (pc + 3) ls ((0, (σ 89 1)) :: st) σ) : Wp g d M Q pc ls ((12, 89) :: st) σ := r_getf (ci := 2) (k := 1) (o := 89) (by decide) (by decide) (by rw [hM]; exact lk_X12_321) hd h
theorem pf_X12_321 {g : GT} {d : Nat} {M : MI} {Q : Int → Sg → Prop} {pc : Nat} {ls st : List AV} {σ : Sg} {v : Int} (hM : M.1.cls = RX12) (hd : decode M.2.1 pc = .ok (.putfield 321, 3)) (h : Wp g d M Q (pc + 3) ls st (ups σ 89 1 v)) : Wp g d M Q pc ls ((0, v) :: (12, 89) :: st) σ := r_putf (ci := 2) (k := 1) (o := 89) (by decide) (by decide) (by rw [hM]; exact lk_X12_321) rfl rfl rfl rfl hd h
theorem lk_X12_322 : Cond.fieldLink RX12 322 "StoneRaised$Image" "bytes" "[I" ∈ lwG := lwc_2 167 (by decide +kernel) (by decide +kernel)
theorem gf_X12_322 {g : GT} {d : Nat} {M : MI} {Q : Int → Sg → Prop} {pc : Nat} {ls st : List AV} {σ : Sg} (hM : M.1.cls = RX12) (hd : decode M.2.1 pc = .ok (.getfield 322, 3)) (h : Wp g d M Q (pc + 3) ls ((44, 90) :: st) σ) : Wp g d M Q pc ls ((12, 89) :: st) σ := r_getf (ci := 2) (k := 0) (o := 89) (by decide) (by decide) (by rw [hM]; exact lk_X12_322) hd h
theorem lk_X12_332 : Cond.fieldLink RX12 332 "StoneRaised$World" "place" "[I" ∈ lwG := lwc_2 52 (by decide +kernel) (by decide +kernel)
theorem gf_X12_332 {g : GT} {d : Nat} {M : MI} {Q : Int → Sg → Prop} {pc : Nat} {ls st : List AV} {σ : Sg} {o : Int} (hM : M.1.cls = RX12) (hd : decode M.2.1 pc = .ok (.getfield 332, 3)) (h : Wp g d M Q (pc + 3) ls ((33, (o + 3)) :: st) σ) : Wp g d M Q pc ls ((19, o) :: st) σ := r_getf (ci := 9) (k := 5) (o := o) (by decide) (by decide) (by rw [hM]; exact lk_X12_332) hd h
theorem lk_X13_7 : Cond.fieldLink RX13 7 "StoneRaisedModel" "tape" "[I" ∈ lwG := lwc_6 19 (by decide +kernel) (by decide +kernel)
theorem gf_X13_7 {g : GT} {d : Nat} {M : MI} {Q : Int → Sg → Prop} {pc : Nat} {ls st : List AV} {σ : Sg} (hM : M.1.cls = RX13) (hd : decode M.2.1 pc = .ok (.getfield 7, 3)) (h : Wp g d M Q (pc + 3) ls ((45, 93) :: st) σ) : Wp g d M Q pc ls ((21, 92) :: st) σ := r_getf (ci := 11) (k := 0) (o := 92) (by decide) (by decide) (by rw [hM]; exact lk_X13_7) hd h
theorem lk_X13_13 : Cond.fieldLink RX13 13 "StoneRaisedModel" "taped" "I" ∈ lwG := lwc_6 20 (by decide +kernel) (by decide +kernel)
theorem gf_X13_13 {g : GT} {d : Nat} {M : MI} {Q : Int → Sg → Prop} {pc : Nat} {ls st : List AV} {σ : Sg} (hM : M.1.cls = RX13) (hd : decode M.2.1 pc = .ok (.getfield 13, 3)) (h : Wp g d M Q (pc + 3) ls ((0, (σ 92 1)) :: st) σ) : Wp g d M Q pc ls ((21, 92) :: st) σ := r_getf (ci := 11) (k := 1) (o := 92) (by decide) (by decide) (by rw [hM]; exact lk_X13_13) hd h
theorem pf_X13_13 {g : GT} {d : Nat} {M : MI} {Q : Int → Sg → Prop} {pc : Nat} {ls st : List AV} {σ : Sg} {v : Int} (hM : M.1.cls = RX13) (hd : decode M.2.1 pc = .ok (.putfield 13, 3)) (h : Wp g d M Q (pc + 3) ls st (ups σ 92 1 v)) : Wp g d M Q pc ls ((0, v) :: (21, 92) :: st) σ := r_putf (ci := 11) (k := 1) (o := 92) (by decide) (by decide) (by rw [hM]; exact lk_X13_13) rfl rfl rfl rfl hd h
theorem lk_X13_17 : Cond.fieldLink RX13 17 "StoneRaisedModel" "size" "I" ∈ lwG := lwc_6 21 (by decide +kernel) (by decide +kernel)
theorem gf_X13_17 {g : GT} {d : Nat} {M : MI} {Q : Int → Sg → Prop} {pc : Nat} {ls st : List AV} {σ : Sg} (hM : M.1.cls = RX13) (hd : decode M.2.1 pc = .ok (.getfield 17, 3)) (h : Wp g d M Q (pc + 3) ls ((0, (σ 92 2)) :: st) σ) : Wp g d M Q pc ls ((21, 92) :: st) σ := r_getf (ci := 11) (k := 2) (o := 92) (by decide) (by decide) (by rw [hM]; exact lk_X13_17) hd h
theorem pf_X13_17 {g : GT} {d : Nat} {M : MI} {Q : Int → Sg → Prop} {pc : Nat} {ls st : List AV} {σ : Sg} {v : Int} (hM : M.1.cls = RX13) (hd : decode M.2.1 pc = .ok (.putfield 17, 3)) (h : Wp g d M Q (pc + 3) ls st (ups σ 92 2 v)) : Wp g d M Q pc ls ((0, v) :: (21, 92) :: st) σ := r_putf (ci := 11) (k := 2) (o := 92) (by decide) (by decide) (by rw [hM]; exact lk_X13_17) rfl rfl rfl rfl hd h
theorem lk_X13_20 : Cond.fieldLink RX13 20 "StoneRaisedModel" "sign" "I" ∈ lwG := lwc_6 22 (by decide +kernel) (by decide +kernel)
theorem gf_X13_20 {g : GT} {d : Nat} {M : MI} {Q : Int → Sg → Prop} {pc : Nat} {ls st : List AV} {σ : Sg} (hM : M.1.cls = RX13) (hd : decode M.2.1 pc = .ok (.getfield 20, 3)) (h : Wp g d M Q (pc + 3) ls ((0, (σ 92 3)) :: st) σ) : Wp g d M Q pc ls ((21, 92) :: st) σ := r_getf (ci := 11) (k := 3) (o := 92) (by decide) (by decide) (by rw [hM]; exact lk_X13_20) hd h
theorem pf_X13_20 {g : GT} {d : Nat} {M : MI} {Q : Int → Sg → Prop} {pc : Nat} {ls st : List AV} {σ : Sg} {v : Int} (hM : M.1.cls = RX13) (hd : decode M.2.1 pc = .ok (.putfield 20, 3)) (h : Wp g d M Q (pc + 3) ls st (ups σ 92 3 v)) : Wp g d M Q pc ls ((0, v) :: (21, 92) :: st) σ := r_putf (ci := 11) (k := 3) (o := 92) (by decide) (by decide) (by rw [hM]; exact lk_X13_20) rfl rfl rfl rfl hd h
theorem lk_X13_23 : Cond.fieldLink RX13 23 "StoneRaisedModel" "signAt" "I" ∈ lwG := lwc_6 23 (by decide +kernel) (by decide +kernel)
theorem gf_X13_23 {g : GT} {d : Nat} {M : MI} {Q : Int → Sg → Prop} {pc : Nat} {ls st : List AV} {σ : Sg} (hM : M.1.cls = RX13) (hd : decode M.2.1 pc = .ok (.getfield 23, 3)) (h : Wp g d M Q (pc + 3) ls ((0, (σ 92 4)) :: st) σ) : Wp g d M Q pc ls ((21, 92) :: st) σ := r_getf (ci := 11) (k := 4) (o := 92) (by decide) (by decide) (by rw [hM]; exact lk_X13_23) hd h
theorem pf_X13_23 {g : GT} {d : Nat} {M : MI} {Q : Int → Sg → Prop} {pc : Nat} {ls st : List AV} {σ : Sg} {v : Int} (hM : M.1.cls = RX13) (hd : decode M.2.1 pc = .ok (.putfield 23, 3)) (h : Wp g d M Q (pc + 3) ls st (ups σ 92 4 v)) : Wp g d M Q pc ls ((0, v) :: (21, 92) :: st) σ := r_putf (ci := 11) (k := 4) (o := 92) (by decide) (by decide) (by rw [hM]; exact lk_X13_23) rfl rfl rfl rfl hd h
theorem lk_X13_26 : Cond.fieldLink RX13 26 "StoneRaisedModel" "signEnd" "I" ∈ lwG := lwc_6 24 (by decide +kernel) (by decide +kernel)
theorem gf_X13_26 {g : GT} {d : Nat} {M : MI} {Q : Int → Sg → Prop} {pc : Nat} {ls st : List AV} {σ : Sg} (hM : M.1.cls = RX13) (hd : decode M.2.1 pc = .ok (.getfield 26, 3)) (h : Wp g d M Q (pc + 3) ls ((0, (σ 92 5)) :: st) σ) : Wp g d M Q pc ls ((21, 92) :: st) σ := r_getf (ci := 11) (k := 5) (o := 92) (by decide) (by decide) (by rw [hM]; exact lk_X13_26) hd h
theorem pf_X13_26 {g : GT} {d : Nat} {M : MI} {Q : Int → Sg → Prop} {pc : Nat} {ls st : List AV} {σ : Sg} {v : Int} (hM : M.1.cls = RX13) (hd : decode M.2.1 pc = .ok (.putfield 26, 3)) (h : Wp g d M Q (pc + 3) ls st (ups σ 92 5 v)) : Wp g d M Q pc ls ((0, v) :: (21, 92) :: st) σ := r_putf (ci := 11) (k := 5) (o := 92) (by decide) (by decide) (by rw [hM]; exact lk_X13_26) rfl rfl rfl rfl hd h
theorem lk_X13_29 : Cond.fieldLink RX13 29 "StoneRaisedModel" "value" "I" ∈ lwG := lwc_6 25 (by decide +kernel) (by decide +kernel)
theorem gf_X13_29 {g : GT} {d : Nat} {M : MI} {Q : Int → Sg → Prop} {pc : Nat} {ls st : List AV} {σ : Sg} (hM : M.1.cls = RX13) (hd : decode M.2.1 pc = .ok (.getfield 29, 3)) (h : Wp g d M Q (pc + 3) ls ((0, (σ 92 6)) :: st) σ) : Wp g d M Q pc ls ((21, 92) :: st) σ := r_getf (ci := 11) (k := 6) (o := 92) (by decide) (by decide) (by rw [hM]; exact lk_X13_29) hd h
theorem pf_X13_29 {g : GT} {d : Nat} {M : MI} {Q : Int → Sg → Prop} {pc : Nat} {ls st : List AV} {σ : Sg} {v : Int} (hM : M.1.cls = RX13) (hd : decode M.2.1 pc = .ok (.putfield 29, 3)) (h : Wp g d M Q (pc + 3) ls st (ups σ 92 6 v)) : Wp g d M Q pc ls ((0, v) :: (21, 92) :: st) σ := r_putf (ci := 11) (k := 6) (o := 92) (by decide) (by decide) (by rw [hM]; exact lk_X13_29) rfl rfl rfl rfl hd h
theorem lk_X13_32 : Cond.fieldLink RX13 32 "StoneRaisedModel" "word" "J" ∈ lwG := lwc_6 26 (by decide +kernel) (by decide +kernel)
theorem gf_X13_32 {g : GT} {d : Nat} {M : MI} {Q : Int → Sg → Prop} {pc : Nat} {ls st : List AV} {σ : Sg} (hM : M.1.cls = RX13) (hd : decode M.2.1 pc = .ok (.getfield 32, 3)) (h : Wp g d M Q (pc + 3) ls ((2, (σ 92 7)) :: st) σ) : Wp g d M Q pc ls ((21, 92) :: st) σ := r_getf (ci := 11) (k := 7) (o := 92) (by decide) (by decide) (by rw [hM]; exact lk_X13_32) hd h
theorem pf_X13_32 {g : GT} {d : Nat} {M : MI} {Q : Int → Sg → Prop} {pc : Nat} {ls st : List AV} {σ : Sg} {v : Int} (hM : M.1.cls = RX13) (hd : decode M.2.1 pc = .ok (.putfield 32, 3)) (h : Wp g d M Q (pc + 3) ls st (ups σ 92 7 v)) : Wp g d M Q pc ls ((2, v) :: (21, 92) :: st) σ := r_putf (ci := 11) (k := 7) (o := 92) (by decide) (by decide) (by rw [hM]; exact lk_X13_32) rfl rfl rfl rfl hd h
theorem lk_X13_36 : Cond.fieldLink RX13 36 "StoneRaisedModel" "faultKind" "I" ∈ lwG := lwc_6 27 (by decide +kernel) (by decide +kernel)
theorem gf_X13_36 {g : GT} {d : Nat} {M : MI} {Q : Int → Sg → Prop} {pc : Nat} {ls st : List AV} {σ : Sg} (hM : M.1.cls = RX13) (hd : decode M.2.1 pc = .ok (.getfield 36, 3)) (h : Wp g d M Q (pc + 3) ls ((0, (σ 92 8)) :: st) σ) : Wp g d M Q pc ls ((21, 92) :: st) σ := r_getf (ci := 11) (k := 8) (o := 92) (by decide) (by decide) (by rw [hM]; exact lk_X13_36) hd h
theorem pf_X13_36 {g : GT} {d : Nat} {M : MI} {Q : Int → Sg → Prop} {pc : Nat} {ls st : List AV} {σ : Sg} {v : Int} (hM : M.1.cls = RX13) (hd : decode M.2.1 pc = .ok (.putfield 36, 3)) (h : Wp g d M Q (pc + 3) ls st (ups σ 92 8 v)) : Wp g d M Q pc ls ((0, v) :: (21, 92) :: st) σ := r_putf (ci := 11) (k := 8) (o := 92) (by decide) (by decide) (by rw [hM]; exact lk_X13_36) rfl rfl rfl rfl hd h
theorem lk_X13_39 : Cond.fieldLink RX13 39 "StoneRaisedModel" "faultPlace" "I" ∈ lwG := lwc_6 28 (by decide +kernel) (by decide +kernel)
theorem gf_X13_39 {g : GT} {d : Nat} {M : MI} {Q : Int → Sg → Prop} {pc : Nat} {ls st : List AV} {σ : Sg} (hM : M.1.cls = RX13) (hd : decode M.2.1 pc = .ok (.getfield 39, 3)) (h : Wp g d M Q (pc + 3) ls ((0, (σ 92 9)) :: st) σ) : Wp g d M Q pc ls ((21, 92) :: st) σ := r_getf (ci := 11) (k := 9) (o := 92) (by decide) (by decide) (by rw [hM]; exact lk_X13_39) hd h
theorem pf_X13_39 {g : GT} {d : Nat} {M : MI} {Q : Int → Sg → Prop} {pc : Nat} {ls st : List AV} {σ : Sg} {v : Int} (hM : M.1.cls = RX13) (hd : decode M.2.1 pc = .ok (.putfield 39, 3)) (h : Wp g d M Q (pc + 3) ls st (ups σ 92 9 v)) : Wp g d M Q pc ls ((0, v) :: (21, 92) :: st) σ := r_putf (ci := 11) (k := 9) (o := 92) (by decide) (by decide) (by rw [hM]; exact lk_X13_39) rfl rfl rfl rfl hd h
theorem lk_X13_42 : Cond.fieldLink RX13 42 "StoneRaisedModel" "toldKind" "I" ∈ lwG := lwc_6 29 (by decide +kernel) (by decide +kernel)
theorem gf_X13_42 {g : GT} {d : Nat} {M : MI} {Q : Int → Sg → Prop} {pc : Nat} {ls st : List AV} {σ : Sg} (hM : M.1.cls = RX13) (hd : decode M.2.1 pc = .ok (.getfield 42, 3)) (h : Wp g d M Q (pc + 3) ls ((0, (σ 92 10)) :: st) σ) : Wp g d M Q pc ls ((21, 92) :: st) σ := r_getf (ci := 11) (k := 10) (o := 92) (by decide) (by decide) (by rw [hM]; exact lk_X13_42) hd h
theorem pf_X13_42 {g : GT} {d : Nat} {M : MI} {Q : Int → Sg → Prop} {pc : Nat} {ls st : List AV} {σ : Sg} {v : Int} (hM : M.1.cls = RX13) (hd : decode M.2.1 pc = .ok (.putfield 42, 3)) (h : Wp g d M Q (pc + 3) ls st (ups σ 92 10 v)) : Wp g d M Q pc ls ((0, v) :: (21, 92) :: st) σ := r_putf (ci := 11) (k := 10) (o := 92) (by decide) (by decide) (by rw [hM]; exact lk_X13_42) rfl rfl rfl rfl hd h
theorem lk_X13_45 : Cond.fieldLink RX13 45 "StoneRaisedModel" "toldPlace" "I" ∈ lwG := lwc_6 30 (by decide +kernel) (by decide +kernel)
theorem gf_X13_45 {g : GT} {d : Nat} {M : MI} {Q : Int → Sg → Prop} {pc : Nat} {ls st : List AV} {σ : Sg} (hM : M.1.cls = RX13) (hd : decode M.2.1 pc = .ok (.getfield 45, 3)) (h : Wp g d M Q (pc + 3) ls ((0, (σ 92 11)) :: st) σ) : Wp g d M Q pc ls ((21, 92) :: st) σ := r_getf (ci := 11) (k := 11) (o := 92) (by decide) (by decide) (by rw [hM]; exact lk_X13_45) hd h
theorem pf_X13_45 {g : GT} {d : Nat} {M : MI} {Q : Int → Sg → Prop} {pc : Nat} {ls st : List AV} {σ : Sg} {v : Int} (hM : M.1.cls = RX13) (hd : decode M.2.1 pc = .ok (.putfield 45, 3)) (h : Wp g d M Q (pc + 3) ls st (ups σ 92 11 v)) : Wp g d M Q pc ls ((0, v) :: (21, 92) :: st) σ := r_putf (ci := 11) (k := 11) (o := 92) (by decide) (by decide) (by rw [hM]; exact lk_X13_45) rfl rfl rfl rfl hd h
theorem lk_X13_48 : Cond.fieldLink RX13 48 "StoneRaisedModel" "lexAt" "I" ∈ lwG := lwc_6 31 (by decide +kernel) (by decide +kernel)
theorem gf_X13_48 {g : GT} {d : Nat} {M : MI} {Q : Int → Sg → Prop} {pc : Nat} {ls st : List AV} {σ : Sg} (hM : M.1.cls = RX13) (hd : decode M.2.1 pc = .ok (.getfield 48, 3)) (h : Wp g d M Q (pc + 3) ls ((0, (σ 92 12)) :: st) σ) : Wp g d M Q pc ls ((21, 92) :: st) σ := r_getf (ci := 11) (k := 12) (o := 92) (by decide) (by decide) (by rw [hM]; exact lk_X13_48) hd h
theorem pf_X13_48 {g : GT} {d : Nat} {M : MI} {Q : Int → Sg → Prop} {pc : Nat} {ls st : List AV} {σ : Sg} {v : Int} (hM : M.1.cls = RX13) (hd : decode M.2.1 pc = .ok (.putfield 48, 3)) (h : Wp g d M Q (pc + 3) ls st (ups σ 92 12 v)) : Wp g d M Q pc ls ((0, v) :: (21, 92) :: st) σ := r_putf (ci := 11) (k := 12) (o := 92) (by decide) (by decide) (by rw [hM]; exact lk_X13_48) rfl rfl rfl rfl hd h
theorem lk_X13_51 : Cond.fieldLink RX13 51 "StoneRaisedModel" "bank" "I" ∈ lwG := lwc_6 32 (by decide +kernel) (by decide +kernel)
theorem gf_X13_51 {g : GT} {d : Nat} {M : MI} {Q : Int → Sg → Prop} {pc : Nat} {ls st : List AV} {σ : Sg} (hM : M.1.cls = RX13) (hd : decode M.2.1 pc = .ok (.getfield 51, 3)) (h : Wp g d M Q (pc + 3) ls ((0, (σ 92 13)) :: st) σ) : Wp g d M Q pc ls ((21, 92) :: st) σ := r_getf (ci := 11) (k := 13) (o := 92) (by decide) (by decide) (by rw [hM]; exact lk_X13_51) hd h
theorem pf_X13_51 {g : GT} {d : Nat} {M : MI} {Q : Int → Sg → Prop} {pc : Nat} {ls st : List AV} {σ : Sg} {v : Int} (hM : M.1.cls = RX13) (hd : decode M.2.1 pc = .ok (.putfield 51, 3)) (h : Wp g d M Q (pc + 3) ls st (ups σ 92 13 v)) : Wp g d M Q pc ls ((0, v) :: (21, 92) :: st) σ := r_putf (ci := 11) (k := 13) (o := 92) (by decide) (by decide) (by rw [hM]; exact lk_X13_51) rfl rfl rfl rfl hd h
theorem lk_X13_54 : Cond.fieldLink RX13 54 "StoneRaisedModel" "homes" "[I" ∈ lwG := lwc_6 33 (by decide +kernel) (by decide +kernel)
theorem gf_X13_54 {g : GT} {d : Nat} {M : MI} {Q : Int → Sg → Prop} {pc : Nat} {ls st : List AV} {σ : Sg} (hM : M.1.cls = RX13) (hd : decode M.2.1 pc = .ok (.getfield 54, 3)) (h : Wp g d M Q (pc + 3) ls ((46, 94) :: st) σ) : Wp g d M Q pc ls ((21, 92) :: st) σ := r_getf (ci := 11) (k := 14) (o := 92) (by decide) (by decide) (by rw [hM]; exact lk_X13_54) hd h
theorem lk_X13_57 : Cond.fieldLink RX13 57 "StoneRaisedModel" "talkOf" "[I" ∈ lwG := lwc_6 34 (by decide +kernel) (by decide +kernel)
theorem gf_X13_57 {g : GT} {d : Nat} {M : MI} {Q : Int → Sg → Prop} {pc : Nat} {ls st : List AV} {σ : Sg} (hM : M.1.cls = RX13) (hd : decode M.2.1 pc = .ok (.getfield 57, 3)) (h : Wp g d M Q (pc + 3) ls ((47, 95) :: st) σ) : Wp g d M Q pc ls ((21, 92) :: st) σ := r_getf (ci := 11) (k := 15) (o := 92) (by decide) (by decide) (by rw [hM]; exact lk_X13_57) hd h
theorem lk_X13_60 : Cond.fieldLink RX13 60 "StoneRaisedModel" "warmOf" "[I" ∈ lwG := lwc_6 35 (by decide +kernel) (by decide +kernel)
theorem gf_X13_60 {g : GT} {d : Nat} {M : MI} {Q : Int → Sg → Prop} {pc : Nat} {ls st : List AV} {σ : Sg} (hM : M.1.cls = RX13) (hd : decode M.2.1 pc = .ok (.getfield 60, 3)) (h : Wp g d M Q (pc + 3) ls ((47, 96) :: st) σ) : Wp g d M Q pc ls ((21, 92) :: st) σ := r_getf (ci := 11) (k := 16) (o := 92) (by decide) (by decide) (by rw [hM]; exact lk_X13_60) hd h
theorem lk_X13_63 : Cond.fieldLink RX13 63 "StoneRaisedModel" "children" "[I" ∈ lwG := lwc_6 36 (by decide +kernel) (by decide +kernel)
theorem gf_X13_63 {g : GT} {d : Nat} {M : MI} {Q : Int → Sg → Prop} {pc : Nat} {ls st : List AV} {σ : Sg} (hM : M.1.cls = RX13) (hd : decode M.2.1 pc = .ok (.getfield 63, 3)) (h : Wp g d M Q (pc + 3) ls ((46, 97) :: st) σ) : Wp g d M Q pc ls ((21, 92) :: st) σ := r_getf (ci := 11) (k := 17) (o := 92) (by decide) (by decide) (by rw [hM]; exact lk_X13_63) hd h
theorem lk_X13_66 : Cond.fieldLink RX13 66 "StoneRaisedModel" "homeTold" "[I" ∈ lwG := lwc_6 37 (by decide +kernel) (by decide +kernel)
theorem gf_X13_66 {g : GT} {d : Nat} {M : MI} {Q : Int → Sg → Prop} {pc : Nat} {ls st : List AV} {σ : Sg} (hM : M.1.cls = RX13) (hd : decode M.2.1 pc = .ok (.getfield 66, 3)) (h : Wp g d M Q (pc + 3) ls ((40, 98) :: st) σ) : Wp g d M Q pc ls ((21, 92) :: st) σ := r_getf (ci := 11) (k := 18) (o := 92) (by decide) (by decide) (by rw [hM]; exact lk_X13_66) hd h
theorem lk_X13_69 : Cond.fieldLink RX13 69 "StoneRaisedModel" "bornOf" "[I" ∈ lwG := lwc_6 38 (by decide +kernel) (by decide +kernel)
theorem gf_X13_69 {g : GT} {d : Nat} {M : MI} {Q : Int → Sg → Prop} {pc : Nat} {ls st : List AV} {σ : Sg} (hM : M.1.cls = RX13) (hd : decode M.2.1 pc = .ok (.getfield 69, 3)) (h : Wp g d M Q (pc + 3) ls ((40, 99) :: st) σ) : Wp g d M Q pc ls ((21, 92) :: st) σ := r_getf (ci := 11) (k := 19) (o := 92) (by decide) (by decide) (by rw [hM]; exact lk_X13_69) hd h
theorem lk_X13_72 : Cond.fieldLink RX13 72 "StoneRaisedModel" "twinOf" "[I" ∈ lwG := lwc_6 39 (by decide +kernel) (by decide +kernel)
theorem gf_X13_72 {g : GT} {d : Nat} {M : MI} {Q : Int → Sg → Prop} {pc : Nat} {ls st : List AV} {σ : Sg} (hM : M.1.cls = RX13) (hd : decode M.2.1 pc = .ok (.getfield 72, 3)) (h : Wp g d M Q (pc + 3) ls ((40, 100) :: st) σ) : Wp g d M Q pc ls ((21, 92) :: st) σ := r_getf (ci := 11) (k := 20) (o := 92) (by decide) (by decide) (by rw [hM]; exact lk_X13_72) hd h
theorem lk_X13_75 : Cond.fieldLink RX13 75 "StoneRaisedModel" "feuds" "[I" ∈ lwG := lwc_6 40 (by decide +kernel) (by decide +kernel)
theorem gf_X13_75 {g : GT} {d : Nat} {M : MI} {Q : Int → Sg → Prop} {pc : Nat} {ls st : List AV} {σ : Sg} (hM : M.1.cls = RX13) (hd : decode M.2.1 pc = .ok (.getfield 75, 3)) (h : Wp g d M Q (pc + 3) ls ((46, 101) :: st) σ) : Wp g d M Q pc ls ((21, 92) :: st) σ := r_getf (ci := 11) (k := 21) (o := 92) (by decide) (by decide) (by rw [hM]; exact lk_X13_75) hd h
theorem lk_X13_78 : Cond.fieldLink RX13 78 "StoneRaisedModel" "feudOne" "[I" ∈ lwG := lwc_6 41 (by decide +kernel) (by decide +kernel)
theorem gf_X13_78 {g : GT} {d : Nat} {M : MI} {Q : Int → Sg → Prop} {pc : Nat} {ls st : List AV} {σ : Sg} (hM : M.1.cls = RX13) (hd : decode M.2.1 pc = .ok (.getfield 78, 3)) (h : Wp g d M Q (pc + 3) ls ((48, 102) :: st) σ) : Wp g d M Q pc ls ((21, 92) :: st) σ := r_getf (ci := 11) (k := 22) (o := 92) (by decide) (by decide) (by rw [hM]; exact lk_X13_78) hd h
theorem lk_X13_81 : Cond.fieldLink RX13 81 "StoneRaisedModel" "feudOther" "[I" ∈ lwG := lwc_6 42 (by decide +kernel) (by decide +kernel)
theorem gf_X13_81 {g : GT} {d : Nat} {M : MI} {Q : Int → Sg → Prop} {pc : Nat} {ls st : List AV} {σ : Sg} (hM : M.1.cls = RX13) (hd : decode M.2.1 pc = .ok (.getfield 81, 3)) (h : Wp g d M Q (pc + 3) ls ((48, 103) :: st) σ) : Wp g d M Q pc ls ((21, 92) :: st) σ := r_getf (ci := 11) (k := 23) (o := 92) (by decide) (by decide) (by rw [hM]; exact lk_X13_81) hd h
theorem lk_X13_84 : Cond.fieldLink RX13 84 "StoneRaisedModel" "walls" "[I" ∈ lwG := lwc_6 43 (by decide +kernel) (by decide +kernel)
theorem gf_X13_84 {g : GT} {d : Nat} {M : MI} {Q : Int → Sg → Prop} {pc : Nat} {ls st : List AV} {σ : Sg} (hM : M.1.cls = RX13) (hd : decode M.2.1 pc = .ok (.getfield 84, 3)) (h : Wp g d M Q (pc + 3) ls ((46, 104) :: st) σ) : Wp g d M Q pc ls ((21, 92) :: st) σ := r_getf (ci := 11) (k := 24) (o := 92) (by decide) (by decide) (by rw [hM]; exact lk_X13_84) hd h
theorem lk_X13_87 : Cond.fieldLink RX13 87 "StoneRaisedModel" "wideOf" "[I" ∈ lwG := lwc_6 44 (by decide +kernel) (by decide +kernel)
theorem gf_X13_87 {g : GT} {d : Nat} {M : MI} {Q : Int → Sg → Prop} {pc : Nat} {ls st : List AV} {σ : Sg} (hM : M.1.cls = RX13) (hd : decode M.2.1 pc = .ok (.getfield 87, 3)) (h : Wp g d M Q (pc + 3) ls ((33, 105) :: st) σ) : Wp g d M Q pc ls ((21, 92) :: st) σ := r_getf (ci := 11) (k := 25) (o := 92) (by decide) (by decide) (by rw [hM]; exact lk_X13_87) hd h
theorem lk_X13_90 : Cond.fieldLink RX13 90 "StoneRaisedModel" "highOf" "[I" ∈ lwG := lwc_6 45 (by decide +kernel) (by decide +kernel)
theorem gf_X13_90 {g : GT} {d : Nat} {M : MI} {Q : Int → Sg → Prop} {pc : Nat} {ls st : List AV} {σ : Sg} (hM : M.1.cls = RX13) (hd : decode M.2.1 pc = .ok (.getfield 90, 3)) (h : Wp g d M Q (pc + 3) ls ((33, 106) :: st) σ) : Wp g d M Q pc ls ((21, 92) :: st) σ := r_getf (ci := 11) (k := 26) (o := 92) (by decide) (by decide) (by rw [hM]; exact lk_X13_90) hd h
theorem lk_X13_93 : Cond.fieldLink RX13 93 "StoneRaisedModel" "told" "[I" ∈ lwG := lwc_6 46 (by decide +kernel) (by decide +kernel)
theorem gf_X13_93 {g : GT} {d : Nat} {M : MI} {Q : Int → Sg → Prop} {pc : Nat} {ls st : List AV} {σ : Sg} (hM : M.1.cls = RX13) (hd : decode M.2.1 pc = .ok (.getfield 93, 3)) (h : Wp g d M Q (pc + 3) ls ((36, 107) :: st) σ) : Wp g d M Q pc ls ((21, 92) :: st) σ := r_getf (ci := 11) (k := 27) (o := 92) (by decide) (by decide) (by rw [hM]; exact lk_X13_93) hd h
theorem lk_X13_96 : Cond.fieldLink RX13 96 "StoneRaisedModel" "sumFrom" "[I" ∈ lwG := lwc_6 47 (by decide +kernel) (by decide +kernel)
theorem gf_X13_96 {g : GT} {d : Nat} {M : MI} {Q : Int → Sg → Prop} {pc : Nat} {ls st : List AV} {σ : Sg} (hM : M.1.cls = RX13) (hd : decode M.2.1 pc = .ok (.getfield 96, 3)) (h : Wp g d M Q (pc + 3) ls ((35, 108) :: st) σ) : Wp g d M Q pc ls ((21, 92) :: st) σ := r_getf (ci := 11) (k := 28) (o := 92) (by decide) (by decide) (by rw [hM]; exact lk_X13_96) hd h
theorem lk_X13_99 : Cond.fieldLink RX13 99 "StoneRaisedModel" "sumBehind" "[I" ∈ lwG := lwc_6 48 (by decide +kernel) (by decide +kernel)
theorem gf_X13_99 {g : GT} {d : Nat} {M : MI} {Q : Int → Sg → Prop} {pc : Nat} {ls st : List AV} {σ : Sg} (hM : M.1.cls = RX13) (hd : decode M.2.1 pc = .ok (.getfield 99, 3)) (h : Wp g d M Q (pc + 3) ls ((35, 109) :: st) σ) : Wp g d M Q pc ls ((21, 92) :: st) σ := r_getf (ci := 11) (k := 29) (o := 92) (by decide) (by decide) (by rw [hM]; exact lk_X13_99) hd h
theorem lk_X13_102 : Cond.fieldLink RX13 102 "StoneRaisedModel" "codeSort" "[I" ∈ lwG := lwc_6 49 (by decide +kernel) (by decide +kernel)
theorem gf_X13_102 {g : GT} {d : Nat} {M : MI} {Q : Int → Sg → Prop} {pc : Nat} {ls st : List AV} {σ : Sg} (hM : M.1.cls = RX13) (hd : decode M.2.1 pc = .ok (.getfield 102, 3)) (h : Wp g d M Q (pc + 3) ls ((49, 110) :: st) σ) : Wp g d M Q pc ls ((21, 92) :: st) σ := r_getf (ci := 11) (k := 30) (o := 92) (by decide) (by decide) (by rw [hM]; exact lk_X13_102) hd h
theorem lk_X13_105 : Cond.fieldLink RX13 105 "StoneRaisedModel" "codeValue" "[I" ∈ lwG := lwc_6 50 (by decide +kernel) (by decide +kernel)
theorem gf_X13_105 {g : GT} {d : Nat} {M : MI} {Q : Int → Sg → Prop} {pc : Nat} {ls st : List AV} {σ : Sg} (hM : M.1.cls = RX13) (hd : decode M.2.1 pc = .ok (.getfield 105, 3)) (h : Wp g d M Q (pc + 3) ls ((49, 111) :: st) σ) : Wp g d M Q pc ls ((21, 92) :: st) σ := r_getf (ci := 11) (k := 31) (o := 92) (by decide) (by decide) (by rw [hM]; exact lk_X13_105) hd h
theorem lk_X13_108 : Cond.fieldLink RX13 108 "StoneRaisedModel" "homeName" "[J" ∈ lwG := lwc_6 51 (by decide +kernel) (by decide +kernel)
theorem gf_X13_108 {g : GT} {d : Nat} {M : MI} {Q : Int → Sg → Prop} {pc : Nat} {ls st : List AV} {σ : Sg} (hM : M.1.cls = RX13) (hd : decode M.2.1 pc = .ok (.getfield 108, 3)) (h : Wp g d M Q (pc + 3) ls ((50, 112) :: st) σ) : Wp g d M Q pc ls ((21, 92) :: st) σ := r_getf (ci := 11) (k := 32) (o := 92) (by decide) (by decide) (by rw [hM]; exact lk_X13_108) hd h
theorem lk_X13_112 : Cond.fieldLink RX13 112 "StoneRaisedModel" "childName" "[J" ∈ lwG := lwc_6 52 (by decide +kernel) (by decide +kernel)
theorem gf_X13_112 {g : GT} {d : Nat} {M : MI} {Q : Int → Sg → Prop} {pc : Nat} {ls st : List AV} {σ : Sg} (hM : M.1.cls = RX13) (hd : decode M.2.1 pc = .ok (.getfield 112, 3)) (h : Wp g d M Q (pc + 3) ls ((51, 113) :: st) σ) : Wp g d M Q pc ls ((21, 92) :: st) σ := r_getf (ci := 11) (k := 33) (o := 92) (by decide) (by decide) (by rw [hM]; exact lk_X13_112) hd h
theorem lk_X13_115 : Cond.fieldLink RX13 115 "StoneRaisedModel" "wallName" "[J" ∈ lwG := lwc_6 53 (by decide +kernel) (by decide +kernel)
theorem gf_X13_115 {g : GT} {d : Nat} {M : MI} {Q : Int → Sg → Prop} {pc : Nat} {ls st : List AV} {σ : Sg} (hM : M.1.cls = RX13) (hd : decode M.2.1 pc = .ok (.getfield 115, 3)) (h : Wp g d M Q (pc + 3) ls ((52, 114) :: st) σ) : Wp g d M Q pc ls ((21, 92) :: st) σ := r_getf (ci := 11) (k := 34) (o := 92) (by decide) (by decide) (by rw [hM]; exact lk_X13_115) hd h
theorem lk_X13_118 : Cond.fieldLink RX13 118 "StoneRaisedModel" "codes" "I" ∈ lwG := lwc_6 54 (by decide +kernel) (by decide +kernel)
theorem gf_X13_118 {g : GT} {d : Nat} {M : MI} {Q : Int → Sg → Prop} {pc : Nat} {ls st : List AV} {σ : Sg} (hM : M.1.cls = RX13) (hd : decode M.2.1 pc = .ok (.getfield 118, 3)) (h : Wp g d M Q (pc + 3) ls ((0, (σ 92 35)) :: st) σ) : Wp g d M Q pc ls ((21, 92) :: st) σ := r_getf (ci := 11) (k := 35) (o := 92) (by decide) (by decide) (by rw [hM]; exact lk_X13_118) hd h
theorem pf_X13_118 {g : GT} {d : Nat} {M : MI} {Q : Int → Sg → Prop} {pc : Nat} {ls st : List AV} {σ : Sg} {v : Int} (hM : M.1.cls = RX13) (hd : decode M.2.1 pc = .ok (.putfield 118, 3)) (h : Wp g d M Q (pc + 3) ls st (ups σ 92 35 v)) : Wp g d M Q pc ls ((0, v) :: (21, 92) :: st) σ := r_putf (ci := 11) (k := 35) (o := 92) (by decide) (by decide) (by rw [hM]; exact lk_X13_118) rfl rfl rfl rfl hd h
theorem lk_X13_121 : Cond.fieldLink RX13 121 "StoneRaisedModel" "in" "I" ∈ lwG := lwc_6 55 (by decide +kernel) (by decide +kernel)
theorem gf_X13_121 {g : GT} {d : Nat} {M : MI} {Q : Int → Sg → Prop} {pc : Nat} {ls st : List AV} {σ : Sg} (hM : M.1.cls = RX13) (hd : decode M.2.1 pc = .ok (.getfield 121, 3)) (h : Wp g d M Q (pc + 3) ls ((0, (σ 92 36)) :: st) σ) : Wp g d M Q pc ls ((21, 92) :: st) σ := r_getf (ci := 11) (k := 36) (o := 92) (by decide) (by decide) (by rw [hM]; exact lk_X13_121) hd h
theorem pf_X13_121 {g : GT} {d : Nat} {M : MI} {Q : Int → Sg → Prop} {pc : Nat} {ls st : List AV} {σ : Sg} {v : Int} (hM : M.1.cls = RX13) (hd : decode M.2.1 pc = .ok (.putfield 121, 3)) (h : Wp g d M Q (pc + 3) ls st (ups σ 92 36 v)) : Wp g d M Q pc ls ((0, v) :: (21, 92) :: st) σ := r_putf (ci := 11) (k := 36) (o := 92) (by decide) (by decide) (by rw [hM]; exact lk_X13_121) rfl rfl rfl rfl hd h
theorem lk_X13_124 : Cond.fieldLink RX13 124 "StoneRaisedModel" "isMay" "Z" ∈ lwG := lwc_6 56 (by decide +kernel) (by decide +kernel)
theorem gf_X13_124 {g : GT} {d : Nat} {M : MI} {Q : Int → Sg → Prop} {pc : Nat} {ls st : List AV} {σ : Sg} (hM : M.1.cls = RX13) (hd : decode M.2.1 pc = .ok (.getfield 124, 3)) (h : Wp g d M Q (pc + 3) ls ((0, (σ 92 37)) :: st) σ) : Wp g d M Q pc ls ((21, 92) :: st) σ := r_getf (ci := 11) (k := 37) (o := 92) (by decide) (by decide) (by rw [hM]; exact lk_X13_124) hd h
theorem pf_X13_124 {g : GT} {d : Nat} {M : MI} {Q : Int → Sg → Prop} {pc : Nat} {ls st : List AV} {σ : Sg} {v : Int} (hM : M.1.cls = RX13) (hz : v = 0 ∨ v = 1) (hd : decode M.2.1 pc = .ok (.putfield 124, 3)) (h : Wp g d M Q (pc + 3) ls st (ups σ 92 37 v)) : Wp g d M Q pc ls ((0, v) :: (21, 92) :: st) σ := r_putf (ci := 11) (k := 37) (o := 92) (by decide) (by decide) (by rw [hM]; exact lk_X13_124) rfl rfl (bz_nar hz) (bz_fit hz) hd h
theorem lk_X13_128 : Cond.fieldLink RX13 128 "StoneRaisedModel" "frame" "[I" ∈ lwG := lwc_6 57 (by decide +kernel) (by decide +kernel)
theorem gf_X13_128 {g : GT} {d : Nat} {M : MI} {Q : Int → Sg → Prop} {pc : Nat} {ls st : List AV} {σ : Sg} (hM : M.1.cls = RX13) (hd : decode M.2.1 pc = .ok (.getfield 128, 3)) (h : Wp g d M Q (pc + 3) ls ((48, 115) :: st) σ) : Wp g d M Q pc ls ((21, 92) :: st) σ := r_getf (ci := 11) (k := 38) (o := 92) (by decide) (by decide) (by rw [hM]; exact lk_X13_128) hd h
theorem lk_X13_131 : Cond.fieldLink RX13 131 "StoneRaisedModel" "phase" "[I" ∈ lwG := lwc_6 58 (by decide +kernel) (by decide +kernel)
theorem gf_X13_131 {g : GT} {d : Nat} {M : MI} {Q : Int → Sg → Prop} {pc : Nat} {ls st : List AV} {σ : Sg} (hM : M.1.cls = RX13) (hd : decode M.2.1 pc = .ok (.getfield 131, 3)) (h : Wp g d M Q (pc + 3) ls ((48, 116) :: st) σ) : Wp g d M Q pc ls ((21, 92) :: st) σ := r_getf (ci := 11) (k := 39) (o := 92) (by decide) (by decide) (by rw [hM]; exact lk_X13_131) hd h
theorem lk_X13_134 : Cond.fieldLink RX13 134 "StoneRaisedModel" "begins" "[Z" ∈ lwG := lwc_6 59 (by decide +kernel) (by decide +kernel)
theorem gf_X13_134 {g : GT} {d : Nat} {M : MI} {Q : Int → Sg → Prop} {pc : Nat} {ls st : List AV} {σ : Sg} (hM : M.1.cls = RX13) (hd : decode M.2.1 pc = .ok (.getfield 134, 3)) (h : Wp g d M Q (pc + 3) ls ((53, 117) :: st) σ) : Wp g d M Q pc ls ((21, 92) :: st) σ := r_getf (ci := 11) (k := 40) (o := 92) (by decide) (by decide) (by rw [hM]; exact lk_X13_134) hd h
theorem lk_X13_138 : Cond.fieldLink RX13 138 "StoneRaisedModel" "pair" "[I" ∈ lwG := lwc_6 60 (by decide +kernel) (by decide +kernel)
theorem gf_X13_138 {g : GT} {d : Nat} {M : MI} {Q : Int → Sg → Prop} {pc : Nat} {ls st : List AV} {σ : Sg} (hM : M.1.cls = RX13) (hd : decode M.2.1 pc = .ok (.getfield 138, 3)) (h : Wp g d M Q (pc + 3) ls ((48, 118) :: st) σ) : Wp g d M Q pc ls ((21, 92) :: st) σ := r_getf (ci := 11) (k := 41) (o := 92) (by decide) (by decide) (by rw [hM]; exact lk_X13_138) hd h
theorem lk_X13_141 : Cond.fieldLink RX13 141 "StoneRaisedModel" "base" "[I" ∈ lwG := lwc_6 61 (by decide +kernel) (by decide +kernel)
theorem gf_X13_141 {g : GT} {d : Nat} {M : MI} {Q : Int → Sg → Prop} {pc : Nat} {ls st : List AV} {σ : Sg} (hM : M.1.cls = RX13) (hd : decode M.2.1 pc = .ok (.getfield 141, 3)) (h : Wp g d M Q (pc + 3) ls ((48, 119) :: st) σ) : Wp g d M Q pc ls ((21, 92) :: st) σ := r_getf (ci := 11) (k := 42) (o := 92) (by decide) (by decide) (by rw [hM]; exact lk_X13_141) hd h
theorem lk_X13_144 : Cond.fieldLink RX13 144 "StoneRaisedModel" "deep" "I" ∈ lwG := lwc_6 62 (by decide +kernel) (by decide +kernel)
theorem gf_X13_144 {g : GT} {d : Nat} {M : MI} {Q : Int → Sg → Prop} {pc : Nat} {ls st : List AV} {σ : Sg} (hM : M.1.cls = RX13) (hd : decode M.2.1 pc = .ok (.getfield 144, 3)) (h : Wp g d M Q (pc + 3) ls ((0, (σ 92 43)) :: st) σ) : Wp g d M Q pc ls ((21, 92) :: st) σ := r_getf (ci := 11) (k := 43) (o := 92) (by decide) (by decide) (by rw [hM]; exact lk_X13_144) hd h
theorem pf_X13_144 {g : GT} {d : Nat} {M : MI} {Q : Int → Sg → Prop} {pc : Nat} {ls st : List AV} {σ : Sg} {v : Int} (hM : M.1.cls = RX13) (hd : decode M.2.1 pc = .ok (.putfield 144, 3)) (h : Wp g d M Q (pc + 3) ls st (ups σ 92 43 v)) : Wp g d M Q pc ls ((0, v) :: (21, 92) :: st) σ := r_putf (ci := 11) (k := 43) (o := 92) (by decide) (by decide) (by rw [hM]; exact lk_X13_144) rfl rfl rfl rfl hd h
theorem lk_X13_147 : Cond.fieldLink RX13 147 "StoneRaisedModel" "open" "I" ∈ lwG := lwc_6 63 (by decide +kernel) (by decide +kernel)
theorem gf_X13_147 {g : GT} {d : Nat} {M : MI} {Q : Int → Sg → Prop} {pc : Nat} {ls st : List AV} {σ : Sg} (hM : M.1.cls = RX13) (hd : decode M.2.1 pc = .ok (.getfield 147, 3)) (h : Wp g d M Q (pc + 3) ls ((0, (σ 92 44)) :: st) σ) : Wp g d M Q pc ls ((21, 92) :: st) σ := r_getf (ci := 11) (k := 44) (o := 92) (by decide) (by decide) (by rw [hM]; exact lk_X13_147) hd h
theorem pf_X13_147 {g : GT} {d : Nat} {M : MI} {Q : Int → Sg → Prop} {pc : Nat} {ls st : List AV} {σ : Sg} {v : Int} (hM : M.1.cls = RX13) (hd : decode M.2.1 pc = .ok (.putfield 147, 3)) (h : Wp g d M Q (pc + 3) ls st (ups σ 92 44 v)) : Wp g d M Q pc ls ((0, v) :: (21, 92) :: st) σ := r_putf (ci := 11) (k := 44) (o := 92) (by decide) (by decide) (by rw [hM]; exact lk_X13_147) rfl rfl rfl rfl hd h
theorem lk_X13_150 : Cond.fieldLink RX13 150 "StoneRaisedModel" "ops" "[I" ∈ lwG := lwc_6 64 (by decide +kernel) (by decide +kernel)
theorem gf_X13_150 {g : GT} {d : Nat} {M : MI} {Q : Int → Sg → Prop} {pc : Nat} {ls st : List AV} {σ : Sg} (hM : M.1.cls = RX13) (hd : decode M.2.1 pc = .ok (.getfield 150, 3)) (h : Wp g d M Q (pc + 3) ls ((54, 120) :: st) σ) : Wp g d M Q pc ls ((21, 92) :: st) σ := r_getf (ci := 11) (k := 45) (o := 92) (by decide) (by decide) (by rw [hM]; exact lk_X13_150) hd h
theorem lk_X13_153 : Cond.fieldLink RX13 153 "StoneRaisedModel" "opMany" "I" ∈ lwG := lwc_6 65 (by decide +kernel) (by decide +kernel)
theorem gf_X13_153 {g : GT} {d : Nat} {M : MI} {Q : Int → Sg → Prop} {pc : Nat} {ls st : List AV} {σ : Sg} (hM : M.1.cls = RX13) (hd : decode M.2.1 pc = .ok (.getfield 153, 3)) (h : Wp g d M Q (pc + 3) ls ((0, (σ 92 46)) :: st) σ) : Wp g d M Q pc ls ((21, 92) :: st) σ := r_getf (ci := 11) (k := 46) (o := 92) (by decide) (by decide) (by rw [hM]; exact lk_X13_153) hd h
theorem pf_X13_153 {g : GT} {d : Nat} {M : MI} {Q : Int → Sg → Prop} {pc : Nat} {ls st : List AV} {σ : Sg} {v : Int} (hM : M.1.cls = RX13) (hd : decode M.2.1 pc = .ok (.putfield 153, 3)) (h : Wp g d M Q (pc + 3) ls st (ups σ 92 46 v)) : Wp g d M Q pc ls ((0, v) :: (21, 92) :: st) σ := r_putf (ci := 11) (k := 46) (o := 92) (by decide) (by decide) (by rw [hM]; exact lk_X13_153) rfl rfl rfl rfl hd h
theorem lk_X13_156 : Cond.fieldLink RX13 156 "StoneRaisedModel" "operand" "Z" ∈ lwG := lwc_6 66 (by decide +kernel) (by decide +kernel)
theorem gf_X13_156 {g : GT} {d : Nat} {M : MI} {Q : Int → Sg → Prop} {pc : Nat} {ls st : List AV} {σ : Sg} (hM : M.1.cls = RX13) (hd : decode M.2.1 pc = .ok (.getfield 156, 3)) (h : Wp g d M Q (pc + 3) ls ((0, (σ 92 47)) :: st) σ) : Wp g d M Q pc ls ((21, 92) :: st) σ := r_getf (ci := 11) (k := 47) (o := 92) (by decide) (by decide) (by rw [hM]; exact lk_X13_156) hd h
theorem pf_X13_156 {g : GT} {d : Nat} {M : MI} {Q : Int → Sg → Prop} {pc : Nat} {ls st : List AV} {σ : Sg} {v : Int} (hM : M.1.cls = RX13) (hz : v = 0 ∨ v = 1) (hd : decode M.2.1 pc = .ok (.putfield 156, 3)) (h : Wp g d M Q (pc + 3) ls st (ups σ 92 47 v)) : Wp g d M Q pc ls ((0, v) :: (21, 92) :: st) σ := r_putf (ci := 11) (k := 47) (o := 92) (by decide) (by decide) (by rw [hM]; exact lk_X13_156) rfl rfl (bz_nar hz) (bz_fit hz) hd h
theorem lk_X13_159 : Cond.fieldLink RX13 159 "StoneRaisedModel" "refused" "[I" ∈ lwG := lwc_6 67 (by decide +kernel) (by decide +kernel)
theorem gf_X13_159 {g : GT} {d : Nat} {M : MI} {Q : Int → Sg → Prop} {pc : Nat} {ls st : List AV} {σ : Sg} (hM : M.1.cls = RX13) (hd : decode M.2.1 pc = .ok (.getfield 159, 3)) (h : Wp g d M Q (pc + 3) ls ((34, 121) :: st) σ) : Wp g d M Q pc ls ((21, 92) :: st) σ := r_getf (ci := 11) (k := 48) (o := 92) (by decide) (by decide) (by rw [hM]; exact lk_X13_159) hd h
theorem lk_X13_162 : Cond.fieldLink RX13 162 "StoneRaisedModel" "yearOf" "[I" ∈ lwG := lwc_6 68 (by decide +kernel) (by decide +kernel)
theorem gf_X13_162 {g : GT} {d : Nat} {M : MI} {Q : Int → Sg → Prop} {pc : Nat} {ls st : List AV} {σ : Sg} (hM : M.1.cls = RX13) (hd : decode M.2.1 pc = .ok (.getfield 162, 3)) (h : Wp g d M Q (pc + 3) ls ((55, 122) :: st) σ) : Wp g d M Q pc ls ((21, 92) :: st) σ := r_getf (ci := 11) (k := 49) (o := 92) (by decide) (by decide) (by rw [hM]; exact lk_X13_162) hd h
theorem lk_X13_165 : Cond.fieldLink RX13 165 "StoneRaisedModel" "endedOf" "[I" ∈ lwG := lwc_6 69 (by decide +kernel) (by decide +kernel)
theorem gf_X13_165 {g : GT} {d : Nat} {M : MI} {Q : Int → Sg → Prop} {pc : Nat} {ls st : List AV} {σ : Sg} (hM : M.1.cls = RX13) (hd : decode M.2.1 pc = .ok (.getfield 165, 3)) (h : Wp g d M Q (pc + 3) ls ((55, 123) :: st) σ) : Wp g d M Q pc ls ((21, 92) :: st) σ := r_getf (ci := 11) (k := 50) (o := 92) (by decide) (by decide) (by rw [hM]; exact lk_X13_165) hd h
theorem lk_X13_168 : Cond.fieldLink RX13 168 "StoneRaisedModel" "homeOf" "[I" ∈ lwG := lwc_6 70 (by decide +kernel) (by decide +kernel)
theorem gf_X13_168 {g : GT} {d : Nat} {M : MI} {Q : Int → Sg → Prop} {pc : Nat} {ls st : List AV} {σ : Sg} (hM : M.1.cls = RX13) (hd : decode M.2.1 pc = .ok (.getfield 168, 3)) (h : Wp g d M Q (pc + 3) ls ((56, 124) :: st) σ) : Wp g d M Q pc ls ((21, 92) :: st) σ := r_getf (ci := 11) (k := 51) (o := 92) (by decide) (by decide) (by rw [hM]; exact lk_X13_168) hd h
theorem lk_X13_171 : Cond.fieldLink RX13 171 "StoneRaisedModel" "strongOf" "[I" ∈ lwG := lwc_6 71 (by decide +kernel) (by decide +kernel)
theorem gf_X13_171 {g : GT} {d : Nat} {M : MI} {Q : Int → Sg → Prop} {pc : Nat} {ls st : List AV} {σ : Sg} (hM : M.1.cls = RX13) (hd : decode M.2.1 pc = .ok (.getfield 171, 3)) (h : Wp g d M Q (pc + 3) ls ((56, 125) :: st) σ) : Wp g d M Q pc ls ((21, 92) :: st) σ := r_getf (ci := 11) (k := 52) (o := 92) (by decide) (by decide) (by rw [hM]; exact lk_X13_171) hd h
theorem lk_X13_174 : Cond.fieldLink RX13 174 "StoneRaisedModel" "wallOf" "[I" ∈ lwG := lwc_6 72 (by decide +kernel) (by decide +kernel)
theorem gf_X13_174 {g : GT} {d : Nat} {M : MI} {Q : Int → Sg → Prop} {pc : Nat} {ls st : List AV} {σ : Sg} (hM : M.1.cls = RX13) (hd : decode M.2.1 pc = .ok (.getfield 174, 3)) (h : Wp g d M Q (pc + 3) ls ((56, 126) :: st) σ) : Wp g d M Q pc ls ((21, 92) :: st) σ := r_getf (ci := 11) (k := 53) (o := 92) (by decide) (by decide) (by rw [hM]; exact lk_X13_174) hd h
theorem lk_X13_177 : Cond.fieldLink RX13 177 "StoneRaisedModel" "columnOf" "[I" ∈ lwG := lwc_6 73 (by decide +kernel) (by decide +kernel)
theorem gf_X13_177 {g : GT} {d : Nat} {M : MI} {Q : Int → Sg → Prop} {pc : Nat} {ls st : List AV} {σ : Sg} (hM : M.1.cls = RX13) (hd : decode M.2.1 pc = .ok (.getfield 177, 3)) (h : Wp g d M Q (pc + 3) ls ((56, 127) :: st) σ) : Wp g d M Q pc ls ((21, 92) :: st) σ := r_getf (ci := 11) (k := 54) (o := 92) (by decide) (by decide) (by rw [hM]; exact lk_X13_177) hd h
theorem lk_X13_180 : Cond.fieldLink RX13 180 "StoneRaisedModel" "courseOf" "[I" ∈ lwG := lwc_6 74 (by decide +kernel) (by decide +kernel)
theorem gf_X13_180 {g : GT} {d : Nat} {M : MI} {Q : Int → Sg → Prop} {pc : Nat} {ls st : List AV} {σ : Sg} (hM : M.1.cls = RX13) (hd : decode M.2.1 pc = .ok (.getfield 180, 3)) (h : Wp g d M Q (pc + 3) ls ((56, 128) :: st) σ) : Wp g d M Q pc ls ((21, 92) :: st) σ := r_getf (ci := 11) (k := 55) (o := 92) (by decide) (by decide) (by rw [hM]; exact lk_X13_180) hd h
theorem lk_X13_183 : Cond.fieldLink RX13 183 "StoneRaisedModel" "keptMany" "[I" ∈ lwG := lwc_6 75 (by decide +kernel) (by decide +kernel)
theorem gf_X13_183 {g : GT} {d : Nat} {M : MI} {Q : Int → Sg → Prop} {pc : Nat} {ls st : List AV} {σ : Sg} (hM : M.1.cls = RX13) (hd : decode M.2.1 pc = .ok (.getfield 183, 3)) (h : Wp g d M Q (pc + 3) ls ((55, 129) :: st) σ) : Wp g d M Q pc ls ((21, 92) :: st) σ := r_getf (ci := 11) (k := 56) (o := 92) (by decide) (by decide) (by rw [hM]; exact lk_X13_183) hd h
theorem lk_X13_186 : Cond.fieldLink RX13 186 "StoneRaisedModel" "keptRow" "[I" ∈ lwG := lwc_6 76 (by decide +kernel) (by decide +kernel)
theorem gf_X13_186 {g : GT} {d : Nat} {M : MI} {Q : Int → Sg → Prop} {pc : Nat} {ls st : List AV} {σ : Sg} (hM : M.1.cls = RX13) (hd : decode M.2.1 pc = .ok (.getfield 186, 3)) (h : Wp g d M Q (pc + 3) ls ((57, 130) :: st) σ) : Wp g d M Q pc ls ((21, 92) :: st) σ := r_getf (ci := 11) (k := 57) (o := 92) (by decide) (by decide) (by rw [hM]; exact lk_X13_186) hd h
theorem lk_X13_189 : Cond.fieldLink RX13 189 "StoneRaisedModel" "undoFirst" "I" ∈ lwG := lwc_6 77 (by decide +kernel) (by decide +kernel)
theorem gf_X13_189 {g : GT} {d : Nat} {M : MI} {Q : Int → Sg → Prop} {pc : Nat} {ls st : List AV} {σ : Sg} (hM : M.1.cls = RX13) (hd : decode M.2.1 pc = .ok (.getfield 189, 3)) (h : Wp g d M Q (pc + 3) ls ((0, (σ 92 58)) :: st) σ) : Wp g d M Q pc ls ((21, 92) :: st) σ := r_getf (ci := 11) (k := 58) (o := 92) (by decide) (by decide) (by rw [hM]; exact lk_X13_189) hd h
theorem pf_X13_189 {g : GT} {d : Nat} {M : MI} {Q : Int → Sg → Prop} {pc : Nat} {ls st : List AV} {σ : Sg} {v : Int} (hM : M.1.cls = RX13) (hd : decode M.2.1 pc = .ok (.putfield 189, 3)) (h : Wp g d M Q (pc + 3) ls st (ups σ 92 58 v)) : Wp g d M Q pc ls ((0, v) :: (21, 92) :: st) σ := r_putf (ci := 11) (k := 58) (o := 92) (by decide) (by decide) (by rw [hM]; exact lk_X13_189) rfl rfl rfl rfl hd h
theorem lk_X13_192 : Cond.fieldLink RX13 192 "StoneRaisedModel" "undos" "I" ∈ lwG := lwc_6 78 (by decide +kernel) (by decide +kernel)
theorem gf_X13_192 {g : GT} {d : Nat} {M : MI} {Q : Int → Sg → Prop} {pc : Nat} {ls st : List AV} {σ : Sg} (hM : M.1.cls = RX13) (hd : decode M.2.1 pc = .ok (.getfield 192, 3)) (h : Wp g d M Q (pc + 3) ls ((0, (σ 92 59)) :: st) σ) : Wp g d M Q pc ls ((21, 92) :: st) σ := r_getf (ci := 11) (k := 59) (o := 92) (by decide) (by decide) (by rw [hM]; exact lk_X13_192) hd h
theorem pf_X13_192 {g : GT} {d : Nat} {M : MI} {Q : Int → Sg → Prop} {pc : Nat} {ls st : List AV} {σ : Sg} {v : Int} (hM : M.1.cls = RX13) (hd : decode M.2.1 pc = .ok (.putfield 192, 3)) (h : Wp g d M Q (pc + 3) ls st (ups σ 92 59 v)) : Wp g d M Q pc ls ((0, v) :: (21, 92) :: st) σ := r_putf (ci := 11) (k := 59) (o := 92) (by decide) (by decide) (by rw [hM]; exact lk_X13_192) rfl rfl rfl rfl hd h
theorem lk_X13_195 : Cond.fieldLink RX13 195 "StoneRaisedModel" "seeds" "J" ∈ lwG := lwc_6 79 (by decide +kernel) (by decide +kernel)
theorem gf_X13_195 {g : GT} {d : Nat} {M : MI} {Q : Int → Sg → Prop} {pc : Nat} {ls st : List AV} {σ : Sg} (hM : M.1.cls = RX13) (hd : decode M.2.1 pc = .ok (.getfield 195, 3)) (h : Wp g d M Q (pc + 3) ls ((2, (σ 92 60)) :: st) σ) : Wp g d M Q pc ls ((21, 92) :: st) σ := r_getf (ci := 11) (k := 60) (o := 92) (by decide) (by decide) (by rw [hM]; exact lk_X13_195) hd h
theorem pf_X13_195 {g : GT} {d : Nat} {M : MI} {Q : Int → Sg → Prop} {pc : Nat} {ls st : List AV} {σ : Sg} {v : Int} (hM : M.1.cls = RX13) (hd : decode M.2.1 pc = .ok (.putfield 195, 3)) (h : Wp g d M Q (pc + 3) ls st (ups σ 92 60 v)) : Wp g d M Q pc ls ((2, v) :: (21, 92) :: st) σ := r_putf (ci := 11) (k := 60) (o := 92) (by decide) (by decide) (by rw [hM]; exact lk_X13_195) rfl rfl rfl rfl hd h
theorem lk_X13_198 : Cond.fieldLink RX13 198 "StoneRaisedModel" "stack" "[J" ∈ lwG := lwc_6 80 (by decide +kernel) (by decide +kernel)
theorem gf_X13_198 {g : GT} {d : Nat} {M : MI} {Q : Int → Sg → Prop} {pc : Nat} {ls st : List AV} {σ : Sg} (hM : M.1.cls = RX13) (hd : decode M.2.1 pc = .ok (.getfield 198, 3)) (h : Wp g d M Q (pc + 3) ls ((58, 131) :: st) σ) : Wp g d M Q pc ls ((21, 92) :: st) σ := r_getf (ci := 11) (k := 61) (o := 92) (by decide) (by decide) (by rw [hM]; exact lk_X13_198) hd h
theorem lk_X13_201 : Cond.fieldLink RX13 201 "StoneRaisedModel" "asked" "[I" ∈ lwG := lwc_6 81 (by decide +kernel) (by decide +kernel)
theorem gf_X13_201 {g : GT} {d : Nat} {M : MI} {Q : Int → Sg → Prop} {pc : Nat} {ls st : List AV} {σ : Sg} (hM : M.1.cls = RX13) (hd : decode M.2.1 pc = .ok (.getfield 201, 3)) (h : Wp g d M Q (pc + 3) ls ((47, 132) :: st) σ) : Wp g d M Q pc ls ((21, 92) :: st) σ := r_getf (ci := 11) (k := 62) (o := 92) (by decide) (by decide) (by rw [hM]; exact lk_X13_201) hd h
theorem lk_X13_204 : Cond.fieldLink RX13 204 "StoneRaisedModel" "builtNow" "I" ∈ lwG := lwc_6 82 (by decide +kernel) (by decide +kernel)
theorem gf_X13_204 {g : GT} {d : Nat} {M : MI} {Q : Int → Sg → Prop} {pc : Nat} {ls st : List AV} {σ : Sg} (hM : M.1.cls = RX13) (hd : decode M.2.1 pc = .ok (.getfield 204, 3)) (h : Wp g d M Q (pc + 3) ls ((0, (σ 92 63)) :: st) σ) : Wp g d M Q pc ls ((21, 92) :: st) σ := r_getf (ci := 11) (k := 63) (o := 92) (by decide) (by decide) (by rw [hM]; exact lk_X13_204) hd h
theorem pf_X13_204 {g : GT} {d : Nat} {M : MI} {Q : Int → Sg → Prop} {pc : Nat} {ls st : List AV} {σ : Sg} {v : Int} (hM : M.1.cls = RX13) (hd : decode M.2.1 pc = .ok (.putfield 204, 3)) (h : Wp g d M Q (pc + 3) ls st (ups σ 92 63 v)) : Wp g d M Q pc ls ((0, v) :: (21, 92) :: st) σ := r_putf (ci := 11) (k := 63) (o := 92) (by decide) (by decide) (by rw [hM]; exact lk_X13_204) rfl rfl rfl rfl hd h
theorem lk_X13_207 : Cond.fieldLink RX13 207 "StoneRaisedModel" "fellNow" "I" ∈ lwG := lwc_6 83 (by decide +kernel) (by decide +kernel)
theorem gf_X13_207 {g : GT} {d : Nat} {M : MI} {Q : Int → Sg → Prop} {pc : Nat} {ls st : List AV} {σ : Sg} (hM : M.1.cls = RX13) (hd : decode M.2.1 pc = .ok (.getfield 207, 3)) (h : Wp g d M Q (pc + 3) ls ((0, (σ 92 64)) :: st) σ) : Wp g d M Q pc ls ((21, 92) :: st) σ := r_getf (ci := 11) (k := 64) (o := 92) (by decide) (by decide) (by rw [hM]; exact lk_X13_207) hd h
theorem pf_X13_207 {g : GT} {d : Nat} {M : MI} {Q : Int → Sg → Prop} {pc : Nat} {ls st : List AV} {σ : Sg} {v : Int} (hM : M.1.cls = RX13) (hd : decode M.2.1 pc = .ok (.putfield 207, 3)) (h : Wp g d M Q (pc + 3) ls st (ups σ 92 64 v)) : Wp g d M Q pc ls ((0, v) :: (21, 92) :: st) σ := r_putf (ci := 11) (k := 64) (o := 92) (by decide) (by decide) (by rw [hM]; exact lk_X13_207) rfl rfl rfl rfl hd h
theorem lk_X13_210 : Cond.fieldLink RX13 210 "StoneRaisedModel" "shelf" "[I" ∈ lwG := lwc_6 84 (by decide +kernel) (by decide +kernel)
theorem gf_X13_210 {g : GT} {d : Nat} {M : MI} {Q : Int → Sg → Prop} {pc : Nat} {ls st : List AV} {σ : Sg} (hM : M.1.cls = RX13) (hd : decode M.2.1 pc = .ok (.getfield 210, 3)) (h : Wp g d M Q (pc + 3) ls ((34, 133) :: st) σ) : Wp g d M Q pc ls ((21, 92) :: st) σ := r_getf (ci := 11) (k := 65) (o := 92) (by decide) (by decide) (by rw [hM]; exact lk_X13_210) hd h
theorem lk_X13_213 : Cond.fieldLink RX13 213 "StoneRaisedModel" "rowOf" "[I" ∈ lwG := lwc_6 85 (by decide +kernel) (by decide +kernel)
theorem gf_X13_213 {g : GT} {d : Nat} {M : MI} {Q : Int → Sg → Prop} {pc : Nat} {ls st : List AV} {σ : Sg} (hM : M.1.cls = RX13) (hd : decode M.2.1 pc = .ok (.getfield 213, 3)) (h : Wp g d M Q (pc + 3) ls ((34, 134) :: st) σ) : Wp g d M Q pc ls ((21, 92) :: st) σ := r_getf (ci := 11) (k := 66) (o := 92) (by decide) (by decide) (by rw [hM]; exact lk_X13_213) hd h
theorem lk_X13_216 : Cond.fieldLink RX13 216 "StoneRaisedModel" "bestRow" "[I" ∈ lwG := lwc_6 86 (by decide +kernel) (by decide +kernel)
theorem gf_X13_216 {g : GT} {d : Nat} {M : MI} {Q : Int → Sg → Prop} {pc : Nat} {ls st : List AV} {σ : Sg} (hM : M.1.cls = RX13) (hd : decode M.2.1 pc = .ok (.getfield 216, 3)) (h : Wp g d M Q (pc + 3) ls ((34, 135) :: st) σ) : Wp g d M Q pc ls ((21, 92) :: st) σ := r_getf (ci := 11) (k := 67) (o := 92) (by decide) (by decide) (by rw [hM]; exact lk_X13_216) hd h
theorem lk_X13_219 : Cond.fieldLink RX13 219 "StoneRaisedModel" "rows" "I" ∈ lwG := lwc_6 87 (by decide +kernel) (by decide +kernel)
theorem gf_X13_219 {g : GT} {d : Nat} {M : MI} {Q : Int → Sg → Prop} {pc : Nat} {ls st : List AV} {σ : Sg} (hM : M.1.cls = RX13) (hd : decode M.2.1 pc = .ok (.getfield 219, 3)) (h : Wp g d M Q (pc + 3) ls ((0, (σ 92 68)) :: st) σ) : Wp g d M Q pc ls ((21, 92) :: st) σ := r_getf (ci := 11) (k := 68) (o := 92) (by decide) (by decide) (by rw [hM]; exact lk_X13_219) hd h
theorem pf_X13_219 {g : GT} {d : Nat} {M : MI} {Q : Int → Sg → Prop} {pc : Nat} {ls st : List AV} {σ : Sg} {v : Int} (hM : M.1.cls = RX13) (hd : decode M.2.1 pc = .ok (.putfield 219, 3)) (h : Wp g d M Q (pc + 3) ls st (ups σ 92 68 v)) : Wp g d M Q pc ls ((0, v) :: (21, 92) :: st) σ := r_putf (ci := 11) (k := 68) (o := 92) (by decide) (by decide) (by rw [hM]; exact lk_X13_219) rfl rfl rfl rfl hd h
theorem lk_X13_222 : Cond.fieldLink RX13 222 "StoneRaisedModel" "bornSeen" "I" ∈ lwG := lwc_6 88 (by decide +kernel) (by decide +kernel)
theorem gf_X13_222 {g : GT} {d : Nat} {M : MI} {Q : Int → Sg → Prop} {pc : Nat} {ls st : List AV} {σ : Sg} (hM : M.1.cls = RX13) (hd : decode M.2.1 pc = .ok (.getfield 222, 3)) (h : Wp g d M Q (pc + 3) ls ((0, (σ 92 69)) :: st) σ) : Wp g d M Q pc ls ((21, 92) :: st) σ := r_getf (ci := 11) (k := 69) (o := 92) (by decide) (by decide) (by rw [hM]; exact lk_X13_222) hd h
theorem pf_X13_222 {g : GT} {d : Nat} {M : MI} {Q : Int → Sg → Prop} {pc : Nat} {ls st : List AV} {σ : Sg} {v : Int} (hM : M.1.cls = RX13) (hd : decode M.2.1 pc = .ok (.putfield 222, 3)) (h : Wp g d M Q (pc + 3) ls st (ups σ 92 69 v)) : Wp g d M Q pc ls ((0, v) :: (21, 92) :: st) σ := r_putf (ci := 11) (k := 69) (o := 92) (by decide) (by decide) (by rw [hM]; exact lk_X13_222) rfl rfl rfl rfl hd h
theorem lk_X13_225 : Cond.fieldLink RX13 225 "StoneRaisedModel" "seamYears" "[I" ∈ lwG := lwc_6 89 (by decide +kernel) (by decide +kernel)
theorem gf_X13_225 {g : GT} {d : Nat} {M : MI} {Q : Int → Sg → Prop} {pc : Nat} {ls st : List AV} {σ : Sg} (hM : M.1.cls = RX13) (hd : decode M.2.1 pc = .ok (.getfield 225, 3)) (h : Wp g d M Q (pc + 3) ls ((40, 136) :: st) σ) : Wp g d M Q pc ls ((21, 92) :: st) σ := r_getf (ci := 11) (k := 70) (o := 92) (by decide) (by decide) (by rw [hM]; exact lk_X13_225) hd h
theorem lk_X13_228 : Cond.fieldLink RX13 228 "StoneRaisedModel" "seamStrong" "[I" ∈ lwG := lwc_6 90 (by decide +kernel) (by decide +kernel)
theorem gf_X13_228 {g : GT} {d : Nat} {M : MI} {Q : Int → Sg → Prop} {pc : Nat} {ls st : List AV} {σ : Sg} (hM : M.1.cls = RX13) (hd : decode M.2.1 pc = .ok (.getfield 228, 3)) (h : Wp g d M Q (pc + 3) ls ((40, 137) :: st) σ) : Wp g d M Q pc ls ((21, 92) :: st) σ := r_getf (ci := 11) (k := 71) (o := 92) (by decide) (by decide) (by rw [hM]; exact lk_X13_228) hd h
theorem lk_X13_231 : Cond.fieldLink RX13 231 "StoneRaisedModel" "strongIn" "[I" ∈ lwG := lwc_6 91 (by decide +kernel) (by decide +kernel)
theorem gf_X13_231 {g : GT} {d : Nat} {M : MI} {Q : Int → Sg → Prop} {pc : Nat} {ls st : List AV} {σ : Sg} (hM : M.1.cls = RX13) (hd : decode M.2.1 pc = .ok (.getfield 231, 3)) (h : Wp g d M Q (pc + 3) ls ((34, 138) :: st) σ) : Wp g d M Q pc ls ((21, 92) :: st) σ := r_getf (ci := 11) (k := 72) (o := 92) (by decide) (by decide) (by rw [hM]; exact lk_X13_231) hd h
theorem lk_X13_234 : Cond.fieldLink RX13 234 "StoneRaisedModel" "winsBy" "[Z" ∈ lwG := lwc_6 92 (by decide +kernel) (by decide +kernel)
theorem gf_X13_234 {g : GT} {d : Nat} {M : MI} {Q : Int → Sg → Prop} {pc : Nat} {ls st : List AV} {σ : Sg} (hM : M.1.cls = RX13) (hd : decode M.2.1 pc = .ok (.getfield 234, 3)) (h : Wp g d M Q (pc + 3) ls ((59, 139) :: st) σ) : Wp g d M Q pc ls ((21, 92) :: st) σ := r_getf (ci := 11) (k := 73) (o := 92) (by decide) (by decide) (by rw [hM]; exact lk_X13_234) hd h
theorem lk_X13_237 : Cond.fieldLink RX13 237 "StoneRaisedModel" "leftIn" "[I" ∈ lwG := lwc_6 93 (by decide +kernel) (by decide +kernel)
theorem gf_X13_237 {g : GT} {d : Nat} {M : MI} {Q : Int → Sg → Prop} {pc : Nat} {ls st : List AV} {σ : Sg} (hM : M.1.cls = RX13) (hd : decode M.2.1 pc = .ok (.getfield 237, 3)) (h : Wp g d M Q (pc + 3) ls ((35, 140) :: st) σ) : Wp g d M Q pc ls ((21, 92) :: st) σ := r_getf (ci := 11) (k := 74) (o := 92) (by decide) (by decide) (by rw [hM]; exact lk_X13_237) hd h
theorem lk_X13_240 : Cond.fieldLink RX13 240 "StoneRaisedModel" "out" "[I" ∈ lwG := lwc_6 94 (by decide +kernel) (by decide +kernel)
theorem gf_X13_240 {g : GT} {d : Nat} {M : MI} {Q : Int → Sg → Prop} {pc : Nat} {ls st : List AV} {σ : Sg} (hM : M.1.cls = RX13) (hd : decode M.2.1 pc = .ok (.getfield 240, 3)) (h : Wp g d M Q (pc + 3) ls ((60, 141) :: st) σ) : Wp g d M Q pc ls ((21, 92) :: st) σ := r_getf (ci := 11) (k := 75) (o := 92) (by decide) (by decide) (by rw [hM]; exact lk_X13_240) hd h
theorem lk_X13_243 : Cond.fieldLink RX13 243 "StoneRaisedModel" "outs" "I" ∈ lwG := lwc_6 95 (by decide +kernel) (by decide +kernel)
theorem gf_X13_243 {g : GT} {d : Nat} {M : MI} {Q : Int → Sg → Prop} {pc : Nat} {ls st : List AV} {σ : Sg} (hM : M.1.cls = RX13) (hd : decode M.2.1 pc = .ok (.getfield 243, 3)) (h : Wp g d M Q (pc + 3) ls ((0, (σ 92 76)) :: st) σ) : Wp g d M Q pc ls ((21, 92) :: st) σ := r_getf (ci := 11) (k := 76) (o := 92) (by decide) (by decide) (by rw [hM]; exact lk_X13_243) hd h
theorem pf_X13_243 {g : GT} {d : Nat} {M : MI} {Q : Int → Sg → Prop} {pc : Nat} {ls st : List AV} {σ : Sg} {v : Int} (hM : M.1.cls = RX13) (hd : decode M.2.1 pc = .ok (.putfield 243, 3)) (h : Wp g d M Q (pc + 3) ls st (ups σ 92 76 v)) : Wp g d M Q pc ls ((0, v) :: (21, 92) :: st) σ := r_putf (ci := 11) (k := 76) (o := 92) (by decide) (by decide) (by rw [hM]; exact lk_X13_243) rfl rfl rfl rfl hd h
theorem lk_X2_9 : Cond.fieldLink RX2 9 "StoneRaised$Formula" "steps" "[I" ∈ lwG := lwc_1 60 (by decide +kernel) (by decide +kernel)
theorem gf_X2_9 {g : GT} {d : Nat} {M : MI} {Q : Int → Sg → Prop} {pc : Nat} {ls st : List AV} {σ : Sg} {o : Int} (hM : M.1.cls = RX2) (hd : decode M.2.1 pc = .ok (.getfield 9, 3)) (h : Wp g d M Q (pc + 3) ls ((37, (o + 1)) :: st) σ) : Wp g d M Q pc ls ((11, o) :: st) σ := r_getf (ci := 1) (k := 0) (o := o) (by decide) (by decide) (by rw [hM]; exact lk_X2_9) hd h
theorem lk_X2_15 : Cond.fieldLink RX2 15 "StoneRaised$Formula" "values" "[I" ∈ lwG := lwc_1 61 (by decide +kernel) (by decide +kernel)
theorem gf_X2_15 {g : GT} {d : Nat} {M : MI} {Q : Int → Sg → Prop} {pc : Nat} {ls st : List AV} {σ : Sg} {o : Int} (hM : M.1.cls = RX2) (hd : decode M.2.1 pc = .ok (.getfield 15, 3)) (h : Wp g d M Q (pc + 3) ls ((38, (o + 2)) :: st) σ) : Wp g d M Q pc ls ((11, o) :: st) σ := r_getf (ci := 1) (k := 1) (o := o) (by decide) (by decide) (by rw [hM]; exact lk_X2_15) hd h
theorem lk_X2_18 : Cond.fieldLink RX2 18 "StoneRaised$Formula" "size" "I" ∈ lwG := lwc_1 62 (by decide +kernel) (by decide +kernel)
theorem gf_X2_18 {g : GT} {d : Nat} {M : MI} {Q : Int → Sg → Prop} {pc : Nat} {ls st : List AV} {σ : Sg} {o : Int} (hM : M.1.cls = RX2) (hd : decode M.2.1 pc = .ok (.getfield 18, 3)) (h : Wp g d M Q (pc + 3) ls ((0, (σ o 2)) :: st) σ) : Wp g d M Q pc ls ((11, o) :: st) σ := r_getf (ci := 1) (k := 2) (o := o) (by decide) (by decide) (by rw [hM]; exact lk_X2_18) hd h
theorem pf_X2_18 {g : GT} {d : Nat} {M : MI} {Q : Int → Sg → Prop} {pc : Nat} {ls st : List AV} {σ : Sg} {o : Int} {v : Int} (hM : M.1.cls = RX2) (hd : decode M.2.1 pc = .ok (.putfield 18, 3)) (h : Wp g d M Q (pc + 3) ls st (ups σ o 2 v)) : Wp g d M Q pc ls ((0, v) :: (11, o) :: st) σ := r_putf (ci := 1) (k := 2) (o := o) (by decide) (by decide) (by rw [hM]; exact lk_X2_18) rfl rfl rfl rfl hd h
theorem lk_X3_11 : Cond.fieldLink RX3 11 "StoneRaised$Image" "bytes" "[I" ∈ lwG := lwc_2 166 (by decide +kernel) (by decide +kernel)
theorem gf_X3_11 {g : GT} {d : Nat} {M : MI} {Q : Int → Sg → Prop} {pc : Nat} {ls st : List AV} {σ : Sg} (hM : M.1.cls = RX3) (hd : decode M.2.1 pc = .ok (.getfield 11, 3)) (h : Wp g d M Q (pc + 3) ls ((44, 90) :: st) σ) : Wp g d M Q pc ls ((12, 89) :: st) σ := r_getf (ci := 2) (k := 0) (o := 89) (by decide) (by decide) (by rw [hM]; exact lk_X3_11) hd h
theorem lk_X3_15 : Cond.fieldLink RX3 15 "StoneRaised$Image" "size" "I" ∈ lwG := lwc_2 168 (by decide +kernel) (by decide +kernel)
theorem gf_X3_15 {g : GT} {d : Nat} {M : MI} {Q : Int → Sg → Prop} {pc : Nat} {ls st : List AV} {σ : Sg} (hM : M.1.cls = RX3) (hd : decode M.2.1 pc = .ok (.getfield 15, 3)) (h : Wp g d M Q (pc + 3) ls ((0, (σ 89 1)) :: st) σ) : Wp g d M Q pc ls ((12, 89) :: st) σ := r_getf (ci := 2) (k := 1) (o := 89) (by decide) (by decide) (by rw [hM]; exact lk_X3_15) hd h
theorem pf_X3_15 {g : GT} {d : Nat} {M : MI} {Q : Int → Sg → Prop} {pc : Nat} {ls st : List AV} {σ : Sg} {v : Int} (hM : M.1.cls = RX3) (hd : decode M.2.1 pc = .ok (.putfield 15, 3)) (h : Wp g d M Q (pc + 3) ls st (ups σ 89 1 v)) : Wp g d M Q pc ls ((0, v) :: (12, 89) :: st) σ := r_putf (ci := 2) (k := 1) (o := 89) (by decide) (by decide) (by rw [hM]; exact lk_X3_15) rfl rfl rfl rfl hd h
theorem lk_X3_19 : Cond.fieldLink RX3 19 "StoneRaised$World" "year" "I" ∈ lwG := lwc_2 31 (by decide +kernel) (by decide +kernel)
theorem gf_X3_19 {g : GT} {d : Nat} {M : MI} {Q : Int → Sg → Prop} {pc : Nat} {ls st : List AV} {σ : Sg} {o : Int} (hM : M.1.cls = RX3) (hd : decode M.2.1 pc = .ok (.getfield 19, 3)) (h : Wp g d M Q (pc + 3) ls ((0, (σ o 1)) :: st) σ) : Wp g d M Q pc ls ((19, o) :: st) σ := r_getf (ci := 9) (k := 1) (o := o) (by decide) (by decide) (by rw [hM]; exact lk_X3_19) hd h
theorem pf_X3_19 {g : GT} {d : Nat} {M : MI} {Q : Int → Sg → Prop} {pc : Nat} {ls st : List AV} {σ : Sg} {o : Int} {v : Int} (hM : M.1.cls = RX3) (hd : decode M.2.1 pc = .ok (.putfield 19, 3)) (h : Wp g d M Q (pc + 3) ls st (ups σ o 1 v)) : Wp g d M Q pc ls ((0, v) :: (19, o) :: st) σ := r_putf (ci := 9) (k := 1) (o := o) (by decide) (by decide) (by rw [hM]; exact lk_X3_19) rfl rfl rfl rfl hd h
theorem lk_X3_28 : Cond.fieldLink RX3 28 "StoneRaised$World" "town" "LStoneRaised$Town;" ∈ lwG := lwc_2 28 (by decide +kernel) (by decide +kernel)
theorem gf_X3_28 {g : GT} {d : Nat} {M : MI} {Q : Int → Sg → Prop} {pc : Nat} {ls st : List AV} {σ : Sg} {o : Int} (hM : M.1.cls = RX3) (hd : decode M.2.1 pc = .ok (.getfield 28, 3)) (h : Wp g d M Q (pc + 3) ls ((18, (σ o 0)) :: st) σ) : Wp g d M Q pc ls ((19, o) :: st) σ := r_getf (ci := 9) (k := 0) (o := o) (by decide) (by decide) (by rw [hM]; exact lk_X3_28) hd h
theorem pf_X3_28 {g : GT} {d : Nat} {M : MI} {Q : Int → Sg → Prop} {pc : Nat} {ls st : List AV} {σ : Sg} {o : Int} {v : Int} (hM : M.1.cls = RX3) (hd : decode M.2.1 pc = .ok (.putfield 28, 3)) (h : Wp g d M Q (pc + 3) ls st (ups σ o 0 v)) : Wp g d M Q pc ls ((18, v) :: (19, o) :: st) σ := r_putf (ci := 9) (k := 0) (o := o) (by decide) (by decide) (by rw [hM]; exact lk_X3_28) rfl rfl (by rw [conc_o (by decide)]; rfl) (by rw [conc_o (by decide)]; rfl) hd h
theorem lk_X3_38 : Cond.fieldLink RX3 38 "StoneRaised$World" "place" "[I" ∈ lwG := lwc_2 49 (by decide +kernel) (by decide +kernel)
theorem gf_X3_38 {g : GT} {d : Nat} {M : MI} {Q : Int → Sg → Prop} {pc : Nat} {ls st : List AV} {σ : Sg} {o : Int} (hM : M.1.cls = RX3) (hd : decode M.2.1 pc = .ok (.getfield 38, 3)) (h : Wp g d M Q (pc + 3) ls ((33, (o + 3)) :: st) σ) : Wp g d M Q pc ls ((19, o) :: st) σ := r_getf (ci := 9) (k := 5) (o := o) (by decide) (by decide) (by rw [hM]; exact lk_X3_38) hd h
theorem lk_X3_41 : Cond.fieldLink RX3 41 "StoneRaised$World" "homeOf" "[I" ∈ lwG := lwc_2 41 (by decide +kernel) (by decide +kernel)
theorem gf_X3_41 {g : GT} {d : Nat} {M : MI} {Q : Int → Sg → Prop} {pc : Nat} {ls st : List AV} {σ : Sg} {o : Int} (hM : M.1.cls = RX3) (hd : decode M.2.1 pc = .ok (.getfield 41, 3)) (h : Wp g d M Q (pc + 3) ls ((33, (o + 1)) :: st) σ) : Wp g d M Q pc ls ((19, o) :: st) σ := r_getf (ci := 9) (k := 3) (o := o) (by decide) (by decide) (by rw [hM]; exact lk_X3_41) hd h
theorem lk_X3_47 : Cond.fieldLink RX3 47 "StoneRaised$World" "strong" "[I" ∈ lwG := lwc_2 45 (by decide +kernel) (by decide +kernel)
theorem gf_X3_47 {g : GT} {d : Nat} {M : MI} {Q : Int → Sg → Prop} {pc : Nat} {ls st : List AV} {σ : Sg} {o : Int} (hM : M.1.cls = RX3) (hd : decode M.2.1 pc = .ok (.getfield 47, 3)) (h : Wp g d M Q (pc + 3) ls ((33, (o + 2)) :: st) σ) : Wp g d M Q pc ls ((19, o) :: st) σ := r_getf (ci := 9) (k := 4) (o := o) (by decide) (by decide) (by rw [hM]; exact lk_X3_47) hd h
theorem lk_X3_54 : Cond.fieldLink RX3 54 "StoneRaised$Town" "feuds" "I" ∈ lwG := lwc_1 123 (by decide +kernel) (by decide +kernel)
theorem gf_X3_54 {g : GT} {d : Nat} {M : MI} {Q : Int → Sg → Prop} {pc : Nat} {ls st : List AV} {σ : Sg} {o : Int} (hM : M.1.cls = RX3) (hd : decode M.2.1 pc = .ok (.getfield 54, 3)) (h : Wp g d M Q (pc + 3) ls ((0, (σ o 13)) :: st) σ) : Wp g d M Q pc ls ((18, o) :: st) σ := r_getf (ci := 8) (k := 13) (o := o) (by decide) (by decide) (by rw [hM]; exact lk_X3_54) hd h
theorem pf_X3_54 {g : GT} {d : Nat} {M : MI} {Q : Int → Sg → Prop} {pc : Nat} {ls st : List AV} {σ : Sg} {o : Int} {v : Int} (hM : M.1.cls = RX3) (hd : decode M.2.1 pc = .ok (.putfield 54, 3)) (h : Wp g d M Q (pc + 3) ls st (ups σ o 13 v)) : Wp g d M Q pc ls ((0, v) :: (18, o) :: st) σ := r_putf (ci := 8) (k := 13) (o := o) (by decide) (by decide) (by rw [hM]; exact lk_X3_54) rfl rfl rfl rfl hd h
theorem lk_X3_57 : Cond.fieldLink RX3 57 "StoneRaised$World" "ended" "I" ∈ lwG := lwc_2 37 (by decide +kernel) (by decide +kernel)
theorem gf_X3_57 {g : GT} {d : Nat} {M : MI} {Q : Int → Sg → Prop} {pc : Nat} {ls st : List AV} {σ : Sg} {o : Int} (hM : M.1.cls = RX3) (hd : decode M.2.1 pc = .ok (.getfield 57, 3)) (h : Wp g d M Q (pc + 3) ls ((0, (σ o 2)) :: st) σ) : Wp g d M Q pc ls ((19, o) :: st) σ := r_getf (ci := 9) (k := 2) (o := o) (by decide) (by decide) (by rw [hM]; exact lk_X3_57) hd h
theorem pf_X3_57 {g : GT} {d : Nat} {M : MI} {Q : Int → Sg → Prop} {pc : Nat} {ls st : List AV} {σ : Sg} {o : Int} {v : Int} (hM : M.1.cls = RX3) (hd : decode M.2.1 pc = .ok (.putfield 57, 3)) (h : Wp g d M Q (pc + 3) ls st (ups σ o 2 v)) : Wp g d M Q pc ls ((0, v) :: (19, o) :: st) σ := r_putf (ci := 9) (k := 2) (o := o) (by decide) (by decide) (by rw [hM]; exact lk_X3_57) rfl rfl rfl rfl hd h
theorem lk_X3_64 : Cond.fieldLink RX3 64 "StoneRaised$Tape" "size" "I" ∈ lwG := lwc_1 38 (by decide +kernel) (by decide +kernel)
theorem gf_X3_64 {g : GT} {d : Nat} {M : MI} {Q : Int → Sg → Prop} {pc : Nat} {ls st : List AV} {σ : Sg} (hM : M.1.cls = RX3) (hd : decode M.2.1 pc = .ok (.getfield 64, 3)) (h : Wp g d M Q (pc + 3) ls ((0, (σ 2 1)) :: st) σ) : Wp g d M Q pc ls ((17, 2) :: st) σ := r_getf (ci := 7) (k := 1) (o := 2) (by decide) (by decide) (by rw [hM]; exact lk_X3_64) hd h
theorem pf_X3_64 {g : GT} {d : Nat} {M : MI} {Q : Int → Sg → Prop} {pc : Nat} {ls st : List AV} {σ : Sg} {v : Int} (hM : M.1.cls = RX3) (hd : decode M.2.1 pc = .ok (.putfield 64, 3)) (h : Wp g d M Q (pc + 3) ls st (ups σ 2 1 v)) : Wp g d M Q pc ls ((0, v) :: (17, 2) :: st) σ := r_putf (ci := 7) (k := 1) (o := 2) (by decide) (by decide) (by rw [hM]; exact lk_X3_64) rfl rfl rfl rfl hd h
theorem lk_X3_99 : Cond.fieldLink RX3 99 "StoneRaised$Town" "wide" "[I" ∈ lwG := lwc_1 104 (by decide +kernel) (by decide +kernel)
theorem gf_X3_99 {g : GT} {d : Nat} {M : MI} {Q : Int → Sg → Prop} {pc : Nat} {ls st : List AV} {σ : Sg} {o : Int} (hM : M.1.cls = RX3) (hd : decode M.2.1 pc = .ok (.getfield 99, 3)) (h : Wp g d M Q (pc + 3) ls ((35, (o + 11)) :: st) σ) : Wp g d M Q pc ls ((18, o) :: st) σ := r_getf (ci := 8) (k := 7) (o := o) (by decide) (by decide) (by rw [hM]; exact lk_X3_99) hd h
theorem lk_X3_102 : Cond.fieldLink RX3 102 "StoneRaised$Town" "high" "[I" ∈ lwG := lwc_1 109 (by decide +kernel) (by decide +kernel)
theorem gf_X3_102 {g : GT} {d : Nat} {M : MI} {Q : Int → Sg → Prop} {pc : Nat} {ls st : List AV} {σ : Sg} {o : Int} (hM : M.1.cls = RX3) (hd : decode M.2.1 pc = .ok (.getfield 102, 3)) (h : Wp g d M Q (pc + 3) ls ((35, (o + 12)) :: st) σ) : Wp g d M Q pc ls ((18, o) :: st) σ := r_getf (ci := 8) (k := 8) (o := o) (by decide) (by decide) (by rw [hM]; exact lk_X3_102) hd h
theorem lk_X3_109 : Cond.fieldLink RX3 109 "StoneRaised$World" "lies" "[I" ∈ lwG := lwc_2 55 (by decide +kernel) (by decide +kernel)
theorem gf_X3_109 {g : GT} {d : Nat} {M : MI} {Q : Int → Sg → Prop} {pc : Nat} {ls st : List AV} {σ : Sg} {o : Int} (hM : M.1.cls = RX3) (hd : decode M.2.1 pc = .ok (.getfield 109, 3)) (h : Wp g d M Q (pc + 3) ls ((39, (o + 4)) :: st) σ) : Wp g d M Q pc ls ((19, o) :: st) σ := r_getf (ci := 9) (k := 6) (o := o) (by decide) (by decide) (by rw [hM]; exact lk_X3_109) hd h
theorem lk_X4_14 : Cond.fieldLink RX4 14 "StoneRaised$Parser" "reader" "LStoneRaised$Reader;" ∈ lwG := lwc_1 228 (by decide +kernel) (by decide +kernel)
theorem gf_X4_14 {g : GT} {d : Nat} {M : MI} {Q : Int → Sg → Prop} {pc : Nat} {ls st : List AV} {σ : Sg} (hM : M.1.cls = RX4) (hd : decode M.2.1 pc = .ok (.getfield 14, 3)) (h : Wp g d M Q (pc + 3) ls ((15, 47) :: st) σ) : Wp g d M Q pc ls ((13, 46) :: st) σ := r_getf (ci := 3) (k := 0) (o := 46) (by decide) (by decide) (by rw [hM]; exact lk_X4_14) hd h
theorem lk_X4_20 : Cond.fieldLink RX4 20 "StoneRaised$Parser" "draft" "LStoneRaised$Town;" ∈ lwG := lwc_1 230 (by decide +kernel) (by decide +kernel)
theorem gf_X4_20 {g : GT} {d : Nat} {M : MI} {Q : Int → Sg → Prop} {pc : Nat} {ls st : List AV} {σ : Sg} (hM : M.1.cls = RX4) (hd : decode M.2.1 pc = .ok (.getfield 20, 3)) (h : Wp g d M Q (pc + 3) ls ((18, (σ 46 1)) :: st) σ) : Wp g d M Q pc ls ((13, 46) :: st) σ := r_getf (ci := 3) (k := 1) (o := 46) (by decide) (by decide) (by rw [hM]; exact lk_X4_20) hd h
theorem pf_X4_20 {g : GT} {d : Nat} {M : MI} {Q : Int → Sg → Prop} {pc : Nat} {ls st : List AV} {σ : Sg} {v : Int} (hM : M.1.cls = RX4) (hd : decode M.2.1 pc = .ok (.putfield 20, 3)) (h : Wp g d M Q (pc + 3) ls st (ups σ 46 1 v)) : Wp g d M Q pc ls ((18, v) :: (13, 46) :: st) σ := r_putf (ci := 3) (k := 1) (o := 46) (by decide) (by decide) (by rw [hM]; exact lk_X4_20) rfl rfl (by rw [conc_o (by decide)]; rfl) (by rw [conc_o (by decide)]; rfl) hd h
theorem lk_X4_24 : Cond.fieldLink RX4 24 "StoneRaised$Town" "gains" "LStoneRaised$Formula;" ∈ lwG := lwc_1 115 (by decide +kernel) (by decide +kernel)
theorem gf_X4_24 {g : GT} {d : Nat} {M : MI} {Q : Int → Sg → Prop} {pc : Nat} {ls st : List AV} {σ : Sg} {o : Int} (hM : M.1.cls = RX4) (hd : decode M.2.1 pc = .ok (.getfield 24, 3)) (h : Wp g d M Q (pc + 3) ls ((11, (o + 14)) :: st) σ) : Wp g d M Q pc ls ((18, o) :: st) σ := r_getf (ci := 8) (k := 10) (o := o) (by decide) (by decide) (by rw [hM]; exact lk_X4_24) hd h
theorem lk_X4_30 : Cond.fieldLink RX4 30 "StoneRaised$Parser" "formula" "LStoneRaised$Formula;" ∈ lwG := lwc_1 231 (by decide +kernel) (by decide +kernel)
theorem gf_X4_30 {g : GT} {d : Nat} {M : MI} {Q : Int → Sg → Prop} {pc : Nat} {ls st : List AV} {σ : Sg} (hM : M.1.cls = RX4) (hd : decode M.2.1 pc = .ok (.getfield 30, 3)) (h : Wp g d M Q (pc + 3) ls ((11, (σ 46 2)) :: st) σ) : Wp g d M Q pc ls ((13, 46) :: st) σ := r_getf (ci := 3) (k := 2) (o := 46) (by decide) (by decide) (by rw [hM]; exact lk_X4_30) hd h
theorem pf_X4_30 {g : GT} {d : Nat} {M : MI} {Q : Int → Sg → Prop} {pc : Nat} {ls st : List AV} {σ : Sg} {v : Int} (hM : M.1.cls = RX4) (hd : decode M.2.1 pc = .ok (.putfield 30, 3)) (h : Wp g d M Q (pc + 3) ls st (ups σ 46 2 v)) : Wp g d M Q pc ls ((11, v) :: (13, 46) :: st) σ := r_putf (ci := 3) (k := 2) (o := 46) (by decide) (by decide) (by rw [hM]; exact lk_X4_30) rfl rfl (by rw [conc_o (by decide)]; rfl) (by rw [conc_o (by decide)]; rfl) hd h
theorem lk_X4_46 : Cond.fieldLink RX4 46 "StoneRaised$Reader" "next" "I" ∈ lwG := lwc_1 206 (by decide +kernel) (by decide +kernel)
theorem gf_X4_46 {g : GT} {d : Nat} {M : MI} {Q : Int → Sg → Prop} {pc : Nat} {ls st : List AV} {σ : Sg} (hM : M.1.cls = RX4) (hd : decode M.2.1 pc = .ok (.getfield 46, 3)) (h : Wp g d M Q (pc + 3) ls ((0, (σ 47 5)) :: st) σ) : Wp g d M Q pc ls ((15, 47) :: st) σ := r_getf (ci := 5) (k := 5) (o := 47) (by decide) (by decide) (by rw [hM]; exact lk_X4_46) hd h
theorem pf_X4_46 {g : GT} {d : Nat} {M : MI} {Q : Int → Sg → Prop} {pc : Nat} {ls st : List AV} {σ : Sg} {v : Int} (hM : M.1.cls = RX4) (hd : decode M.2.1 pc = .ok (.putfield 46, 3)) (h : Wp g d M Q (pc + 3) ls st (ups σ 47 5 v)) : Wp g d M Q pc ls ((0, v) :: (15, 47) :: st) σ := r_putf (ci := 5) (k := 5) (o := 47) (by decide) (by decide) (by rw [hM]; exact lk_X4_46) rfl rfl rfl rfl hd h
theorem lk_X4_57 : Cond.fieldLink RX4 57 "StoneRaised$1" "$SwitchMap$StoneRaised$Word" "[I" ∈ lwG := lwc_3 61 (by decide +kernel) (by decide +kernel)
theorem lk_X4_63 : Cond.fieldLink RX4 63 "StoneRaised$Reader" "word" "LStoneRaised$Word;" ∈ lwG := lwc_1 203 (by decide +kernel) (by decide +kernel)
theorem gf_X4_63 {g : GT} {d : Nat} {M : MI} {Q : Int → Sg → Prop} {pc : Nat} {ls st : List AV} {σ : Sg} (hM : M.1.cls = RX4) (hd : decode M.2.1 pc = .ok (.getfield 63, 3)) (h : Wp g d M Q (pc + 3) ls ((3, (σ 47 3)) :: st) σ) : Wp g d M Q pc ls ((15, 47) :: st) σ := r_getf (ci := 5) (k := 3) (o := 47) (by decide) (by decide) (by rw [hM]; exact lk_X4_63) hd h
theorem pf_X4_63 {g : GT} {d : Nat} {M : MI} {Q : Int → Sg → Prop} {pc : Nat} {ls st : List AV} {σ : Sg} {v : Int} (hM : M.1.cls = RX4) (hd : decode M.2.1 pc = .ok (.putfield 63, 3)) (h : Wp g d M Q (pc + 3) ls st (ups σ 47 3 v)) : Wp g d M Q pc ls ((3, v) :: (15, 47) :: st) σ := r_putf (ci := 5) (k := 3) (o := 47) (by decide) (by decide) (by rw [hM]; exact lk_X4_63) rfl rfl rfl rfl hd h
theorem lk_X4_92 : Cond.fieldLink RX4 92 "StoneRaised$Town" "may" "LStoneRaised$Formula;" ∈ lwG := lwc_1 118 (by decide +kernel) (by decide +kernel)
theorem gf_X4_92 {g : GT} {d : Nat} {M : MI} {Q : Int → Sg → Prop} {pc : Nat} {ls st : List AV} {σ : Sg} {o : Int} (hM : M.1.cls = RX4) (hd : decode M.2.1 pc = .ok (.getfield 92, 3)) (h : Wp g d M Q (pc + 3) ls ((11, (o + 17)) :: st) σ) : Wp g d M Q pc ls ((18, o) :: st) σ := r_getf (ci := 8) (k := 11) (o := o) (by decide) (by decide) (by rw [hM]; exact lk_X4_92) hd h
theorem lk_X4_102 : Cond.fieldLink RX4 102 "StoneRaised$Town" "weighs" "I" ∈ lwG := lwc_1 134 (by decide +kernel) (by decide +kernel)
theorem gf_X4_102 {g : GT} {d : Nat} {M : MI} {Q : Int → Sg → Prop} {pc : Nat} {ls st : List AV} {σ : Sg} {o : Int} (hM : M.1.cls = RX4) (hd : decode M.2.1 pc = .ok (.getfield 102, 3)) (h : Wp g d M Q (pc + 3) ls ((0, (σ o 16)) :: st) σ) : Wp g d M Q pc ls ((18, o) :: st) σ := r_getf (ci := 8) (k := 16) (o := o) (by decide) (by decide) (by rw [hM]; exact lk_X4_102) hd h
theorem pf_X4_102 {g : GT} {d : Nat} {M : MI} {Q : Int → Sg → Prop} {pc : Nat} {ls st : List AV} {σ : Sg} {o : Int} {v : Int} (hM : M.1.cls = RX4) (hd : decode M.2.1 pc = .ok (.putfield 102, 3)) (h : Wp g d M Q (pc + 3) ls st (ups σ o 16 v)) : Wp g d M Q pc ls ((0, v) :: (18, o) :: st) σ := r_putf (ci := 8) (k := 16) (o := o) (by decide) (by decide) (by rw [hM]; exact lk_X4_102) rfl rfl rfl rfl hd h
theorem lk_X4_105 : Cond.fieldLink RX4 105 "StoneRaised$Town" "frost" "I" ∈ lwG := lwc_1 138 (by decide +kernel) (by decide +kernel)
theorem gf_X4_105 {g : GT} {d : Nat} {M : MI} {Q : Int → Sg → Prop} {pc : Nat} {ls st : List AV} {σ : Sg} {o : Int} (hM : M.1.cls = RX4) (hd : decode M.2.1 pc = .ok (.getfield 105, 3)) (h : Wp g d M Q (pc + 3) ls ((0, (σ o 17)) :: st) σ) : Wp g d M Q pc ls ((18, o) :: st) σ := r_getf (ci := 8) (k := 17) (o := o) (by decide) (by decide) (by rw [hM]; exact lk_X4_105) hd h
theorem pf_X4_105 {g : GT} {d : Nat} {M : MI} {Q : Int → Sg → Prop} {pc : Nat} {ls st : List AV} {σ : Sg} {o : Int} {v : Int} (hM : M.1.cls = RX4) (hd : decode M.2.1 pc = .ok (.putfield 105, 3)) (h : Wp g d M Q (pc + 3) ls st (ups σ o 17 v)) : Wp g d M Q pc ls ((0, v) :: (18, o) :: st) σ := r_putf (ci := 8) (k := 17) (o := o) (by decide) (by decide) (by rw [hM]; exact lk_X4_105) rfl rfl rfl rfl hd h
theorem lk_X4_108 : Cond.fieldLink RX4 108 "StoneRaised$Town" "bites" "I" ∈ lwG := lwc_1 141 (by decide +kernel) (by decide +kernel)
theorem gf_X4_108 {g : GT} {d : Nat} {M : MI} {Q : Int → Sg → Prop} {pc : Nat} {ls st : List AV} {σ : Sg} {o : Int} (hM : M.1.cls = RX4) (hd : decode M.2.1 pc = .ok (.getfield 108, 3)) (h : Wp g d M Q (pc + 3) ls ((0, (σ o 18)) :: st) σ) : Wp g d M Q pc ls ((18, o) :: st) σ := r_getf (ci := 8) (k := 18) (o := o) (by decide) (by decide) (by rw [hM]; exact lk_X4_108) hd h
theorem pf_X4_108 {g : GT} {d : Nat} {M : MI} {Q : Int → Sg → Prop} {pc : Nat} {ls st : List AV} {σ : Sg} {o : Int} {v : Int} (hM : M.1.cls = RX4) (hd : decode M.2.1 pc = .ok (.putfield 108, 3)) (h : Wp g d M Q (pc + 3) ls st (ups σ o 18 v)) : Wp g d M Q pc ls ((0, v) :: (18, o) :: st) σ := r_putf (ci := 8) (k := 18) (o := o) (by decide) (by decide) (by rw [hM]; exact lk_X4_108) rfl rfl rfl rfl hd h
theorem lk_X4_128 : Cond.fieldLink RX4 128 "StoneRaised$Word" "TALK" "LStoneRaised$Word;" ∈ lwG := lwc_3 98 (by decide +kernel) (by decide +kernel)
theorem lk_X4_139 : Cond.fieldLink RX4 139 "StoneRaised$Word" "WARM" "LStoneRaised$Word;" ∈ lwG := lwc_3 108 (by decide +kernel) (by decide +kernel)
theorem lk_X4_142 : Cond.fieldLink RX4 142 "StoneRaised$Town" "talk" "[I" ∈ lwG := lwc_1 86 (by decide +kernel) (by decide +kernel)
theorem gf_X4_142 {g : GT} {d : Nat} {M : MI} {Q : Int → Sg → Prop} {pc : Nat} {ls st : List AV} {σ : Sg} {o : Int} (hM : M.1.cls = RX4) (hd : decode M.2.1 pc = .ok (.getfield 142, 3)) (h : Wp g d M Q (pc + 3) ls ((34, (o + 6)) :: st) σ) : Wp g d M Q pc ls ((18, o) :: st) σ := r_getf (ci := 8) (k := 2) (o := o) (by decide) (by decide) (by rw [hM]; exact lk_X4_142) hd h
theorem lk_X4_145 : Cond.fieldLink RX4 145 "StoneRaised$Town" "warm" "[I" ∈ lwG := lwc_1 89 (by decide +kernel) (by decide +kernel)
theorem gf_X4_145 {g : GT} {d : Nat} {M : MI} {Q : Int → Sg → Prop} {pc : Nat} {ls st : List AV} {σ : Sg} {o : Int} (hM : M.1.cls = RX4) (hd : decode M.2.1 pc = .ok (.getfield 145, 3)) (h : Wp g d M Q (pc + 3) ls ((34, (o + 7)) :: st) σ) : Wp g d M Q pc ls ((18, o) :: st) σ := r_getf (ci := 8) (k := 3) (o := o) (by decide) (by decide) (by rw [hM]; exact lk_X4_145) hd h
theorem lk_X4_154 : Cond.fieldLink RX4 154 "StoneRaised$Word" "OF" "LStoneRaised$Word;" ∈ lwG := lwc_3 122 (by decide +kernel) (by decide +kernel)
theorem lk_X4_160 : Cond.fieldLink RX4 160 "StoneRaised$Word" "BORN" "LStoneRaised$Word;" ∈ lwG := lwc_3 129 (by decide +kernel) (by decide +kernel)
theorem lk_X4_163 : Cond.fieldLink RX4 163 "StoneRaised$Town" "firstHome" "[I" ∈ lwG := lwc_1 93 (by decide +kernel) (by decide +kernel)
theorem gf_X4_163 {g : GT} {d : Nat} {M : MI} {Q : Int → Sg → Prop} {pc : Nat} {ls st : List AV} {σ : Sg} {o : Int} (hM : M.1.cls = RX4) (hd : decode M.2.1 pc = .ok (.getfield 163, 3)) (h : Wp g d M Q (pc + 3) ls ((33, (o + 8)) :: st) σ) : Wp g d M Q pc ls ((18, o) :: st) σ := r_getf (ci := 8) (k := 4) (o := o) (by decide) (by decide) (by rw [hM]; exact lk_X4_163) hd h
theorem lk_X4_166 : Cond.fieldLink RX4 166 "StoneRaised$Town" "born" "[I" ∈ lwG := lwc_1 95 (by decide +kernel) (by decide +kernel)
theorem gf_X4_166 {g : GT} {d : Nat} {M : MI} {Q : Int → Sg → Prop} {pc : Nat} {ls st : List AV} {σ : Sg} {o : Int} (hM : M.1.cls = RX4) (hd : decode M.2.1 pc = .ok (.getfield 166, 3)) (h : Wp g d M Q (pc + 3) ls ((33, (o + 9)) :: st) σ) : Wp g d M Q pc ls ((18, o) :: st) σ := r_getf (ci := 8) (k := 5) (o := o) (by decide) (by decide) (by rw [hM]; exact lk_X4_166) hd h
theorem lk_X4_172 : Cond.fieldLink RX4 172 "StoneRaised$Town" "twin" "[I" ∈ lwG := lwc_1 99 (by decide +kernel) (by decide +kernel)
theorem gf_X4_172 {g : GT} {d : Nat} {M : MI} {Q : Int → Sg → Prop} {pc : Nat} {ls st : List AV} {σ : Sg} {o : Int} (hM : M.1.cls = RX4) (hd : decode M.2.1 pc = .ok (.getfield 172, 3)) (h : Wp g d M Q (pc + 3) ls ((33, (o + 10)) :: st) σ) : Wp g d M Q pc ls ((18, o) :: st) σ := r_getf (ci := 8) (k := 6) (o := o) (by decide) (by decide) (by rw [hM]; exact lk_X4_172) hd h
theorem lk_X4_175 : Cond.fieldLink RX4 175 "StoneRaised$Town" "feuds" "I" ∈ lwG := lwc_1 125 (by decide +kernel) (by decide +kernel)
theorem gf_X4_175 {g : GT} {d : Nat} {M : MI} {Q : Int → Sg → Prop} {pc : Nat} {ls st : List AV} {σ : Sg} {o : Int} (hM : M.1.cls = RX4) (hd : decode M.2.1 pc = .ok (.getfield 175, 3)) (h : Wp g d M Q (pc + 3) ls ((0, (σ o 13)) :: st) σ) : Wp g d M Q pc ls ((18, o) :: st) σ := r_getf (ci := 8) (k := 13) (o := o) (by decide) (by decide) (by rw [hM]; exact lk_X4_175) hd h
theorem pf_X4_175 {g : GT} {d : Nat} {M : MI} {Q : Int → Sg → Prop} {pc : Nat} {ls st : List AV} {σ : Sg} {o : Int} {v : Int} (hM : M.1.cls = RX4) (hd : decode M.2.1 pc = .ok (.putfield 175, 3)) (h : Wp g d M Q (pc + 3) ls st (ups σ o 13 v)) : Wp g d M Q pc ls ((0, v) :: (18, o) :: st) σ := r_putf (ci := 8) (k := 13) (o := o) (by decide) (by decide) (by rw [hM]; exact lk_X4_175) rfl rfl rfl rfl hd h
theorem lk_X4_181 : Cond.fieldLink RX4 181 "StoneRaised$Town" "pairs" "[I" ∈ lwG := lwc_1 114 (by decide +kernel) (by decide +kernel)
theorem gf_X4_181 {g : GT} {d : Nat} {M : MI} {Q : Int → Sg → Prop} {pc : Nat} {ls st : List AV} {σ : Sg} {o : Int} (hM : M.1.cls = RX4) (hd : decode M.2.1 pc = .ok (.getfield 181, 3)) (h : Wp g d M Q (pc + 3) ls ((36, (o + 13)) :: st) σ) : Wp g d M Q pc ls ((18, o) :: st) σ := r_getf (ci := 8) (k := 9) (o := o) (by decide) (by decide) (by rw [hM]; exact lk_X4_181) hd h
theorem lk_X4_187 : Cond.fieldLink RX4 187 "StoneRaised$Word" "WIDE" "LStoneRaised$Word;" ∈ lwG := lwc_3 156 (by decide +kernel) (by decide +kernel)
theorem lk_X4_190 : Cond.fieldLink RX4 190 "StoneRaised$Word" "HIGH" "LStoneRaised$Word;" ∈ lwG := lwc_3 158 (by decide +kernel) (by decide +kernel)
theorem lk_X4_193 : Cond.fieldLink RX4 193 "StoneRaised$Town" "wide" "[I" ∈ lwG := lwc_1 105 (by decide +kernel) (by decide +kernel)
theorem gf_X4_193 {g : GT} {d : Nat} {M : MI} {Q : Int → Sg → Prop} {pc : Nat} {ls st : List AV} {σ : Sg} {o : Int} (hM : M.1.cls = RX4) (hd : decode M.2.1 pc = .ok (.getfield 193, 3)) (h : Wp g d M Q (pc + 3) ls ((35, (o + 11)) :: st) σ) : Wp g d M Q pc ls ((18, o) :: st) σ := r_getf (ci := 8) (k := 7) (o := o) (by decide) (by decide) (by rw [hM]; exact lk_X4_193) hd h
theorem lk_X4_196 : Cond.fieldLink RX4 196 "StoneRaised$Town" "high" "[I" ∈ lwG := lwc_1 110 (by decide +kernel) (by decide +kernel)
theorem gf_X4_196 {g : GT} {d : Nat} {M : MI} {Q : Int → Sg → Prop} {pc : Nat} {ls st : List AV} {σ : Sg} {o : Int} (hM : M.1.cls = RX4) (hd : decode M.2.1 pc = .ok (.getfield 196, 3)) (h : Wp g d M Q (pc + 3) ls ((35, (o + 12)) :: st) σ) : Wp g d M Q pc ls ((18, o) :: st) σ := r_getf (ci := 8) (k := 8) (o := o) (by decide) (by decide) (by rw [hM]; exact lk_X4_196) hd h
theorem lk_X4_199 : Cond.fieldLink RX4 199 "StoneRaised$Town" "raisedFrom" "I" ∈ lwG := lwc_1 128 (by decide +kernel) (by decide +kernel)
theorem gf_X4_199 {g : GT} {d : Nat} {M : MI} {Q : Int → Sg → Prop} {pc : Nat} {ls st : List AV} {σ : Sg} {o : Int} (hM : M.1.cls = RX4) (hd : decode M.2.1 pc = .ok (.getfield 199, 3)) (h : Wp g d M Q (pc + 3) ls ((0, (σ o 14)) :: st) σ) : Wp g d M Q pc ls ((18, o) :: st) σ := r_getf (ci := 8) (k := 14) (o := o) (by decide) (by decide) (by rw [hM]; exact lk_X4_199) hd h
theorem pf_X4_199 {g : GT} {d : Nat} {M : MI} {Q : Int → Sg → Prop} {pc : Nat} {ls st : List AV} {σ : Sg} {o : Int} {v : Int} (hM : M.1.cls = RX4) (hd : decode M.2.1 pc = .ok (.putfield 199, 3)) (h : Wp g d M Q (pc + 3) ls st (ups σ o 14 v)) : Wp g d M Q pc ls ((0, v) :: (18, o) :: st) σ := r_putf (ci := 8) (k := 14) (o := o) (by decide) (by decide) (by rw [hM]; exact lk_X4_199) rfl rfl rfl rfl hd h
theorem lk_X4_202 : Cond.fieldLink RX4 202 "StoneRaised$Word" "TO" "LStoneRaised$Word;" ∈ lwG := lwc_3 236 (by decide +kernel) (by decide +kernel)
theorem lk_X4_205 : Cond.fieldLink RX4 205 "StoneRaised$Town" "raisedTo" "I" ∈ lwG := lwc_1 132 (by decide +kernel) (by decide +kernel)
theorem gf_X4_205 {g : GT} {d : Nat} {M : MI} {Q : Int → Sg → Prop} {pc : Nat} {ls st : List AV} {σ : Sg} {o : Int} (hM : M.1.cls = RX4) (hd : decode M.2.1 pc = .ok (.getfield 205, 3)) (h : Wp g d M Q (pc + 3) ls ((0, (σ o 15)) :: st) σ) : Wp g d M Q pc ls ((18, o) :: st) σ := r_getf (ci := 8) (k := 15) (o := o) (by decide) (by decide) (by rw [hM]; exact lk_X4_205) hd h
theorem pf_X4_205 {g : GT} {d : Nat} {M : MI} {Q : Int → Sg → Prop} {pc : Nat} {ls st : List AV} {σ : Sg} {o : Int} {v : Int} (hM : M.1.cls = RX4) (hd : decode M.2.1 pc = .ok (.putfield 205, 3)) (h : Wp g d M Q (pc + 3) ls st (ups σ o 15 v)) : Wp g d M Q pc ls ((0, v) :: (18, o) :: st) σ := r_putf (ci := 8) (k := 15) (o := o) (by decide) (by decide) (by rw [hM]; exact lk_X4_205) rfl rfl rfl rfl hd h
theorem lk_X4_208 : Cond.fieldLink RX4 208 "StoneRaised$Formula" "size" "I" ∈ lwG := lwc_1 64 (by decide +kernel) (by decide +kernel)
theorem gf_X4_208 {g : GT} {d : Nat} {M : MI} {Q : Int → Sg → Prop} {pc : Nat} {ls st : List AV} {σ : Sg} {o : Int} (hM : M.1.cls = RX4) (hd : decode M.2.1 pc = .ok (.getfield 208, 3)) (h : Wp g d M Q (pc + 3) ls ((0, (σ o 2)) :: st) σ) : Wp g d M Q pc ls ((11, o) :: st) σ := r_getf (ci := 1) (k := 2) (o := o) (by decide) (by decide) (by rw [hM]; exact lk_X4_208) hd h
theorem pf_X4_208 {g : GT} {d : Nat} {M : MI} {Q : Int → Sg → Prop} {pc : Nat} {ls st : List AV} {σ : Sg} {o : Int} {v : Int} (hM : M.1.cls = RX4) (hd : decode M.2.1 pc = .ok (.putfield 208, 3)) (h : Wp g d M Q (pc + 3) ls st (ups σ o 2 v)) : Wp g d M Q pc ls ((0, v) :: (11, o) :: st) σ := r_putf (ci := 1) (k := 2) (o := o) (by decide) (by decide) (by rw [hM]; exact lk_X4_208) rfl rfl rfl rfl hd h
theorem lk_X4_213 : Cond.fieldLink RX4 213 "StoneRaised$Parser" "inMay" "Z" ∈ lwG := lwc_1 232 (by decide +kernel) (by decide +kernel)
theorem gf_X4_213 {g : GT} {d : Nat} {M : MI} {Q : Int → Sg → Prop} {pc : Nat} {ls st : List AV} {σ : Sg} (hM : M.1.cls = RX4) (hd : decode M.2.1 pc = .ok (.getfield 213, 3)) (h : Wp g d M Q (pc + 3) ls ((0, (σ 46 3)) :: st) σ) : Wp g d M Q pc ls ((13, 46) :: st) σ := r_getf (ci := 3) (k := 3) (o := 46) (by decide) (by decide) (by rw [hM]; exact lk_X4_213) hd h
theorem pf_X4_213 {g : GT} {d : Nat} {M : MI} {Q : Int → Sg → Prop} {pc : Nat} {ls st : List AV} {σ : Sg} {v : Int} (hM : M.1.cls = RX4) (hz : v = 0 ∨ v = 1) (hd : decode M.2.1 pc = .ok (.putfield 213, 3)) (h : Wp g d M Q (pc + 3) ls st (ups σ 46 3 v)) : Wp g d M Q pc ls ((0, v) :: (13, 46) :: st) σ := r_putf (ci := 3) (k := 3) (o := 46) (by decide) (by decide) (by rw [hM]; exact lk_X4_213) rfl rfl (bz_nar hz) (bz_fit hz) hd h
theorem lk_X4_217 : Cond.fieldLink RX4 217 "StoneRaised$Parser" "open" "I" ∈ lwG := lwc_1 233 (by decide +kernel) (by decide +kernel)
theorem gf_X4_217 {g : GT} {d : Nat} {M : MI} {Q : Int → Sg → Prop} {pc : Nat} {ls st : List AV} {σ : Sg} (hM : M.1.cls = RX4) (hd : decode M.2.1 pc = .ok (.getfield 217, 3)) (h : Wp g d M Q (pc + 3) ls ((0, (σ 46 4)) :: st) σ) : Wp g d M Q pc ls ((13, 46) :: st) σ := r_getf (ci := 3) (k := 4) (o := 46) (by decide) (by decide) (by rw [hM]; exact lk_X4_217) hd h
theorem pf_X4_217 {g : GT} {d : Nat} {M : MI} {Q : Int → Sg → Prop} {pc : Nat} {ls st : List AV} {σ : Sg} {v : Int} (hM : M.1.cls = RX4) (hd : decode M.2.1 pc = .ok (.putfield 217, 3)) (h : Wp g d M Q (pc + 3) ls st (ups σ 46 4 v)) : Wp g d M Q pc ls ((0, v) :: (13, 46) :: st) σ := r_putf (ci := 3) (k := 4) (o := 46) (by decide) (by decide) (by rw [hM]; exact lk_X4_217) rfl rfl rfl rfl hd h
theorem lk_X4_225 : Cond.fieldLink RX4 225 "StoneRaised$Reader" "value" "I" ∈ lwG := lwc_1 201 (by decide +kernel) (by decide +kernel)
theorem gf_X4_225 {g : GT} {d : Nat} {M : MI} {Q : Int → Sg → Prop} {pc : Nat} {ls st : List AV} {σ : Sg} (hM : M.1.cls = RX4) (hd : decode M.2.1 pc = .ok (.getfield 225, 3)) (h : Wp g d M Q (pc + 3) ls ((0, (σ 47 2)) :: st) σ) : Wp g d M Q pc ls ((15, 47) :: st) σ := r_getf (ci := 5) (k := 2) (o := 47) (by decide) (by decide) (by rw [hM]; exact lk_X4_225) hd h
theorem pf_X4_225 {g : GT} {d : Nat} {M : MI} {Q : Int → Sg → Prop} {pc : Nat} {ls st : List AV} {σ : Sg} {v : Int} (hM : M.1.cls = RX4) (hd : decode M.2.1 pc = .ok (.putfield 225, 3)) (h : Wp g d M Q (pc + 3) ls st (ups σ 47 2 v)) : Wp g d M Q pc ls ((0, v) :: (15, 47) :: st) σ := r_putf (ci := 5) (k := 2) (o := 47) (by decide) (by decide) (by rw [hM]; exact lk_X4_225) rfl rfl rfl rfl hd h
theorem lk_X4_228 : Cond.fieldLink RX4 228 "StoneRaised$Reader" "kind" "I" ∈ lwG := lwc_1 199 (by decide +kernel) (by decide +kernel)
theorem gf_X4_228 {g : GT} {d : Nat} {M : MI} {Q : Int → Sg → Prop} {pc : Nat} {ls st : List AV} {σ : Sg} (hM : M.1.cls = RX4) (hd : decode M.2.1 pc = .ok (.getfield 228, 3)) (h : Wp g d M Q (pc + 3) ls ((0, (σ 47 1)) :: st) σ) : Wp g d M Q pc ls ((15, 47) :: st) σ := r_getf (ci := 5) (k := 1) (o := 47) (by decide) (by decide) (by rw [hM]; exact lk_X4_228) hd h
theorem pf_X4_228 {g : GT} {d : Nat} {M : MI} {Q : Int → Sg → Prop} {pc : Nat} {ls st : List AV} {σ : Sg} {v : Int} (hM : M.1.cls = RX4) (hd : decode M.2.1 pc = .ok (.putfield 228, 3)) (h : Wp g d M Q (pc + 3) ls st (ups σ 47 1 v)) : Wp g d M Q pc ls ((0, v) :: (15, 47) :: st) σ := r_putf (ci := 5) (k := 1) (o := 47) (by decide) (by decide) (by rw [hM]; exact lk_X4_228) rfl rfl rfl rfl hd h
theorem lk_X4_243 : Cond.fieldLink RX4 243 "StoneRaised$Word" "OR" "LStoneRaised$Word;" ∈ lwG := lwc_3 230 (by decide +kernel) (by decide +kernel)
theorem lk_X4_252 : Cond.fieldLink RX4 252 "StoneRaised$Word" "AND" "LStoneRaised$Word;" ∈ lwG := lwc_3 228 (by decide +kernel) (by decide +kernel)
theorem lk_X4_255 : Cond.fieldLink RX4 255 "StoneRaised$Word" "NOT" "LStoneRaised$Word;" ∈ lwG := lwc_3 176 (by decide +kernel) (by decide +kernel)
theorem lk_X4_264 : Cond.fieldLink RX4 264 "StoneRaised$Word" "ALL" "LStoneRaised$Word;" ∈ lwG := lwc_3 194 (by decide +kernel) (by decide +kernel)
theorem lk_X4_276 : Cond.fieldLink RX4 276 "StoneRaised$Word" "MIN" "LStoneRaised$Word;" ∈ lwG := lwc_3 212 (by decide +kernel) (by decide +kernel)
theorem lk_X4_282 : Cond.fieldLink RX4 282 "StoneRaised$Word" "MAX" "LStoneRaised$Word;" ∈ lwG := lwc_3 218 (by decide +kernel) (by decide +kernel)
theorem lk_X4_285 : Cond.fieldLink RX4 285 "StoneRaised$Word" "IF" "LStoneRaised$Word;" ∈ lwG := lwc_3 220 (by decide +kernel) (by decide +kernel)
theorem lk_X4_288 : Cond.fieldLink RX4 288 "StoneRaised$Word" "fact" "I" ∈ lwG := lwc_9 106 (by decide +kernel) (by decide +kernel)
theorem lk_X4_294 : Cond.fieldLink RX4 294 "StoneRaised$Word" "COURSE" "LStoneRaised$Word;" ∈ lwG := lwc_3 226 (by decide +kernel) (by decide +kernel)
theorem lk_X5_9 : Cond.fieldLink RX5 9 "StoneRaised$Plans" "best" "[I" ∈ lwG := lwc_2 108 (by decide +kernel) (by decide +kernel)
theorem gf_X5_9 {g : GT} {d : Nat} {M : MI} {Q : Int → Sg → Prop} {pc : Nat} {ls st : List AV} {σ : Sg} (hM : M.1.cls = RX5) (hd : decode M.2.1 pc = .ok (.getfield 9, 3)) (h : Wp g d M Q (pc + 3) ls ((34, 56) :: st) σ) : Wp g d M Q pc ls ((14, 55) :: st) σ := r_getf (ci := 4) (k := 1) (o := 55) (by decide) (by decide) (by rw [hM]; exact lk_X5_9) hd h
theorem lk_X5_15 : Cond.fieldLink RX5 15 "StoneRaised$Plans" "row" "[I" ∈ lwG := lwc_2 112 (by decide +kernel) (by decide +kernel)
theorem gf_X5_15 {g : GT} {d : Nat} {M : MI} {Q : Int → Sg → Prop} {pc : Nat} {ls st : List AV} {σ : Sg} (hM : M.1.cls = RX5) (hd : decode M.2.1 pc = .ok (.getfield 15, 3)) (h : Wp g d M Q (pc + 3) ls ((34, 57) :: st) σ) : Wp g d M Q pc ls ((14, 55) :: st) σ := r_getf (ci := 4) (k := 3) (o := 55) (by decide) (by decide) (by rw [hM]; exact lk_X5_15) hd h
theorem lk_X5_23 : Cond.fieldLink RX5 23 "StoneRaised$Plans" "ahead" "LStoneRaised$World;" ∈ lwG := lwc_2 106 (by decide +kernel) (by decide +kernel)
theorem gf_X5_23 {g : GT} {d : Nat} {M : MI} {Q : Int → Sg → Prop} {pc : Nat} {ls st : List AV} {σ : Sg} (hM : M.1.cls = RX5) (hd : decode M.2.1 pc = .ok (.getfield 23, 3)) (h : Wp g d M Q (pc + 3) ls ((19, 58) :: st) σ) : Wp g d M Q pc ls ((14, 55) :: st) σ := r_getf (ci := 4) (k := 0) (o := 55) (by decide) (by decide) (by rw [hM]; exact lk_X5_23) hd h
theorem lk_X5_31 : Cond.fieldLink RX5 31 "StoneRaised$World" "ended" "I" ∈ lwG := lwc_2 36 (by decide +kernel) (by decide +kernel)
theorem gf_X5_31 {g : GT} {d : Nat} {M : MI} {Q : Int → Sg → Prop} {pc : Nat} {ls st : List AV} {σ : Sg} {o : Int} (hM : M.1.cls = RX5) (hd : decode M.2.1 pc = .ok (.getfield 31, 3)) (h : Wp g d M Q (pc + 3) ls ((0, (σ o 2)) :: st) σ) : Wp g d M Q pc ls ((19, o) :: st) σ := r_getf (ci := 9) (k := 2) (o := o) (by decide) (by decide) (by rw [hM]; exact lk_X5_31) hd h
theorem pf_X5_31 {g : GT} {d : Nat} {M : MI} {Q : Int → Sg → Prop} {pc : Nat} {ls st : List AV} {σ : Sg} {o : Int} {v : Int} (hM : M.1.cls = RX5) (hd : decode M.2.1 pc = .ok (.putfield 31, 3)) (h : Wp g d M Q (pc + 3) ls st (ups σ o 2 v)) : Wp g d M Q pc ls ((0, v) :: (19, o) :: st) σ := r_putf (ci := 9) (k := 2) (o := o) (by decide) (by decide) (by rw [hM]; exact lk_X5_31) rfl rfl rfl rfl hd h
theorem lk_X5_48 : Cond.fieldLink RX5 48 "StoneRaised$World" "year" "I" ∈ lwG := lwc_2 33 (by decide +kernel) (by decide +kernel)
theorem gf_X5_48 {g : GT} {d : Nat} {M : MI} {Q : Int → Sg → Prop} {pc : Nat} {ls st : List AV} {σ : Sg} {o : Int} (hM : M.1.cls = RX5) (hd : decode M.2.1 pc = .ok (.getfield 48, 3)) (h : Wp g d M Q (pc + 3) ls ((0, (σ o 1)) :: st) σ) : Wp g d M Q pc ls ((19, o) :: st) σ := r_getf (ci := 9) (k := 1) (o := o) (by decide) (by decide) (by rw [hM]; exact lk_X5_48) hd h
theorem pf_X5_48 {g : GT} {d : Nat} {M : MI} {Q : Int → Sg → Prop} {pc : Nat} {ls st : List AV} {σ : Sg} {o : Int} {v : Int} (hM : M.1.cls = RX5) (hd : decode M.2.1 pc = .ok (.putfield 48, 3)) (h : Wp g d M Q (pc + 3) ls st (ups σ o 1 v)) : Wp g d M Q pc ls ((0, v) :: (19, o) :: st) σ := r_putf (ci := 9) (k := 1) (o := o) (by decide) (by decide) (by rw [hM]; exact lk_X5_48) rfl rfl rfl rfl hd h
theorem lk_X5_51 : Cond.fieldLink RX5 51 "StoneRaised$World" "place" "[I" ∈ lwG := lwc_2 50 (by decide +kernel) (by decide +kernel)
theorem gf_X5_51 {g : GT} {d : Nat} {M : MI} {Q : Int → Sg → Prop} {pc : Nat} {ls st : List AV} {σ : Sg} {o : Int} (hM : M.1.cls = RX5) (hd : decode M.2.1 pc = .ok (.getfield 51, 3)) (h : Wp g d M Q (pc + 3) ls ((33, (o + 3)) :: st) σ) : Wp g d M Q pc ls ((19, o) :: st) σ := r_getf (ci := 9) (k := 5) (o := o) (by decide) (by decide) (by rw [hM]; exact lk_X5_51) hd h
theorem lk_X5_58 : Cond.fieldLink RX5 58 "StoneRaised$World" "town" "LStoneRaised$Town;" ∈ lwG := lwc_2 29 (by decide +kernel) (by decide +kernel)
theorem gf_X5_58 {g : GT} {d : Nat} {M : MI} {Q : Int → Sg → Prop} {pc : Nat} {ls st : List AV} {σ : Sg} {o : Int} (hM : M.1.cls = RX5) (hd : decode M.2.1 pc = .ok (.getfield 58, 3)) (h : Wp g d M Q (pc + 3) ls ((18, (σ o 0)) :: st) σ) : Wp g d M Q pc ls ((19, o) :: st) σ := r_getf (ci := 9) (k := 0) (o := o) (by decide) (by decide) (by rw [hM]; exact lk_X5_58) hd h
theorem pf_X5_58 {g : GT} {d : Nat} {M : MI} {Q : Int → Sg → Prop} {pc : Nat} {ls st : List AV} {σ : Sg} {o : Int} {v : Int} (hM : M.1.cls = RX5) (hd : decode M.2.1 pc = .ok (.putfield 58, 3)) (h : Wp g d M Q (pc + 3) ls st (ups σ o 0 v)) : Wp g d M Q pc ls ((18, v) :: (19, o) :: st) σ := r_putf (ci := 9) (k := 0) (o := o) (by decide) (by decide) (by rw [hM]; exact lk_X5_58) rfl rfl (by rw [conc_o (by decide)]; rfl) (by rw [conc_o (by decide)]; rfl) hd h
theorem lk_X5_75 : Cond.fieldLink RX5 75 "StoneRaised$Town" "wide" "[I" ∈ lwG := lwc_1 103 (by decide +kernel) (by decide +kernel)
theorem gf_X5_75 {g : GT} {d : Nat} {M : MI} {Q : Int → Sg → Prop} {pc : Nat} {ls st : List AV} {σ : Sg} {o : Int} (hM : M.1.cls = RX5) (hd : decode M.2.1 pc = .ok (.getfield 75, 3)) (h : Wp g d M Q (pc + 3) ls ((35, (o + 11)) :: st) σ) : Wp g d M Q pc ls ((18, o) :: st) σ := r_getf (ci := 8) (k := 7) (o := o) (by decide) (by decide) (by rw [hM]; exact lk_X5_75) hd h
theorem lk_X5_78 : Cond.fieldLink RX5 78 "StoneRaised$World" "height" "[I" ∈ lwG := lwc_2 58 (by decide +kernel) (by decide +kernel)
theorem gf_X5_78 {g : GT} {d : Nat} {M : MI} {Q : Int → Sg → Prop} {pc : Nat} {ls st : List AV} {σ : Sg} {o : Int} (hM : M.1.cls = RX5) (hd : decode M.2.1 pc = .ok (.getfield 78, 3)) (h : Wp g d M Q (pc + 3) ls ((40, (o + 5)) :: st) σ) : Wp g d M Q pc ls ((19, o) :: st) σ := r_getf (ci := 9) (k := 7) (o := o) (by decide) (by decide) (by rw [hM]; exact lk_X5_78) hd h
theorem lk_X5_81 : Cond.fieldLink RX5 81 "StoneRaised$World" "lies" "[I" ∈ lwG := lwc_2 54 (by decide +kernel) (by decide +kernel)
theorem gf_X5_81 {g : GT} {d : Nat} {M : MI} {Q : Int → Sg → Prop} {pc : Nat} {ls st : List AV} {σ : Sg} {o : Int} (hM : M.1.cls = RX5) (hd : decode M.2.1 pc = .ok (.getfield 81, 3)) (h : Wp g d M Q (pc + 3) ls ((39, (o + 4)) :: st) σ) : Wp g d M Q pc ls ((19, o) :: st) σ := r_getf (ci := 9) (k := 6) (o := o) (by decide) (by decide) (by rw [hM]; exact lk_X5_81) hd h
theorem lk_X5_88 : Cond.fieldLink RX5 88 "StoneRaised$Town" "bites" "I" ∈ lwG := lwc_1 142 (by decide +kernel) (by decide +kernel)
theorem gf_X5_88 {g : GT} {d : Nat} {M : MI} {Q : Int → Sg → Prop} {pc : Nat} {ls st : List AV} {σ : Sg} {o : Int} (hM : M.1.cls = RX5) (hd : decode M.2.1 pc = .ok (.getfield 88, 3)) (h : Wp g d M Q (pc + 3) ls ((0, (σ o 18)) :: st) σ) : Wp g d M Q pc ls ((18, o) :: st) σ := r_getf (ci := 8) (k := 18) (o := o) (by decide) (by decide) (by rw [hM]; exact lk_X5_88) hd h
theorem pf_X5_88 {g : GT} {d : Nat} {M : MI} {Q : Int → Sg → Prop} {pc : Nat} {ls st : List AV} {σ : Sg} {o : Int} {v : Int} (hM : M.1.cls = RX5) (hd : decode M.2.1 pc = .ok (.putfield 88, 3)) (h : Wp g d M Q (pc + 3) ls st (ups σ o 18 v)) : Wp g d M Q pc ls ((0, v) :: (18, o) :: st) σ := r_putf (ci := 8) (k := 18) (o := o) (by decide) (by decide) (by rw [hM]; exact lk_X5_88) rfl rfl rfl rfl hd h
theorem lk_X5_95 : Cond.fieldLink RX5 95 "StoneRaised$Town" "weighs" "I" ∈ lwG := lwc_1 135 (by decide +kernel) (by decide +kernel)
theorem gf_X5_95 {g : GT} {d : Nat} {M : MI} {Q : Int → Sg → Prop} {pc : Nat} {ls st : List AV} {σ : Sg} {o : Int} (hM : M.1.cls = RX5) (hd : decode M.2.1 pc = .ok (.getfield 95, 3)) (h : Wp g d M Q (pc + 3) ls ((0, (σ o 16)) :: st) σ) : Wp g d M Q pc ls ((18, o) :: st) σ := r_getf (ci := 8) (k := 16) (o := o) (by decide) (by decide) (by rw [hM]; exact lk_X5_95) hd h
theorem pf_X5_95 {g : GT} {d : Nat} {M : MI} {Q : Int → Sg → Prop} {pc : Nat} {ls st : List AV} {σ : Sg} {o : Int} {v : Int} (hM : M.1.cls = RX5) (hd : decode M.2.1 pc = .ok (.putfield 95, 3)) (h : Wp g d M Q (pc + 3) ls st (ups σ o 16 v)) : Wp g d M Q pc ls ((0, v) :: (18, o) :: st) σ := r_putf (ci := 8) (k := 16) (o := o) (by decide) (by decide) (by rw [hM]; exact lk_X5_95) rfl rfl rfl rfl hd h
theorem lk_X5_104 : Cond.fieldLink RX5 104 "StoneRaised$Plans" "places" "I" ∈ lwG := lwc_2 113 (by decide +kernel) (by decide +kernel)
theorem gf_X5_104 {g : GT} {d : Nat} {M : MI} {Q : Int → Sg → Prop} {pc : Nat} {ls st : List AV} {σ : Sg} (hM : M.1.cls = RX5) (hd : decode M.2.1 pc = .ok (.getfield 104, 3)) (h : Wp g d M Q (pc + 3) ls ((0, (σ 55 4)) :: st) σ) : Wp g d M Q pc ls ((14, 55) :: st) σ := r_getf (ci := 4) (k := 4) (o := 55) (by decide) (by decide) (by rw [hM]; exact lk_X5_104) hd h
theorem pf_X5_104 {g : GT} {d : Nat} {M : MI} {Q : Int → Sg → Prop} {pc : Nat} {ls st : List AV} {σ : Sg} {v : Int} (hM : M.1.cls = RX5) (hd : decode M.2.1 pc = .ok (.putfield 104, 3)) (h : Wp g d M Q (pc + 3) ls st (ups σ 55 4 v)) : Wp g d M Q pc ls ((0, v) :: (14, 55) :: st) σ := r_putf (ci := 4) (k := 4) (o := 55) (by decide) (by decide) (by rw [hM]; exact lk_X5_104) rfl rfl rfl rfl hd h
theorem lk_X5_107 : Cond.fieldLink RX5 107 "StoneRaised$Plans" "most" "I" ∈ lwG := lwc_2 110 (by decide +kernel) (by decide +kernel)
theorem gf_X5_107 {g : GT} {d : Nat} {M : MI} {Q : Int → Sg → Prop} {pc : Nat} {ls st : List AV} {σ : Sg} (hM : M.1.cls = RX5) (hd : decode M.2.1 pc = .ok (.getfield 107, 3)) (h : Wp g d M Q (pc + 3) ls ((0, (σ 55 2)) :: st) σ) : Wp g d M Q pc ls ((14, 55) :: st) σ := r_getf (ci := 4) (k := 2) (o := 55) (by decide) (by decide) (by rw [hM]; exact lk_X5_107) hd h
theorem pf_X5_107 {g : GT} {d : Nat} {M : MI} {Q : Int → Sg → Prop} {pc : Nat} {ls st : List AV} {σ : Sg} {v : Int} (hM : M.1.cls = RX5) (hd : decode M.2.1 pc = .ok (.putfield 107, 3)) (h : Wp g d M Q (pc + 3) ls st (ups σ 55 2 v)) : Wp g d M Q pc ls ((0, v) :: (14, 55) :: st) σ := r_putf (ci := 4) (k := 2) (o := 55) (by decide) (by decide) (by rw [hM]; exact lk_X5_107) rfl rfl rfl rfl hd h
theorem lk_X6_9 : Cond.fieldLink RX6 9 "StoneRaised$Reader" "tape" "LStoneRaised$Tape;" ∈ lwG := lwc_1 197 (by decide +kernel) (by decide +kernel)
theorem gf_X6_9 {g : GT} {d : Nat} {M : MI} {Q : Int → Sg → Prop} {pc : Nat} {ls st : List AV} {σ : Sg} (hM : M.1.cls = RX6) (hd : decode M.2.1 pc = .ok (.getfield 9, 3)) (h : Wp g d M Q (pc + 3) ls ((17, 2) :: st) σ) : Wp g d M Q pc ls ((15, 47) :: st) σ := r_getf (ci := 5) (k := 0) (o := 47) (by decide) (by decide) (by rw [hM]; exact lk_X6_9) hd h
theorem lk_X6_15 : Cond.fieldLink RX6 15 "StoneRaised$Word" "OTHER" "LStoneRaised$Word;" ∈ lwG := lwc_1 195 (by decide +kernel) (by decide +kernel)
theorem lk_X6_21 : Cond.fieldLink RX6 21 "StoneRaised$Reader" "word" "LStoneRaised$Word;" ∈ lwG := lwc_1 202 (by decide +kernel) (by decide +kernel)
theorem gf_X6_21 {g : GT} {d : Nat} {M : MI} {Q : Int → Sg → Prop} {pc : Nat} {ls st : List AV} {σ : Sg} (hM : M.1.cls = RX6) (hd : decode M.2.1 pc = .ok (.getfield 21, 3)) (h : Wp g d M Q (pc + 3) ls ((3, (σ 47 3)) :: st) σ) : Wp g d M Q pc ls ((15, 47) :: st) σ := r_getf (ci := 5) (k := 3) (o := 47) (by decide) (by decide) (by rw [hM]; exact lk_X6_21) hd h
theorem pf_X6_21 {g : GT} {d : Nat} {M : MI} {Q : Int → Sg → Prop} {pc : Nat} {ls st : List AV} {σ : Sg} {v : Int} (hM : M.1.cls = RX6) (hd : decode M.2.1 pc = .ok (.putfield 21, 3)) (h : Wp g d M Q (pc + 3) ls st (ups σ 47 3 v)) : Wp g d M Q pc ls ((3, v) :: (15, 47) :: st) σ := r_putf (ci := 5) (k := 3) (o := 47) (by decide) (by decide) (by rw [hM]; exact lk_X6_21) rfl rfl rfl rfl hd h
theorem lk_X6_24 : Cond.fieldLink RX6 24 "StoneRaised$Reader" "next" "I" ∈ lwG := lwc_1 205 (by decide +kernel) (by decide +kernel)
theorem gf_X6_24 {g : GT} {d : Nat} {M : MI} {Q : Int → Sg → Prop} {pc : Nat} {ls st : List AV} {σ : Sg} (hM : M.1.cls = RX6) (hd : decode M.2.1 pc = .ok (.getfield 24, 3)) (h : Wp g d M Q (pc + 3) ls ((0, (σ 47 5)) :: st) σ) : Wp g d M Q pc ls ((15, 47) :: st) σ := r_getf (ci := 5) (k := 5) (o := 47) (by decide) (by decide) (by rw [hM]; exact lk_X6_24) hd h
theorem pf_X6_24 {g : GT} {d : Nat} {M : MI} {Q : Int → Sg → Prop} {pc : Nat} {ls st : List AV} {σ : Sg} {v : Int} (hM : M.1.cls = RX6) (hd : decode M.2.1 pc = .ok (.putfield 24, 3)) (h : Wp g d M Q (pc + 3) ls st (ups σ 47 5 v)) : Wp g d M Q pc ls ((0, v) :: (15, 47) :: st) σ := r_putf (ci := 5) (k := 5) (o := 47) (by decide) (by decide) (by rw [hM]; exact lk_X6_24) rfl rfl rfl rfl hd h
theorem lk_X6_28 : Cond.fieldLink RX6 28 "StoneRaised$Reader" "fault" "I" ∈ lwG := lwc_1 207 (by decide +kernel) (by decide +kernel)
theorem gf_X6_28 {g : GT} {d : Nat} {M : MI} {Q : Int → Sg → Prop} {pc : Nat} {ls st : List AV} {σ : Sg} (hM : M.1.cls = RX6) (hd : decode M.2.1 pc = .ok (.getfield 28, 3)) (h : Wp g d M Q (pc + 3) ls ((0, (σ 47 6)) :: st) σ) : Wp g d M Q pc ls ((15, 47) :: st) σ := r_getf (ci := 5) (k := 6) (o := 47) (by decide) (by decide) (by rw [hM]; exact lk_X6_28) hd h
theorem pf_X6_28 {g : GT} {d : Nat} {M : MI} {Q : Int → Sg → Prop} {pc : Nat} {ls st : List AV} {σ : Sg} {v : Int} (hM : M.1.cls = RX6) (hd : decode M.2.1 pc = .ok (.putfield 28, 3)) (h : Wp g d M Q (pc + 3) ls st (ups σ 47 6 v)) : Wp g d M Q pc ls ((0, v) :: (15, 47) :: st) σ := r_putf (ci := 5) (k := 6) (o := 47) (by decide) (by decide) (by rw [hM]; exact lk_X6_28) rfl rfl rfl rfl hd h
theorem lk_X6_31 : Cond.fieldLink RX6 31 "StoneRaised$Reader" "place" "I" ∈ lwG := lwc_1 209 (by decide +kernel) (by decide +kernel)
theorem gf_X6_31 {g : GT} {d : Nat} {M : MI} {Q : Int → Sg → Prop} {pc : Nat} {ls st : List AV} {σ : Sg} (hM : M.1.cls = RX6) (hd : decode M.2.1 pc = .ok (.getfield 31, 3)) (h : Wp g d M Q (pc + 3) ls ((0, (σ 47 7)) :: st) σ) : Wp g d M Q pc ls ((15, 47) :: st) σ := r_getf (ci := 5) (k := 7) (o := 47) (by decide) (by decide) (by rw [hM]; exact lk_X6_31) hd h
theorem pf_X6_31 {g : GT} {d : Nat} {M : MI} {Q : Int → Sg → Prop} {pc : Nat} {ls st : List AV} {σ : Sg} {v : Int} (hM : M.1.cls = RX6) (hd : decode M.2.1 pc = .ok (.putfield 31, 3)) (h : Wp g d M Q (pc + 3) ls st (ups σ 47 7 v)) : Wp g d M Q pc ls ((0, v) :: (15, 47) :: st) σ := r_putf (ci := 5) (k := 7) (o := 47) (by decide) (by decide) (by rw [hM]; exact lk_X6_31) rfl rfl rfl rfl hd h
theorem lk_X6_34 : Cond.fieldLink RX6 34 "StoneRaised$Reader" "kind" "I" ∈ lwG := lwc_1 198 (by decide +kernel) (by decide +kernel)
theorem gf_X6_34 {g : GT} {d : Nat} {M : MI} {Q : Int → Sg → Prop} {pc : Nat} {ls st : List AV} {σ : Sg} (hM : M.1.cls = RX6) (hd : decode M.2.1 pc = .ok (.getfield 34, 3)) (h : Wp g d M Q (pc + 3) ls ((0, (σ 47 1)) :: st) σ) : Wp g d M Q pc ls ((15, 47) :: st) σ := r_getf (ci := 5) (k := 1) (o := 47) (by decide) (by decide) (by rw [hM]; exact lk_X6_34) hd h
theorem pf_X6_34 {g : GT} {d : Nat} {M : MI} {Q : Int → Sg → Prop} {pc : Nat} {ls st : List AV} {σ : Sg} {v : Int} (hM : M.1.cls = RX6) (hd : decode M.2.1 pc = .ok (.putfield 34, 3)) (h : Wp g d M Q (pc + 3) ls st (ups σ 47 1 v)) : Wp g d M Q pc ls ((0, v) :: (15, 47) :: st) σ := r_putf (ci := 5) (k := 1) (o := 47) (by decide) (by decide) (by rw [hM]; exact lk_X6_34) rfl rfl rfl rfl hd h
theorem lk_X6_37 : Cond.fieldLink RX6 37 "StoneRaised$Reader" "from" "I" ∈ lwG := lwc_1 204 (by decide +kernel) (by decide +kernel)
theorem gf_X6_37 {g : GT} {d : Nat} {M : MI} {Q : Int → Sg → Prop} {pc : Nat} {ls st : List AV} {σ : Sg} (hM : M.1.cls = RX6) (hd : decode M.2.1 pc = .ok (.getfield 37, 3)) (h : Wp g d M Q (pc + 3) ls ((0, (σ 47 4)) :: st) σ) : Wp g d M Q pc ls ((15, 47) :: st) σ := r_getf (ci := 5) (k := 4) (o := 47) (by decide) (by decide) (by rw [hM]; exact lk_X6_37) hd h
theorem pf_X6_37 {g : GT} {d : Nat} {M : MI} {Q : Int → Sg → Prop} {pc : Nat} {ls st : List AV} {σ : Sg} {v : Int} (hM : M.1.cls = RX6) (hd : decode M.2.1 pc = .ok (.putfield 37, 3)) (h : Wp g d M Q (pc + 3) ls st (ups σ 47 4 v)) : Wp g d M Q pc ls ((0, v) :: (15, 47) :: st) σ := r_putf (ci := 5) (k := 4) (o := 47) (by decide) (by decide) (by rw [hM]; exact lk_X6_37) rfl rfl rfl rfl hd h
theorem lk_X6_44 : Cond.fieldLink RX6 44 "StoneRaised$Reader" "value" "I" ∈ lwG := lwc_1 200 (by decide +kernel) (by decide +kernel)
theorem gf_X6_44 {g : GT} {d : Nat} {M : MI} {Q : Int → Sg → Prop} {pc : Nat} {ls st : List AV} {σ : Sg} (hM : M.1.cls = RX6) (hd : decode M.2.1 pc = .ok (.getfield 44, 3)) (h : Wp g d M Q (pc + 3) ls ((0, (σ 47 2)) :: st) σ) : Wp g d M Q pc ls ((15, 47) :: st) σ := r_getf (ci := 5) (k := 2) (o := 47) (by decide) (by decide) (by rw [hM]; exact lk_X6_44) hd h
theorem pf_X6_44 {g : GT} {d : Nat} {M : MI} {Q : Int → Sg → Prop} {pc : Nat} {ls st : List AV} {σ : Sg} {v : Int} (hM : M.1.cls = RX6) (hd : decode M.2.1 pc = .ok (.putfield 44, 3)) (h : Wp g d M Q (pc + 3) ls st (ups σ 47 2 v)) : Wp g d M Q pc ls ((0, v) :: (15, 47) :: st) σ := r_putf (ci := 5) (k := 2) (o := 47) (by decide) (by decide) (by rw [hM]; exact lk_X6_44) rfl rfl rfl rfl hd h
theorem lk_X6_47 : Cond.fieldLink RX6 47 "StoneRaised$Tape" "size" "I" ∈ lwG := lwc_1 39 (by decide +kernel) (by decide +kernel)
theorem gf_X6_47 {g : GT} {d : Nat} {M : MI} {Q : Int → Sg → Prop} {pc : Nat} {ls st : List AV} {σ : Sg} (hM : M.1.cls = RX6) (hd : decode M.2.1 pc = .ok (.getfield 47, 3)) (h : Wp g d M Q (pc + 3) ls ((0, (σ 2 1)) :: st) σ) : Wp g d M Q pc ls ((17, 2) :: st) σ := r_getf (ci := 7) (k := 1) (o := 2) (by decide) (by decide) (by rw [hM]; exact lk_X6_47) hd h
theorem pf_X6_47 {g : GT} {d : Nat} {M : MI} {Q : Int → Sg → Prop} {pc : Nat} {ls st : List AV} {σ : Sg} {v : Int} (hM : M.1.cls = RX6) (hd : decode M.2.1 pc = .ok (.putfield 47, 3)) (h : Wp g d M Q (pc + 3) ls st (ups σ 2 1 v)) : Wp g d M Q pc ls ((0, v) :: (17, 2) :: st) σ := r_putf (ci := 7) (k := 1) (o := 2) (by decide) (by decide) (by rw [hM]; exact lk_X6_47) rfl rfl rfl rfl hd h
theorem lk_X6_87 : Cond.fieldLink RX6 87 "StoneRaised$Word" "code" "I" ∈ lwG := lwc_9 104 (by decide +kernel) (by decide +kernel)
theorem lk_X7_9 : Cond.fieldLink RX7 9 "StoneRaised$Seams" "strong" "[I" ∈ lwG := lwc_2 152 (by decide +kernel) (by decide +kernel)
theorem gf_X7_9 {g : GT} {d : Nat} {M : MI} {Q : Int → Sg → Prop} {pc : Nat} {ls st : List AV} {σ : Sg} (hM : M.1.cls = RX7) (hd : decode M.2.1 pc = .ok (.getfield 9, 3)) (h : Wp g d M Q (pc + 3) ls ((34, 88) :: st) σ) : Wp g d M Q pc ls ((16, 87) :: st) σ := r_getf (ci := 6) (k := 2) (o := 87) (by decide) (by decide) (by rw [hM]; exact lk_X7_9) hd h
theorem lk_X7_21 : Cond.fieldLink RX7 21 "StoneRaised$Seams" "homes" "I" ∈ lwG := lwc_2 149 (by decide +kernel) (by decide +kernel)
theorem gf_X7_21 {g : GT} {d : Nat} {M : MI} {Q : Int → Sg → Prop} {pc : Nat} {ls st : List AV} {σ : Sg} (hM : M.1.cls = RX7) (hd : decode M.2.1 pc = .ok (.getfield 21, 3)) (h : Wp g d M Q (pc + 3) ls ((0, (σ 87 0)) :: st) σ) : Wp g d M Q pc ls ((16, 87) :: st) σ := r_getf (ci := 6) (k := 0) (o := 87) (by decide) (by decide) (by rw [hM]; exact lk_X7_21) hd h
theorem pf_X7_21 {g : GT} {d : Nat} {M : MI} {Q : Int → Sg → Prop} {pc : Nat} {ls st : List AV} {σ : Sg} {v : Int} (hM : M.1.cls = RX7) (hd : decode M.2.1 pc = .ok (.putfield 21, 3)) (h : Wp g d M Q (pc + 3) ls st (ups σ 87 0 v)) : Wp g d M Q pc ls ((0, v) :: (16, 87) :: st) σ := r_putf (ci := 6) (k := 0) (o := 87) (by decide) (by decide) (by rw [hM]; exact lk_X7_21) rfl rfl rfl rfl hd h
theorem lk_X7_25 : Cond.fieldLink RX7 25 "StoneRaised$Seams" "born" "I" ∈ lwG := lwc_2 151 (by decide +kernel) (by decide +kernel)
theorem gf_X7_25 {g : GT} {d : Nat} {M : MI} {Q : Int → Sg → Prop} {pc : Nat} {ls st : List AV} {σ : Sg} (hM : M.1.cls = RX7) (hd : decode M.2.1 pc = .ok (.getfield 25, 3)) (h : Wp g d M Q (pc + 3) ls ((0, (σ 87 1)) :: st) σ) : Wp g d M Q pc ls ((16, 87) :: st) σ := r_getf (ci := 6) (k := 1) (o := 87) (by decide) (by decide) (by rw [hM]; exact lk_X7_25) hd h
theorem pf_X7_25 {g : GT} {d : Nat} {M : MI} {Q : Int → Sg → Prop} {pc : Nat} {ls st : List AV} {σ : Sg} {v : Int} (hM : M.1.cls = RX7) (hd : decode M.2.1 pc = .ok (.putfield 25, 3)) (h : Wp g d M Q (pc + 3) ls st (ups σ 87 1 v)) : Wp g d M Q pc ls ((0, v) :: (16, 87) :: st) σ := r_putf (ci := 6) (k := 1) (o := 87) (by decide) (by decide) (by rw [hM]; exact lk_X7_25) rfl rfl rfl rfl hd h
theorem lk_X7_28 : Cond.fieldLink RX7 28 "StoneRaised$Tape" "size" "I" ∈ lwG := lwc_1 37 (by decide +kernel) (by decide +kernel)
theorem gf_X7_28 {g : GT} {d : Nat} {M : MI} {Q : Int → Sg → Prop} {pc : Nat} {ls st : List AV} {σ : Sg} (hM : M.1.cls = RX7) (hd : decode M.2.1 pc = .ok (.getfield 28, 3)) (h : Wp g d M Q (pc + 3) ls ((0, (σ 2 1)) :: st) σ) : Wp g d M Q pc ls ((17, 2) :: st) σ := r_getf (ci := 7) (k := 1) (o := 2) (by decide) (by decide) (by rw [hM]; exact lk_X7_28) hd h
theorem pf_X7_28 {g : GT} {d : Nat} {M : MI} {Q : Int → Sg → Prop} {pc : Nat} {ls st : List AV} {σ : Sg} {v : Int} (hM : M.1.cls = RX7) (hd : decode M.2.1 pc = .ok (.putfield 28, 3)) (h : Wp g d M Q (pc + 3) ls st (ups σ 2 1 v)) : Wp g d M Q pc ls ((0, v) :: (17, 2) :: st) σ := r_putf (ci := 7) (k := 1) (o := 2) (by decide) (by decide) (by rw [hM]; exact lk_X7_28) rfl rfl rfl rfl hd h
theorem lk_X7_51 : Cond.fieldLink RX7 51 "StoneRaised$Town" "raisedFrom" "I" ∈ lwG := lwc_1 127 (by decide +kernel) (by decide +kernel)
theorem gf_X7_51 {g : GT} {d : Nat} {M : MI} {Q : Int → Sg → Prop} {pc : Nat} {ls st : List AV} {σ : Sg} {o : Int} (hM : M.1.cls = RX7) (hd : decode M.2.1 pc = .ok (.getfield 51, 3)) (h : Wp g d M Q (pc + 3) ls ((0, (σ o 14)) :: st) σ) : Wp g d M Q pc ls ((18, o) :: st) σ := r_getf (ci := 8) (k := 14) (o := o) (by decide) (by decide) (by rw [hM]; exact lk_X7_51) hd h
theorem pf_X7_51 {g : GT} {d : Nat} {M : MI} {Q : Int → Sg → Prop} {pc : Nat} {ls st : List AV} {σ : Sg} {o : Int} {v : Int} (hM : M.1.cls = RX7) (hd : decode M.2.1 pc = .ok (.putfield 51, 3)) (h : Wp g d M Q (pc + 3) ls st (ups σ o 14 v)) : Wp g d M Q pc ls ((0, v) :: (18, o) :: st) σ := r_putf (ci := 8) (k := 14) (o := o) (by decide) (by decide) (by rw [hM]; exact lk_X7_51) rfl rfl rfl rfl hd h
theorem lk_X8_9 : Cond.fieldLink RX8 9 "StoneRaised$Tape" "bytes" "[B" ∈ lwG := lwc_1 34 (by decide +kernel) (by decide +kernel)
theorem gf_X8_9 {g : GT} {d : Nat} {M : MI} {Q : Int → Sg → Prop} {pc : Nat} {ls st : List AV} {σ : Sg} (hM : M.1.cls = RX8) (hd : decode M.2.1 pc = .ok (.getfield 9, 3)) (h : Wp g d M Q (pc + 3) ls ((30, 3) :: st) σ) : Wp g d M Q pc ls ((17, 2) :: st) σ := r_getf (ci := 7) (k := 0) (o := 2) (by decide) (by decide) (by rw [hM]; exact lk_X8_9) hd h
theorem lk_X8_15 : Cond.fieldLink RX8 15 "StoneRaised$Tape" "size" "I" ∈ lwG := lwc_1 36 (by decide +kernel) (by decide +kernel)
theorem gf_X8_15 {g : GT} {d : Nat} {M : MI} {Q : Int → Sg → Prop} {pc : Nat} {ls st : List AV} {σ : Sg} (hM : M.1.cls = RX8) (hd : decode M.2.1 pc = .ok (.getfield 15, 3)) (h : Wp g d M Q (pc + 3) ls ((0, (σ 2 1)) :: st) σ) : Wp g d M Q pc ls ((17, 2) :: st) σ := r_getf (ci := 7) (k := 1) (o := 2) (by decide) (by decide) (by rw [hM]; exact lk_X8_15) hd h
theorem pf_X8_15 {g : GT} {d : Nat} {M : MI} {Q : Int → Sg → Prop} {pc : Nat} {ls st : List AV} {σ : Sg} {v : Int} (hM : M.1.cls = RX8) (hd : decode M.2.1 pc = .ok (.putfield 15, 3)) (h : Wp g d M Q (pc + 3) ls st (ups σ 2 1 v)) : Wp g d M Q pc ls ((0, v) :: (17, 2) :: st) σ := r_putf (ci := 7) (k := 1) (o := 2) (by decide) (by decide) (by rw [hM]; exact lk_X8_15) rfl rfl rfl rfl hd h
theorem lk_X9_9 : Cond.fieldLink RX9 9 "StoneRaised$Town" "named" "[I" ∈ lwG := lwc_1 81 (by decide +kernel) (by decide +kernel)
theorem gf_X9_9 {g : GT} {d : Nat} {M : MI} {Q : Int → Sg → Prop} {pc : Nat} {ls st : List AV} {σ : Sg} {o : Int} (hM : M.1.cls = RX9) (hd : decode M.2.1 pc = .ok (.getfield 9, 3)) (h : Wp g d M Q (pc + 3) ls ((31, (o + 1)) :: st) σ) : Wp g d M Q pc ls ((18, o) :: st) σ := r_getf (ci := 8) (k := 0) (o := o) (by decide) (by decide) (by rw [hM]; exact lk_X9_9) hd h
theorem lk_X9_17 : Cond.fieldLink RX9 17 "StoneRaised$Town" "names" "[[I" ∈ lwG := lwc_1 83 (by decide +kernel) (by decide +kernel)
theorem gf_X9_17 {g : GT} {d : Nat} {M : MI} {Q : Int → Sg → Prop} {pc : Nat} {ls st : List AV} {σ : Sg} {o : Int} (hM : M.1.cls = RX9) (hd : decode M.2.1 pc = .ok (.getfield 17, 3)) (h : Wp g d M Q (pc + 3) ls ((32, (o + 2)) :: st) σ) : Wp g d M Q pc ls ((18, o) :: st) σ := r_getf (ci := 8) (k := 1) (o := o) (by decide) (by decide) (by rw [hM]; exact lk_X9_17) hd h
theorem lk_X9_20 : Cond.fieldLink RX9 20 "StoneRaised$Town" "talk" "[I" ∈ lwG := lwc_1 85 (by decide +kernel) (by decide +kernel)
theorem gf_X9_20 {g : GT} {d : Nat} {M : MI} {Q : Int → Sg → Prop} {pc : Nat} {ls st : List AV} {σ : Sg} {o : Int} (hM : M.1.cls = RX9) (hd : decode M.2.1 pc = .ok (.getfield 20, 3)) (h : Wp g d M Q (pc + 3) ls ((34, (o + 6)) :: st) σ) : Wp g d M Q pc ls ((18, o) :: st) σ := r_getf (ci := 8) (k := 2) (o := o) (by decide) (by decide) (by rw [hM]; exact lk_X9_20) hd h
theorem lk_X9_23 : Cond.fieldLink RX9 23 "StoneRaised$Town" "warm" "[I" ∈ lwG := lwc_1 88 (by decide +kernel) (by decide +kernel)
theorem gf_X9_23 {g : GT} {d : Nat} {M : MI} {Q : Int → Sg → Prop} {pc : Nat} {ls st : List AV} {σ : Sg} {o : Int} (hM : M.1.cls = RX9) (hd : decode M.2.1 pc = .ok (.getfield 23, 3)) (h : Wp g d M Q (pc + 3) ls ((34, (o + 7)) :: st) σ) : Wp g d M Q pc ls ((18, o) :: st) σ := r_getf (ci := 8) (k := 3) (o := o) (by decide) (by decide) (by rw [hM]; exact lk_X9_23) hd h
theorem lk_X9_26 : Cond.fieldLink RX9 26 "StoneRaised$Town" "firstHome" "[I" ∈ lwG := lwc_1 91 (by decide +kernel) (by decide +kernel)
theorem gf_X9_26 {g : GT} {d : Nat} {M : MI} {Q : Int → Sg → Prop} {pc : Nat} {ls st : List AV} {σ : Sg} {o : Int} (hM : M.1.cls = RX9) (hd : decode M.2.1 pc = .ok (.getfield 26, 3)) (h : Wp g d M Q (pc + 3) ls ((33, (o + 8)) :: st) σ) : Wp g d M Q pc ls ((18, o) :: st) σ := r_getf (ci := 8) (k := 4) (o := o) (by decide) (by decide) (by rw [hM]; exact lk_X9_26) hd h
theorem lk_X9_29 : Cond.fieldLink RX9 29 "StoneRaised$Town" "born" "[I" ∈ lwG := lwc_1 94 (by decide +kernel) (by decide +kernel)
theorem gf_X9_29 {g : GT} {d : Nat} {M : MI} {Q : Int → Sg → Prop} {pc : Nat} {ls st : List AV} {σ : Sg} {o : Int} (hM : M.1.cls = RX9) (hd : decode M.2.1 pc = .ok (.getfield 29, 3)) (h : Wp g d M Q (pc + 3) ls ((33, (o + 9)) :: st) σ) : Wp g d M Q pc ls ((18, o) :: st) σ := r_getf (ci := 8) (k := 5) (o := o) (by decide) (by decide) (by rw [hM]; exact lk_X9_29) hd h
theorem lk_X9_32 : Cond.fieldLink RX9 32 "StoneRaised$Town" "twin" "[I" ∈ lwG := lwc_1 98 (by decide +kernel) (by decide +kernel)
theorem gf_X9_32 {g : GT} {d : Nat} {M : MI} {Q : Int → Sg → Prop} {pc : Nat} {ls st : List AV} {σ : Sg} {o : Int} (hM : M.1.cls = RX9) (hd : decode M.2.1 pc = .ok (.getfield 32, 3)) (h : Wp g d M Q (pc + 3) ls ((33, (o + 10)) :: st) σ) : Wp g d M Q pc ls ((18, o) :: st) σ := r_getf (ci := 8) (k := 6) (o := o) (by decide) (by decide) (by rw [hM]; exact lk_X9_32) hd h
theorem lk_X9_35 : Cond.fieldLink RX9 35 "StoneRaised$Town" "wide" "[I" ∈ lwG := lwc_1 102 (by decide +kernel) (by decide +kernel)
theorem gf_X9_35 {g : GT} {d : Nat} {M : MI} {Q : Int → Sg → Prop} {pc : Nat} {ls st : List AV} {σ : Sg} {o : Int} (hM : M.1.cls = RX9) (hd : decode M.2.1 pc = .ok (.getfield 35, 3)) (h : Wp g d M Q (pc + 3) ls ((35, (o + 11)) :: st) σ) : Wp g d M Q pc ls ((18, o) :: st) σ := r_getf (ci := 8) (k := 7) (o := o) (by decide) (by decide) (by rw [hM]; exact lk_X9_35) hd h
theorem lk_X9_38 : Cond.fieldLink RX9 38 "StoneRaised$Town" "high" "[I" ∈ lwG := lwc_1 108 (by decide +kernel) (by decide +kernel)
theorem gf_X9_38 {g : GT} {d : Nat} {M : MI} {Q : Int → Sg → Prop} {pc : Nat} {ls st : List AV} {σ : Sg} {o : Int} (hM : M.1.cls = RX9) (hd : decode M.2.1 pc = .ok (.getfield 38, 3)) (h : Wp g d M Q (pc + 3) ls ((35, (o + 12)) :: st) σ) : Wp g d M Q pc ls ((18, o) :: st) σ := r_getf (ci := 8) (k := 8) (o := o) (by decide) (by decide) (by rw [hM]; exact lk_X9_38) hd h
theorem lk_X9_41 : Cond.fieldLink RX9 41 "StoneRaised$Town" "pairs" "[I" ∈ lwG := lwc_1 113 (by decide +kernel) (by decide +kernel)
theorem gf_X9_41 {g : GT} {d : Nat} {M : MI} {Q : Int → Sg → Prop} {pc : Nat} {ls st : List AV} {σ : Sg} {o : Int} (hM : M.1.cls = RX9) (hd : decode M.2.1 pc = .ok (.getfield 41, 3)) (h : Wp g d M Q (pc + 3) ls ((36, (o + 13)) :: st) σ) : Wp g d M Q pc ls ((18, o) :: st) σ := r_getf (ci := 8) (k := 9) (o := o) (by decide) (by decide) (by rw [hM]; exact lk_X9_41) hd h
theorem lk_X9_47 : Cond.fieldLink RX9 47 "StoneRaised$Town" "gains" "LStoneRaised$Formula;" ∈ lwG := lwc_1 116 (by decide +kernel) (by decide +kernel)
theorem gf_X9_47 {g : GT} {d : Nat} {M : MI} {Q : Int → Sg → Prop} {pc : Nat} {ls st : List AV} {σ : Sg} {o : Int} (hM : M.1.cls = RX9) (hd : decode M.2.1 pc = .ok (.getfield 47, 3)) (h : Wp g d M Q (pc + 3) ls ((11, (o + 14)) :: st) σ) : Wp g d M Q pc ls ((18, o) :: st) σ := r_getf (ci := 8) (k := 10) (o := o) (by decide) (by decide) (by rw [hM]; exact lk_X9_47) hd h
theorem lk_X9_51 : Cond.fieldLink RX9 51 "StoneRaised$Town" "may" "LStoneRaised$Formula;" ∈ lwG := lwc_1 117 (by decide +kernel) (by decide +kernel)
theorem gf_X9_51 {g : GT} {d : Nat} {M : MI} {Q : Int → Sg → Prop} {pc : Nat} {ls st : List AV} {σ : Sg} {o : Int} (hM : M.1.cls = RX9) (hd : decode M.2.1 pc = .ok (.getfield 51, 3)) (h : Wp g d M Q (pc + 3) ls ((11, (o + 17)) :: st) σ) : Wp g d M Q pc ls ((18, o) :: st) σ := r_getf (ci := 8) (k := 11) (o := o) (by decide) (by decide) (by rw [hM]; exact lk_X9_51) hd h
theorem lk_X9_54 : Cond.fieldLink RX9 54 "StoneRaised$Town" "facts" "[I" ∈ lwG := lwc_1 120 (by decide +kernel) (by decide +kernel)
theorem gf_X9_54 {g : GT} {d : Nat} {M : MI} {Q : Int → Sg → Prop} {pc : Nat} {ls st : List AV} {σ : Sg} {o : Int} (hM : M.1.cls = RX9) (hd : decode M.2.1 pc = .ok (.getfield 54, 3)) (h : Wp g d M Q (pc + 3) ls ((33, (o + 20)) :: st) σ) : Wp g d M Q pc ls ((18, o) :: st) σ := r_getf (ci := 8) (k := 12) (o := o) (by decide) (by decide) (by rw [hM]; exact lk_X9_54) hd h
theorem lk_X9_66 : Cond.fieldLink RX9 66 "StoneRaised$Formula" "size" "I" ∈ lwG := lwc_1 63 (by decide +kernel) (by decide +kernel)
theorem gf_X9_66 {g : GT} {d : Nat} {M : MI} {Q : Int → Sg → Prop} {pc : Nat} {ls st : List AV} {σ : Sg} {o : Int} (hM : M.1.cls = RX9) (hd : decode M.2.1 pc = .ok (.getfield 66, 3)) (h : Wp g d M Q (pc + 3) ls ((0, (σ o 2)) :: st) σ) : Wp g d M Q pc ls ((11, o) :: st) σ := r_getf (ci := 1) (k := 2) (o := o) (by decide) (by decide) (by rw [hM]; exact lk_X9_66) hd h
theorem pf_X9_66 {g : GT} {d : Nat} {M : MI} {Q : Int → Sg → Prop} {pc : Nat} {ls st : List AV} {σ : Sg} {o : Int} {v : Int} (hM : M.1.cls = RX9) (hd : decode M.2.1 pc = .ok (.putfield 66, 3)) (h : Wp g d M Q (pc + 3) ls st (ups σ o 2 v)) : Wp g d M Q pc ls ((0, v) :: (11, o) :: st) σ := r_putf (ci := 1) (k := 2) (o := o) (by decide) (by decide) (by rw [hM]; exact lk_X9_66) rfl rfl rfl rfl hd h
theorem lk_X9_70 : Cond.fieldLink RX9 70 "StoneRaised$Town" "feuds" "I" ∈ lwG := lwc_1 122 (by decide +kernel) (by decide +kernel)
theorem gf_X9_70 {g : GT} {d : Nat} {M : MI} {Q : Int → Sg → Prop} {pc : Nat} {ls st : List AV} {σ : Sg} {o : Int} (hM : M.1.cls = RX9) (hd : decode M.2.1 pc = .ok (.getfield 70, 3)) (h : Wp g d M Q (pc + 3) ls ((0, (σ o 13)) :: st) σ) : Wp g d M Q pc ls ((18, o) :: st) σ := r_getf (ci := 8) (k := 13) (o := o) (by decide) (by decide) (by rw [hM]; exact lk_X9_70) hd h
theorem pf_X9_70 {g : GT} {d : Nat} {M : MI} {Q : Int → Sg → Prop} {pc : Nat} {ls st : List AV} {σ : Sg} {o : Int} {v : Int} (hM : M.1.cls = RX9) (hd : decode M.2.1 pc = .ok (.putfield 70, 3)) (h : Wp g d M Q (pc + 3) ls st (ups σ o 13 v)) : Wp g d M Q pc ls ((0, v) :: (18, o) :: st) σ := r_putf (ci := 8) (k := 13) (o := o) (by decide) (by decide) (by rw [hM]; exact lk_X9_70) rfl rfl rfl rfl hd h
theorem lk_X9_73 : Cond.fieldLink RX9 73 "StoneRaised$Town" "raisedFrom" "I" ∈ lwG := lwc_1 126 (by decide +kernel) (by decide +kernel)
theorem gf_X9_73 {g : GT} {d : Nat} {M : MI} {Q : Int → Sg → Prop} {pc : Nat} {ls st : List AV} {σ : Sg} {o : Int} (hM : M.1.cls = RX9) (hd : decode M.2.1 pc = .ok (.getfield 73, 3)) (h : Wp g d M Q (pc + 3) ls ((0, (σ o 14)) :: st) σ) : Wp g d M Q pc ls ((18, o) :: st) σ := r_getf (ci := 8) (k := 14) (o := o) (by decide) (by decide) (by rw [hM]; exact lk_X9_73) hd h
theorem pf_X9_73 {g : GT} {d : Nat} {M : MI} {Q : Int → Sg → Prop} {pc : Nat} {ls st : List AV} {σ : Sg} {o : Int} {v : Int} (hM : M.1.cls = RX9) (hd : decode M.2.1 pc = .ok (.putfield 73, 3)) (h : Wp g d M Q (pc + 3) ls st (ups σ o 14 v)) : Wp g d M Q pc ls ((0, v) :: (18, o) :: st) σ := r_putf (ci := 8) (k := 14) (o := o) (by decide) (by decide) (by rw [hM]; exact lk_X9_73) rfl rfl rfl rfl hd h
theorem lk_X9_76 : Cond.fieldLink RX9 76 "StoneRaised$Town" "raisedTo" "I" ∈ lwG := lwc_1 130 (by decide +kernel) (by decide +kernel)
theorem gf_X9_76 {g : GT} {d : Nat} {M : MI} {Q : Int → Sg → Prop} {pc : Nat} {ls st : List AV} {σ : Sg} {o : Int} (hM : M.1.cls = RX9) (hd : decode M.2.1 pc = .ok (.getfield 76, 3)) (h : Wp g d M Q (pc + 3) ls ((0, (σ o 15)) :: st) σ) : Wp g d M Q pc ls ((18, o) :: st) σ := r_getf (ci := 8) (k := 15) (o := o) (by decide) (by decide) (by rw [hM]; exact lk_X9_76) hd h
theorem pf_X9_76 {g : GT} {d : Nat} {M : MI} {Q : Int → Sg → Prop} {pc : Nat} {ls st : List AV} {σ : Sg} {o : Int} {v : Int} (hM : M.1.cls = RX9) (hd : decode M.2.1 pc = .ok (.putfield 76, 3)) (h : Wp g d M Q (pc + 3) ls st (ups σ o 15 v)) : Wp g d M Q pc ls ((0, v) :: (18, o) :: st) σ := r_putf (ci := 8) (k := 15) (o := o) (by decide) (by decide) (by rw [hM]; exact lk_X9_76) rfl rfl rfl rfl hd h
theorem lk_X9_79 : Cond.fieldLink RX9 79 "StoneRaised$Town" "weighs" "I" ∈ lwG := lwc_1 133 (by decide +kernel) (by decide +kernel)
theorem gf_X9_79 {g : GT} {d : Nat} {M : MI} {Q : Int → Sg → Prop} {pc : Nat} {ls st : List AV} {σ : Sg} {o : Int} (hM : M.1.cls = RX9) (hd : decode M.2.1 pc = .ok (.getfield 79, 3)) (h : Wp g d M Q (pc + 3) ls ((0, (σ o 16)) :: st) σ) : Wp g d M Q pc ls ((18, o) :: st) σ := r_getf (ci := 8) (k := 16) (o := o) (by decide) (by decide) (by rw [hM]; exact lk_X9_79) hd h
theorem pf_X9_79 {g : GT} {d : Nat} {M : MI} {Q : Int → Sg → Prop} {pc : Nat} {ls st : List AV} {σ : Sg} {o : Int} {v : Int} (hM : M.1.cls = RX9) (hd : decode M.2.1 pc = .ok (.putfield 79, 3)) (h : Wp g d M Q (pc + 3) ls st (ups σ o 16 v)) : Wp g d M Q pc ls ((0, v) :: (18, o) :: st) σ := r_putf (ci := 8) (k := 16) (o := o) (by decide) (by decide) (by rw [hM]; exact lk_X9_79) rfl rfl rfl rfl hd h
theorem lk_X9_82 : Cond.fieldLink RX9 82 "StoneRaised$Town" "frost" "I" ∈ lwG := lwc_1 137 (by decide +kernel) (by decide +kernel)
theorem gf_X9_82 {g : GT} {d : Nat} {M : MI} {Q : Int → Sg → Prop} {pc : Nat} {ls st : List AV} {σ : Sg} {o : Int} (hM : M.1.cls = RX9) (hd : decode M.2.1 pc = .ok (.getfield 82, 3)) (h : Wp g d M Q (pc + 3) ls ((0, (σ o 17)) :: st) σ) : Wp g d M Q pc ls ((18, o) :: st) σ := r_getf (ci := 8) (k := 17) (o := o) (by decide) (by decide) (by rw [hM]; exact lk_X9_82) hd h
theorem pf_X9_82 {g : GT} {d : Nat} {M : MI} {Q : Int → Sg → Prop} {pc : Nat} {ls st : List AV} {σ : Sg} {o : Int} {v : Int} (hM : M.1.cls = RX9) (hd : decode M.2.1 pc = .ok (.putfield 82, 3)) (h : Wp g d M Q (pc + 3) ls st (ups σ o 17 v)) : Wp g d M Q pc ls ((0, v) :: (18, o) :: st) σ := r_putf (ci := 8) (k := 17) (o := o) (by decide) (by decide) (by rw [hM]; exact lk_X9_82) rfl rfl rfl rfl hd h
theorem lk_X9_85 : Cond.fieldLink RX9 85 "StoneRaised$Town" "bites" "I" ∈ lwG := lwc_1 140 (by decide +kernel) (by decide +kernel)
theorem gf_X9_85 {g : GT} {d : Nat} {M : MI} {Q : Int → Sg → Prop} {pc : Nat} {ls st : List AV} {σ : Sg} {o : Int} (hM : M.1.cls = RX9) (hd : decode M.2.1 pc = .ok (.getfield 85, 3)) (h : Wp g d M Q (pc + 3) ls ((0, (σ o 18)) :: st) σ) : Wp g d M Q pc ls ((18, o) :: st) σ := r_getf (ci := 8) (k := 18) (o := o) (by decide) (by decide) (by rw [hM]; exact lk_X9_85) hd h
theorem pf_X9_85 {g : GT} {d : Nat} {M : MI} {Q : Int → Sg → Prop} {pc : Nat} {ls st : List AV} {σ : Sg} {o : Int} {v : Int} (hM : M.1.cls = RX9) (hd : decode M.2.1 pc = .ok (.putfield 85, 3)) (h : Wp g d M Q (pc + 3) ls st (ups σ o 18 v)) : Wp g d M Q pc ls ((0, v) :: (18, o) :: st) σ := r_putf (ci := 8) (k := 18) (o := o) (by decide) (by decide) (by rw [hM]; exact lk_X9_85) rfl rfl rfl rfl hd h
theorem lk_X9_96 : Cond.fieldLink RX9 96 "StoneRaised$Word" "TALK" "LStoneRaised$Word;" ∈ lwG := lwc_4 151 (by decide +kernel) (by decide +kernel)
theorem lk_X9_102 : Cond.fieldLink RX9 102 "StoneRaised$Word" "fact" "I" ∈ lwG := lwc_9 107 (by decide +kernel) (by decide +kernel)
theorem lk_X9_105 : Cond.fieldLink RX9 105 "StoneRaised$Word" "WARM" "LStoneRaised$Word;" ∈ lwG := lwc_4 152 (by decide +kernel) (by decide +kernel)
theorem lk_X9_108 : Cond.fieldLink RX9 108 "StoneRaised$Word" "AGE" "LStoneRaised$Word;" ∈ lwG := lwc_4 153 (by decide +kernel) (by decide +kernel)
theorem lk_X9_111 : Cond.fieldLink RX9 111 "StoneRaised$Word" "STRONG" "LStoneRaised$Word;" ∈ lwG := lwc_4 155 (by decide +kernel) (by decide +kernel)
theorem lk_X9_114 : Cond.fieldLink RX9 114 "StoneRaised$Word" "YEAR" "LStoneRaised$Word;" ∈ lwG := lwc_4 157 (by decide +kernel) (by decide +kernel)
theorem lk_X12_334 : Cond.constantLong RX12 334 (Int64.ofInt (1103515245)) ∈ lwG := lwc_5 161 (by decide +kernel) (by decide +kernel)
theorem lk_X12_336 : Cond.constantLong RX12 336 (Int64.ofInt (12345)) ∈ lwG := lwc_5 162 (by decide +kernel) (by decide +kernel)
theorem lk_X12_338 : Cond.constantLong RX12 338 (Int64.ofInt (2147483647)) ∈ lwG := lwc_5 163 (by decide +kernel) (by decide +kernel)
theorem lk_X13_277 : Cond.constantLong RX13 277 (Int64.ofInt (1752132965)) ∈ lwG := lwc_7 55 (by decide +kernel) (by decide +kernel)
theorem lk_X13_279 : Cond.constantLong RX13 279 (Int64.ofInt (1952541803)) ∈ lwG := lwc_7 76 (by decide +kernel) (by decide +kernel)
theorem lk_X13_281 : Cond.constantLong RX13 281 (Int64.ofInt (2002874989)) ∈ lwG := lwc_7 77 (by decide +kernel) (by decide +kernel)
theorem lk_X13_283 : Cond.constantLong RX13 283 (Int64.ofInt (426953501796)) ∈ lwG := lwc_7 78 (by decide +kernel) (by decide +kernel)
theorem lk_X13_285 : Cond.constantLong RX13 285 (Int64.ofInt (28518)) ∈ lwG := lwc_7 79 (by decide +kernel) (by decide +kernel)
theorem lk_X13_287 : Cond.constantLong RX13 287 (Int64.ofInt (1651470958)) ∈ lwG := lwc_7 80 (by decide +kernel) (by decide +kernel)
theorem lk_X13_289 : Cond.constantLong RX13 289 (Int64.ofInt (500219604595)) ∈ lwG := lwc_7 81 (by decide +kernel) (by decide +kernel)
theorem lk_X13_291 : Cond.constantLong RX13 291 (Int64.ofInt (1717925220)) ∈ lwG := lwc_7 82 (by decide +kernel) (by decide +kernel)
theorem lk_X13_293 : Cond.constantLong RX13 293 (Int64.ofInt (2002873452)) ∈ lwG := lwc_7 83 (by decide +kernel) (by decide +kernel)
theorem lk_X13_295 : Cond.constantLong RX13 295 (Int64.ofInt (2003395685)) ∈ lwG := lwc_7 84 (by decide +kernel) (by decide +kernel)
theorem lk_X13_297 : Cond.constantLong RX13 297 (Int64.ofInt (1751738216)) ∈ lwG := lwc_7 85 (by decide +kernel) (by decide +kernel)
theorem lk_X13_299 : Cond.constantLong RX13 299 (Int64.ofInt (444015930995)) ∈ lwG := lwc_7 86 (by decide +kernel) (by decide +kernel)
theorem lk_X13_301 : Cond.constantLong RX13 301 (Int64.ofInt (7168377)) ∈ lwG := lwc_7 87 (by decide +kernel) (by decide +kernel)
theorem lk_X13_303 : Cond.constantLong RX13 303 (Int64.ofInt (125762706564452)) ∈ lwG := lwc_7 88 (by decide +kernel) (by decide +kernel)
theorem lk_X13_305 : Cond.constantLong RX13 305 (Int64.ofInt (29807)) ∈ lwG := lwc_7 89 (by decide +kernel) (by decide +kernel)
theorem lk_X13_307 : Cond.constantLong RX13 307 (Int64.ofInt (131277443786867)) ∈ lwG := lwc_7 90 (by decide +kernel) (by decide +kernel)
theorem lk_X13_309 : Cond.constantLong RX13 309 (Int64.ofInt (440006570868)) ∈ lwG := lwc_7 91 (by decide +kernel) (by decide +kernel)
theorem lk_X13_311 : Cond.constantLong RX13 311 (Int64.ofInt (422676030835)) ∈ lwG := lwc_7 92 (by decide +kernel) (by decide +kernel)
theorem lk_X13_313 : Cond.constantLong RX13 313 (Int64.ofInt (6383461)) ∈ lwG := lwc_7 93 (by decide +kernel) (by decide +kernel)
theorem lk_X13_315 : Cond.constantLong RX13 315 (Int64.ofInt (126943973305959)) ∈ lwG := lwc_7 94 (by decide +kernel) (by decide +kernel)
theorem lk_X13_317 : Cond.constantLong RX13 317 (Int64.ofInt (2036687218)) ∈ lwG := lwc_7 95 (by decide +kernel) (by decide +kernel)
theorem lk_X13_319 : Cond.constantLong RX13 319 (Int64.ofInt (109330362954597)) ∈ lwG := lwc_7 96 (by decide +kernel) (by decide +kernel)
theorem lk_X13_321 : Cond.constantLong RX13 321 (Int64.ofInt (1818584692)) ∈ lwG := lwc_7 97 (by decide +kernel) (by decide +kernel)
theorem lk_X13_323 : Cond.constantLong RX13 323 (Int64.ofInt (504363246962)) ∈ lwG := lwc_7 98 (by decide +kernel) (by decide +kernel)
theorem lk_X13_325 : Cond.constantLong RX13 325 (Int64.ofInt (26982)) ∈ lwG := lwc_7 99 (by decide +kernel) (by decide +kernel)
theorem lk_X13_327 : Cond.constantLong RX13 327 (Int64.ofInt (28530)) ∈ lwG := lwc_7 100 (by decide +kernel) (by decide +kernel)
theorem lk_X13_329 : Cond.constantLong RX13 329 (Int64.ofInt (6385252)) ∈ lwG := lwc_7 101 (by decide +kernel) (by decide +kernel)
theorem lk_X13_331 : Cond.constantLong RX13 331 (Int64.ofInt (7237492)) ∈ lwG := lwc_7 102 (by decide +kernel) (by decide +kernel)
theorem lk_X13_333 : Cond.constantLong RX13 333 (Int64.ofInt (6384748)) ∈ lwG := lwc_7 103 (by decide +kernel) (by decide +kernel)
theorem lk_X13_335 : Cond.constantLong RX13 335 (Int64.ofInt (7170414)) ∈ lwG := lwc_7 104 (by decide +kernel) (by decide +kernel)
theorem lk_X13_337 : Cond.constantLong RX13 337 (Int64.ofInt (7168376)) ∈ lwG := lwc_7 105 (by decide +kernel) (by decide +kernel)
theorem lk_X13_464 : Cond.constantLong RX13 464 (Int64.ofInt (1000000)) ∈ lwG := lwc_8 156 (by decide +kernel) (by decide +kernel)
theorem lk_X13_466 : Cond.constantLong RX13 466 (Int64.ofInt (-1000000)) ∈ lwG := lwc_8 157 (by decide +kernel) (by decide +kernel)
theorem lk_X13_491 : Cond.constantLong RX13 491 (Int64.ofInt (99)) ∈ lwG := lwc_8 161 (by decide +kernel) (by decide +kernel)
theorem lk_X13_493 : Cond.constantLong RX13 493 (Int64.ofInt (999)) ∈ lwG := lwc_8 162 (by decide +kernel) (by decide +kernel)
theorem lk_X13_586 : Cond.constantLong RX13 586 (Int64.ofInt (255)) ∈ lwG := lwc_8 53 (by decide +kernel) (by decide +kernel)
theorem lk_X13_632 : Cond.constantLong RX13 632 (Int64.ofInt (1103515245)) ∈ lwG := lwc_9 48 (by decide +kernel) (by decide +kernel)
theorem lk_X13_634 : Cond.constantLong RX13 634 (Int64.ofInt (12345)) ∈ lwG := lwc_9 49 (by decide +kernel) (by decide +kernel)
theorem lk_X13_636 : Cond.constantLong RX13 636 (Int64.ofInt (2147483648)) ∈ lwG := lwc_9 50 (by decide +kernel) (by decide +kernel)
theorem lk_X13_638 : Cond.constantLong RX13 638 (Int64.ofInt (64)) ∈ lwG := lwc_9 51 (by decide +kernel) (by decide +kernel)
theorem lk_X2_30 : Cond.constantLong RX2 30 (Int64.ofInt (-1000000)) ∈ lwG := lwc_4 181 (by decide +kernel) (by decide +kernel)
theorem lk_X2_32 : Cond.constantLong RX2 32 (Int64.ofInt (1000000)) ∈ lwG := lwc_4 182 (by decide +kernel) (by decide +kernel)
theorem lk_J6_265 : Cond.constant RJ6 265 (Int32.ofInt (1431655765)) ∈ lwG := lwc_4 30 (by decide +kernel) (by decide +kernel)
theorem lk_J6_266 : Cond.constant RJ6 266 (Int32.ofInt (858993459)) ∈ lwG := lwc_4 31 (by decide +kernel) (by decide +kernel)
theorem lk_J6_267 : Cond.constant RJ6 267 (Int32.ofInt (252645135)) ∈ lwG := lwc_4 32 (by decide +kernel) (by decide +kernel)
theorem lk_X13_625 : Cond.constant RX13 625 (Int32.ofInt (100000000)) ∈ lwG := lwc_9 23 (by decide +kernel) (by decide +kernel)
theorem ok_L_13 : okV RL 13 RX12 M_X12_feed 5 := ⟨⟨lwc_2 215 (by decide +kernel) (by decide +kernel), mi_X12_feed, ms_X12_feed, in_X12, mc_X12_feed⟩, by decide +kernel, by decide⟩
theorem ok_L_17 : okV RL 17 RX13 M_X13_feed 5 := ⟨⟨lwc_7 13 (by decide +kernel) (by decide +kernel), mi_X13_feed, ms_X13_feed, in_X13, mc_X13_feed⟩, by decide +kernel, by decide⟩
theorem ok_L_18 : okV RL 18 RX12 M_X12_end 1 := ⟨⟨lwc_2 227 (by decide +kernel) (by decide +kernel), mi_X12_end, ms_X12_end, in_X12, mc_X12_end⟩, by decide +kernel, by decide⟩
theorem ok_L_22 : okV RL 22 RX13 M_X13_end 1 := ⟨⟨lwc_7 25 (by decide +kernel) (by decide +kernel), mi_X13_end, ms_X13_end, in_X13, mc_X13_end⟩, by decide +kernel, by decide⟩
theorem ok_L_23 : okV RL 23 RX12 M_X12_town 0 := ⟨⟨lwc_2 231 (by decide +kernel) (by decide +kernel), mi_X12_town, ms_X12_town, in_X12, mc_X12_town⟩, by decide +kernel, by decide⟩
theorem ok_L_27 : okV RL 27 RX13 M_X13_town 0 := ⟨⟨lwc_7 29 (by decide +kernel) (by decide +kernel), mi_X13_town, ms_X13_town, in_X13, mc_X13_town⟩, by decide +kernel, by decide⟩
theorem ok_L_28 : okV RL 28 RX12 M_X12_fault 1 := ⟨⟨lwc_4 16 (by decide +kernel) (by decide +kernel), mi_X12_fault, ms_X12_fault, in_X12, mc_X12_fault⟩, by decide +kernel, by decide⟩
theorem ok_L_32 : okV RL 32 RX13 M_X13_fault 1 := ⟨⟨lwc_7 226 (by decide +kernel) (by decide +kernel), mi_X13_fault, ms_X13_fault, in_X13, mc_X13_fault⟩, by decide +kernel, by decide⟩
theorem ok_L_33 : okV RL 33 RX12 M_X12_has 1 := ⟨⟨lwc_4 20 (by decide +kernel) (by decide +kernel), mi_X12_has, ms_X12_has, in_X12, mc_X12_has⟩, by decide +kernel, by decide⟩
theorem ok_L_36 : okV RL 36 RX13 M_X13_has 1 := ⟨⟨lwc_8 6 (by decide +kernel) (by decide +kernel), mi_X13_has, ms_X13_has, in_X13, mc_X13_has⟩, by decide +kernel, by decide⟩
theorem ok_L_37 : okV RL 37 RX12 M_X12_letter 3 := ⟨⟨lwc_4 59 (by decide +kernel) (by decide +kernel), mi_X12_letter, ms_X12_letter, in_X12, mc_X12_letter⟩, by decide +kernel, by decide⟩
theorem ok_L_41 : okV RL 41 RX13 M_X13_letter 3 := ⟨⟨lwc_8 49 (by decide +kernel) (by decide +kernel), mi_X13_letter, ms_X13_letter, in_X13, mc_X13_letter⟩, by decide +kernel, by decide⟩
theorem ok_L_42 : okV RL 42 RX12 M_X12_home 2 := ⟨⟨lwc_4 63 (by decide +kernel) (by decide +kernel), mi_X12_home, ms_X12_home, in_X12, mc_X12_home⟩, by decide +kernel, by decide⟩
theorem ok_L_46 : okV RL 46 RX13 M_X13_home 2 := ⟨⟨lwc_8 54 (by decide +kernel) (by decide +kernel), mi_X13_home, ms_X13_home, in_X13, mc_X13_home⟩, by decide +kernel, by decide⟩
theorem ok_L_47 : okV RL 47 RX12 M_X12_child 2 := ⟨⟨lwc_4 71 (by decide +kernel) (by decide +kernel), mi_X12_child, ms_X12_child, in_X12, mc_X12_child⟩, by decide +kernel, by decide⟩
theorem ok_L_50 : okV RL 50 RX13 M_X13_child 2 := ⟨⟨lwc_8 62 (by decide +kernel) (by decide +kernel), mi_X13_child, ms_X13_child, in_X13, mc_X13_child⟩, by decide +kernel, by decide⟩
theorem ok_L_51 : okV RL 51 RX12 M_X12_stone 2 := ⟨⟨lwc_4 80 (by decide +kernel) (by decide +kernel), mi_X12_stone, ms_X12_stone, in_X12, mc_X12_stone⟩, by decide +kernel, by decide⟩
theorem ok_L_54 : okV RL 54 RX13 M_X13_stone 2 := ⟨⟨lwc_8 74 (by decide +kernel) (by decide +kernel), mi_X13_stone, ms_X13_stone, in_X13, mc_X13_stone⟩, by decide +kernel, by decide⟩
theorem ok_L_55 : okV RL 55 RX12 M_X12_wall 2 := ⟨⟨lwc_4 107 (by decide +kernel) (by decide +kernel), mi_X12_wall, ms_X12_wall, in_X12, mc_X12_wall⟩, by decide +kernel, by decide⟩
theorem ok_L_58 : okV RL 58 RX13 M_X13_wall 2 := ⟨⟨lwc_8 106 (by decide +kernel) (by decide +kernel), mi_X13_wall, ms_X13_wall, in_X13, mc_X13_wall⟩, by decide +kernel, by decide⟩
theorem ok_L_59 : okV RL 59 RX12 M_X12_at 3 := ⟨⟨lwc_4 116 (by decide +kernel) (by decide +kernel), mi_X12_at, ms_X12_at, in_X12, mc_X12_at⟩, by decide +kernel, by decide⟩
theorem ok_L_62 : okV RL 62 RX13 M_X13_at 3 := ⟨⟨lwc_8 114 (by decide +kernel) (by decide +kernel), mi_X13_at, ms_X13_at, in_X13, mc_X13_at⟩, by decide +kernel, by decide⟩
theorem ok_L_63 : okV RL 63 RX12 M_X12_later 2 := ⟨⟨lwc_4 123 (by decide +kernel) (by decide +kernel), mi_X12_later, ms_X12_later, in_X12, mc_X12_later⟩, by decide +kernel, by decide⟩
theorem ok_L_66 : okV RL 66 RX13 M_X13_later 2 := ⟨⟨lwc_8 122 (by decide +kernel) (by decide +kernel), mi_X13_later, ms_X13_later, in_X13, mc_X13_later⟩, by decide +kernel, by decide⟩
theorem ok_L_67 : okV RL 67 RX12 M_X12_built 1 := ⟨⟨lwc_5 14 (by decide +kernel) (by decide +kernel), mi_X12_built, ms_X12_built, in_X12, mc_X12_built⟩, by decide +kernel, by decide⟩
theorem ok_L_70 : okV RL 70 RX13 M_X13_built 1 := ⟨⟨lwc_8 203 (by decide +kernel) (by decide +kernel), mi_X13_built, ms_X13_built, in_X13, mc_X13_built⟩, by decide +kernel, by decide⟩
theorem ok_L_71 : okV RL 71 RX12 M_X12_down 1 := ⟨⟨lwc_5 22 (by decide +kernel) (by decide +kernel), mi_X12_down, ms_X12_down, in_X12, mc_X12_down⟩, by decide +kernel, by decide⟩
theorem ok_L_74 : okV RL 74 RX13 M_X13_down 1 := ⟨⟨lwc_8 207 (by decide +kernel) (by decide +kernel), mi_X13_down, ms_X13_down, in_X13, mc_X13_down⟩, by decide +kernel, by decide⟩
theorem ok_L_75 : okV RL 75 RX12 M_X12_props 1 := ⟨⟨lwc_5 34 (by decide +kernel) (by decide +kernel), mi_X12_props, ms_X12_props, in_X12, mc_X12_props⟩, by decide +kernel, by decide⟩
theorem ok_L_78 : okV RL 78 RX13 M_X13_props 1 := ⟨⟨lwc_8 211 (by decide +kernel) (by decide +kernel), mi_X13_props, ms_X13_props, in_X13, mc_X13_props⟩, by decide +kernel, by decide⟩
theorem ok_L_79 : okV RL 79 RX12 M_X12_strongest 2 := ⟨⟨lwc_5 49 (by decide +kernel) (by decide +kernel), mi_X12_strongest, ms_X12_strongest, in_X12, mc_X12_strongest⟩, by decide +kernel, by decide⟩
theorem ok_L_82 : okV RL 82 RX13 M_X13_strongest 2 := ⟨⟨lwc_8 219 (by decide +kernel) (by decide +kernel), mi_X13_strongest, ms_X13_strongest, in_X13, mc_X13_strongest⟩, by decide +kernel, by decide⟩
theorem ok_L_83 : okV RL 83 RX12 M_X12_order 1 := ⟨⟨lwc_5 64 (by decide +kernel) (by decide +kernel), mi_X12_order, ms_X12_order, in_X12, mc_X12_order⟩, by decide +kernel, by decide⟩
theorem ok_L_86 : okV RL 86 RX13 M_X13_order 1 := ⟨⟨lwc_8 223 (by decide +kernel) (by decide +kernel), mi_X13_order, ms_X13_order, in_X13, mc_X13_order⟩, by decide +kernel, by decide⟩
theorem ok_L_87 : okV RL 87 RX12 M_X12_reconcile 2 := ⟨⟨lwc_5 80 (by decide +kernel) (by decide +kernel), mi_X12_reconcile, ms_X12_reconcile, in_X12, mc_X12_reconcile⟩, by decide +kernel, by decide⟩
theorem ok_L_90 : okV RL 90 RX13 M_X13_reconcile 2 := ⟨⟨lwc_8 231 (by decide +kernel) (by decide +kernel), mi_X13_reconcile, ms_X13_reconcile, in_X13, mc_X13_reconcile⟩, by decide +kernel, by decide⟩
theorem ok_L_91 : okV RL 91 RX12 M_X12_seams 1 := ⟨⟨lwc_5 84 (by decide +kernel) (by decide +kernel), mi_X12_seams, ms_X12_seams, in_X12, mc_X12_seams⟩, by decide +kernel, by decide⟩
theorem ok_L_94 : okV RL 94 RX13 M_X13_seams 1 := ⟨⟨lwc_8 235 (by decide +kernel) (by decide +kernel), mi_X13_seams, ms_X13_seams, in_X13, mc_X13_seams⟩, by decide +kernel, by decide⟩
theorem ok_L_95 : okV RL 95 RX12 M_X12_homes 1 := ⟨⟨lwc_5 110 (by decide +kernel) (by decide +kernel), mi_X12_homes, ms_X12_homes, in_X12, mc_X12_homes⟩, by decide +kernel, by decide⟩
theorem ok_L_98 : okV RL 98 RX13 M_X13_homes 1 := ⟨⟨lwc_9 19 (by decide +kernel) (by decide +kernel), mi_X13_homes, ms_X13_homes, in_X13, mc_X13_homes⟩, by decide +kernel, by decide⟩
theorem ok_L_99 : okV RL 99 RX12 M_X12_pulling 1 := ⟨⟨lwc_5 124 (by decide +kernel) (by decide +kernel), mi_X12_pulling, ms_X12_pulling, in_X12, mc_X12_pulling⟩, by decide +kernel, by decide⟩
theorem ok_L_102 : okV RL 102 RX13 M_X13_pulling 1 := ⟨⟨lwc_9 24 (by decide +kernel) (by decide +kernel), mi_X13_pulling, ms_X13_pulling, in_X13, mc_X13_pulling⟩, by decide +kernel, by decide⟩
theorem ok_L_103 : okV RL 103 RX12 M_X12_years 1 := ⟨⟨lwc_5 138 (by decide +kernel) (by decide +kernel), mi_X12_years, ms_X12_years, in_X12, mc_X12_years⟩, by decide +kernel, by decide⟩
theorem ok_L_106 : okV RL 106 RX13 M_X13_years 1 := ⟨⟨lwc_9 32 (by decide +kernel) (by decide +kernel), mi_X13_years, ms_X13_years, in_X13, mc_X13_years⟩, by decide +kernel, by decide⟩
theorem ok_L_107 : okV RL 107 RX12 M_X12_chance 1 := ⟨⟨lwc_5 153 (by decide +kernel) (by decide +kernel), mi_X12_chance, ms_X12_chance, in_X12, mc_X12_chance⟩, by decide +kernel, by decide⟩
theorem ok_L_110 : okV RL 110 RX13 M_X13_chance 1 := ⟨⟨lwc_9 40 (by decide +kernel) (by decide +kernel), mi_X13_chance, ms_X13_chance, in_X13, mc_X13_chance⟩, by decide +kernel, by decide⟩
theorem ok_L_111 : okV RL 111 RX12 M_X12_go 2 := ⟨⟨lwc_5 164 (by decide +kernel) (by decide +kernel), mi_X12_go, ms_X12_go, in_X12, mc_X12_go⟩, by decide +kernel, by decide⟩
theorem ok_L_115 : okV RL 115 RX13 M_X13_go 2 := ⟨⟨lwc_9 52 (by decide +kernel) (by decide +kernel), mi_X13_go, ms_X13_go, in_X13, mc_X13_go⟩, by decide +kernel, by decide⟩
theorem ok_L_116 : okV RL 116 RX12 M_X12_pull 1 := ⟨⟨lwc_5 168 (by decide +kernel) (by decide +kernel), mi_X12_pull, ms_X12_pull, in_X12, mc_X12_pull⟩, by decide +kernel, by decide⟩
theorem ok_L_119 : okV RL 119 RX13 M_X13_pull 1 := ⟨⟨lwc_9 56 (by decide +kernel) (by decide +kernel), mi_X13_pull, ms_X13_pull, in_X13, mc_X13_pull⟩, by decide +kernel, by decide⟩
theorem ok_L_120 : okV RL 120 RX12 M_X12_peace 1 := ⟨⟨lwc_5 173 (by decide +kernel) (by decide +kernel), mi_X12_peace, ms_X12_peace, in_X12, mc_X12_peace⟩, by decide +kernel, by decide⟩
theorem ok_L_123 : okV RL 123 RX13 M_X13_peace 1 := ⟨⟨lwc_9 60 (by decide +kernel) (by decide +kernel), mi_X13_peace, ms_X13_peace, in_X13, mc_X13_peace⟩, by decide +kernel, by decide⟩
theorem ok_L_124 : okV RL 124 RX12 M_X12_undo 0 := ⟨⟨lwc_5 177 (by decide +kernel) (by decide +kernel), mi_X12_undo, ms_X12_undo, in_X12, mc_X12_undo⟩, by decide +kernel, by decide⟩
theorem ok_L_128 : okV RL 128 RX13 M_X13_undo 0 := ⟨⟨lwc_7 234 (by decide +kernel) (by decide +kernel), mi_X13_undo, ms_X13_undo, in_X13, mc_X13_undo⟩, by decide +kernel, by decide⟩
theorem ok_L_129 : okV RL 129 RX12 M_X12_seed 1 := ⟨⟨lwc_5 187 (by decide +kernel) (by decide +kernel), mi_X12_seed, ms_X12_seed, in_X12, mc_X12_seed⟩, by decide +kernel, by decide⟩
theorem ok_L_132 : okV RL 132 RX13 M_X13_seed 1 := ⟨⟨lwc_9 64 (by decide +kernel) (by decide +kernel), mi_X13_seed, ms_X13_seed, in_X13, mc_X13_seed⟩, by decide +kernel, by decide⟩
theorem ok_L_133 : okV RL 133 RX12 M_X12_kept 2 := ⟨⟨lwc_5 191 (by decide +kernel) (by decide +kernel), mi_X12_kept, ms_X12_kept, in_X12, mc_X12_kept⟩, by decide +kernel, by decide⟩
theorem ok_L_136 : okV RL 136 RX13 M_X13_kept 2 := ⟨⟨lwc_9 68 (by decide +kernel) (by decide +kernel), mi_X13_kept, ms_X13_kept, in_X13, mc_X13_kept⟩, by decide +kernel, by decide⟩
theorem ok_L_137 : okV RL 137 RX12 M_X12_image 0 := ⟨⟨lwc_5 195 (by decide +kernel) (by decide +kernel), mi_X12_image, ms_X12_image, in_X12, mc_X12_image⟩, by decide +kernel, by decide⟩
theorem ok_L_140 : okV RL 140 RX13 M_X13_image 0 := ⟨⟨lwc_9 72 (by decide +kernel) (by decide +kernel), mi_X13_image, ms_X13_image, in_X13, mc_X13_image⟩, by decide +kernel, by decide⟩
theorem ok_L_141 : okV RL 141 RX12 M_X12_octet 1 := ⟨⟨lwc_5 216 (by decide +kernel) (by decide +kernel), mi_X12_octet, ms_X12_octet, in_X12, mc_X12_octet⟩, by decide +kernel, by decide⟩
theorem ok_L_144 : okV RL 144 RX13 M_X13_octet 1 := ⟨⟨lwc_9 84 (by decide +kernel) (by decide +kernel), mi_X13_octet, ms_X13_octet, in_X13, mc_X13_octet⟩, by decide +kernel, by decide⟩
theorem ok_L_145 : okV RL 145 RX12 M_X12_on 0 := ⟨⟨lwc_5 220 (by decide +kernel) (by decide +kernel), mi_X12_on, ms_X12_on, in_X12, mc_X12_on⟩, by decide +kernel, by decide⟩
theorem ok_L_148 : okV RL 148 RX13 M_X13_on 0 := ⟨⟨lwc_9 88 (by decide +kernel) (by decide +kernel), mi_X13_on, ms_X13_on, in_X13, mc_X13_on⟩, by decide +kernel, by decide⟩
theorem ok_L_149 : okV RL 149 RX12 M_X12_status 1 := ⟨⟨lwc_6 5 (by decide +kernel) (by decide +kernel), mi_X12_status, ms_X12_status, in_X12, mc_X12_status⟩, by decide +kernel, by decide⟩
theorem ok_L_152 : okV RL 152 RX13 M_X13_status 1 := ⟨⟨lwc_7 230 (by decide +kernel) (by decide +kernel), mi_X13_status, ms_X13_status, in_X13, mc_X13_status⟩, by decide +kernel, by decide⟩
theorem lm_X1_47 : Cond.methodLink RX1 47 arraycopyName ∈ lwG ∧ Cond.native arraycopyName ∈ lwG ∧ Cond.static arraycopyName ∈ lwG ∧ Cond.initialized "java/lang/System" ∈ lwG := ⟨lwc_5 150 (by decide +kernel) (by decide +kernel), lwc_2 17 (by decide +kernel) (by decide +kernel), lwc_2 16 (by decide +kernel) (by decide +kernel), lwc_1 11 (by decide +kernel) (by decide +kernel)⟩
theorem lm_X1_53 : Cond.methodLink RX1 53 Lib.Math.min.name ∈ lwG ∧ Cond.static Lib.Math.min.name ∈ lwG ∧ Cond.initialized "java/lang/Math" ∈ lwG ∧ Cond.code Lib.Math.min.name Lib.Math.min.code 2 (some .int) ∈ lwG := ⟨lwc_5 151 (by decide +kernel) (by decide +kernel), lwc_4 184 (by decide +kernel) (by decide +kernel), lwc_1 19 (by decide +kernel) (by decide +kernel), lwc_4 185 (by decide +kernel) (by decide +kernel)⟩
theorem ok_X1_59 : okV RX1 59 RX11 M_X11_clearWalls 0 := ⟨⟨lwc_5 185 (by decide +kernel) (by decide +kernel), mi_X11_clearWalls, ms_X11_clearWalls, in_X11, mc_X11_clearWalls⟩, by decide +kernel, by decide⟩
theorem ok_X1_62 : okV RX1 62 RX11 M_X11_put 2 := ⟨⟨lwc_5 186 (by decide +kernel) (by decide +kernel), mi_X11_put, ms_X11_put, in_X11, mc_X11_put⟩, by decide +kernel, by decide⟩
theorem ok_X11_30 : okV RX11 30 RX11 M_X11_begin 1 := ⟨⟨lwc_2 11 (by decide +kernel) (by decide +kernel), mi_X11_begin, ms_X11_begin, in_X11, mc_X11_begin⟩, by decide +kernel, by decide⟩
theorem lm_X11_50 : Cond.methodLink RX11 50 arraycopyName ∈ lwG ∧ Cond.native arraycopyName ∈ lwG ∧ Cond.static arraycopyName ∈ lwG ∧ Cond.initialized "java/lang/System" ∈ lwG := ⟨lwc_2 15 (by decide +kernel) (by decide +kernel), lwc_2 17 (by decide +kernel) (by decide +kernel), lwc_2 16 (by decide +kernel) (by decide +kernel), lwc_1 11 (by decide +kernel) (by decide +kernel)⟩
theorem ok_X11_56 : okS RX11 56 M_J7_fill_53178 2 := ⟨⟨lwc_2 18 (by decide +kernel) (by decide +kernel), mi_J7_fill_53178, in_J7, mc_J7_fill_53178⟩, by decide +kernel, by decide⟩
theorem ok_X11_62 : okV RX11 62 RX11 M_X11_clearWalls 0 := ⟨⟨lwc_2 19 (by decide +kernel) (by decide +kernel), mi_X11_clearWalls, ms_X11_clearWalls, in_X11, mc_X11_clearWalls⟩, by decide +kernel, by decide⟩
theorem ok_X11_65 : okV RX11 65 RX11 M_X11_clearCounts 0 := ⟨⟨lwc_2 23 (by decide +kernel) (by decide +kernel), mi_X11_clearCounts, ms_X11_clearCounts, in_X11, mc_X11_clearCounts⟩, by decide +kernel, by decide⟩
theorem ok_X11_83 : okV RX11 83 RX11 M_X11_age 1 := ⟨⟨lwc_4 46 (by decide +kernel) (by decide +kernel), mi_X11_age, ms_X11_age, in_X11, mc_X11_age⟩, by decide +kernel, by decide⟩
theorem ok_X11_90 : okV RX11 90 RX11 M_X11_isDone 1 := ⟨⟨lwc_4 42 (by decide +kernel) (by decide +kernel), mi_X11_isDone, ms_X11_isDone, in_X11, mc_X11_isDone⟩, by decide +kernel, by decide⟩
theorem ok_X11_97 : okV RX11 97 RX9 M_X9_childCount 0 := ⟨⟨lwc_4 37 (by decide +kernel) (by decide +kernel), mi_X9_childCount, ms_X9_childCount, in_X9, mc_X9_childCount⟩, by decide +kernel, by decide⟩
theorem ok_X11_101 : okV RX11 101 RX11 M_X11_where 1 := ⟨⟨lwc_4 38 (by decide +kernel) (by decide +kernel), mi_X11_where, ms_X11_where, in_X11, mc_X11_where⟩, by decide +kernel, by decide⟩
theorem ok_X11_107 : okV RX11 107 RX9 M_X9_wallCount 0 := ⟨⟨lwc_4 54 (by decide +kernel) (by decide +kernel), mi_X9_wallCount, ms_X9_wallCount, in_X9, mc_X9_wallCount⟩, by decide +kernel, by decide⟩
theorem ok_X11_110 : okV RX11 110 RX11 M_X11_stonesIn 1 := ⟨⟨lwc_4 55 (by decide +kernel) (by decide +kernel), mi_X11_stonesIn, ms_X11_stonesIn, in_X11, mc_X11_stonesIn⟩, by decide +kernel, by decide⟩
theorem ok_X11_116 : okS RX11 116 M_X11_wallAt 1 := ⟨⟨lwc_4 93 (by decide +kernel) (by decide +kernel), mi_X11_wallAt, in_X11, mc_X11_wallAt⟩, by decide +kernel, by decide⟩
theorem ok_X11_119 : okV RX11 119 RX11 M_X11_loadAt 1 := ⟨⟨lwc_4 96 (by decide +kernel) (by decide +kernel), mi_X11_loadAt, ms_X11_loadAt, in_X11, mc_X11_loadAt⟩, by decide +kernel, by decide⟩
theorem ok_X11_122 : okV RX11 122 RX11 M_X11_bears 2 := ⟨⟨lwc_4 100 (by decide +kernel) (by decide +kernel), mi_X11_bears, ms_X11_bears, in_X11, mc_X11_bears⟩, by decide +kernel, by decide⟩
theorem lm_X11_129 : Cond.methodLink RX11 129 Lib.Math.max.name ∈ lwG ∧ Cond.static Lib.Math.max.name ∈ lwG ∧ Cond.initialized "java/lang/Math" ∈ lwG ∧ Cond.code Lib.Math.max.name Lib.Math.max.code 2 (some .int) ∈ lwG := ⟨lwc_4 104 (by decide +kernel) (by decide +kernel), lwc_4 105 (by decide +kernel) (by decide +kernel), lwc_1 19 (by decide +kernel) (by decide +kernel), lwc_4 106 (by decide +kernel) (by decide +kernel)⟩
theorem ok_X11_137 : okV RX11 137 RX11 M_X11_raise 0 := ⟨⟨lwc_4 139 (by decide +kernel) (by decide +kernel), mi_X11_raise, ms_X11_raise, in_X11, mc_X11_raise⟩, by decide +kernel, by decide⟩
theorem lm_X11_140 : Cond.methodLink RX11 140 Lib.Math.min.name ∈ lwG ∧ Cond.static Lib.Math.min.name ∈ lwG ∧ Cond.initialized "java/lang/Math" ∈ lwG ∧ Cond.code Lib.Math.min.name Lib.Math.min.code 2 (some .int) ∈ lwG := ⟨lwc_4 187 (by decide +kernel) (by decide +kernel), lwc_4 184 (by decide +kernel) (by decide +kernel), lwc_1 19 (by decide +kernel) (by decide +kernel), lwc_4 185 (by decide +kernel) (by decide +kernel)⟩
theorem ok_X11_143 : okV RX11 143 RX11 M_X11_freeze 0 := ⟨⟨lwc_4 188 (by decide +kernel) (by decide +kernel), mi_X11_freeze, ms_X11_freeze, in_X11, mc_X11_freeze⟩, by decide +kernel, by decide⟩
theorem ok_X11_146 : okV RX11 146 RX11 M_X11_fall 0 := ⟨⟨lwc_4 192 (by decide +kernel) (by decide +kernel), mi_X11_fall, ms_X11_fall, in_X11, mc_X11_fall⟩, by decide +kernel, by decide⟩
theorem ok_X11_149 : okV RX11 149 RX11 M_X11_buildIn 1 := ⟨⟨lwc_4 212 (by decide +kernel) (by decide +kernel), mi_X11_buildIn, ms_X11_buildIn, in_X11, mc_X11_buildIn⟩, by decide +kernel, by decide⟩
theorem ok_X11_152 : okV RX11 152 RX9 M_X9_grown 4 := ⟨⟨lwc_4 143 (by decide +kernel) (by decide +kernel), mi_X9_grown, ms_X9_grown, in_X9, mc_X9_grown⟩, by decide +kernel, by decide⟩
theorem ok_X11_159 : okV RX11 159 RX11 M_X11_weakSpot 1 := ⟨⟨lwc_4 196 (by decide +kernel) (by decide +kernel), mi_X11_weakSpot, ms_X11_weakSpot, in_X11, mc_X11_weakSpot⟩, by decide +kernel, by decide⟩
theorem ok_X11_162 : okV RX11 162 RX11 M_X11_dropFrom 1 := ⟨⟨lwc_4 200 (by decide +kernel) (by decide +kernel), mi_X11_dropFrom, ms_X11_dropFrom, in_X11, mc_X11_dropFrom⟩, by decide +kernel, by decide⟩
theorem ok_X11_166 : okV RX11 166 RX11 M_X11_lift 1 := ⟨⟨lwc_4 204 (by decide +kernel) (by decide +kernel), mi_X11_lift, ms_X11_lift, in_X11, mc_X11_lift⟩, by decide +kernel, by decide⟩
theorem ok_X11_169 : okV RX11 169 RX11 M_X11_keep 3 := ⟨⟨lwc_4 208 (by decide +kernel) (by decide +kernel), mi_X11_keep, ms_X11_keep, in_X11, mc_X11_keep⟩, by decide +kernel, by decide⟩
theorem ok_X11_173 : okV RX11 173 RX11 M_X11_freeSpot 1 := ⟨⟨lwc_4 216 (by decide +kernel) (by decide +kernel), mi_X11_freeSpot, ms_X11_freeSpot, in_X11, mc_X11_freeSpot⟩, by decide +kernel, by decide⟩
theorem ok_X11_176 : okV RX11 176 RX11 M_X11_isPeaceful 2 := ⟨⟨lwc_4 220 (by decide +kernel) (by decide +kernel), mi_X11_isPeaceful, ms_X11_isPeaceful, in_X11, mc_X11_isPeaceful⟩, by decide +kernel, by decide⟩
theorem ok_X11_180 : okV RX11 180 RX11 M_X11_mayLie 2 := ⟨⟨lwc_4 233 (by decide +kernel) (by decide +kernel), mi_X11_mayLie, ms_X11_mayLie, in_X11, mc_X11_mayLie⟩, by decide +kernel, by decide⟩
theorem ok_X11_183 : okV RX11 183 RX11 M_X11_put 2 := ⟨⟨lwc_5 4 (by decide +kernel) (by decide +kernel), mi_X11_put, ms_X11_put, in_X11, mc_X11_put⟩, by decide +kernel, by decide⟩
theorem ok_X11_187 : okV RX11 187 RX11 M_X11_leftOf 1 := ⟨⟨lwc_4 224 (by decide +kernel) (by decide +kernel), mi_X11_leftOf, ms_X11_leftOf, in_X11, mc_X11_leftOf⟩, by decide +kernel, by decide⟩
theorem ok_X11_190 : okV RX11 190 RX11 M_X11_rightOf 1 := ⟨⟨lwc_4 228 (by decide +kernel) (by decide +kernel), mi_X11_rightOf, ms_X11_rightOf, in_X11, mc_X11_rightOf⟩, by decide +kernel, by decide⟩
theorem ok_X11_193 : okV RX11 193 RX9 M_X9_foes 2 := ⟨⟨lwc_4 232 (by decide +kernel) (by decide +kernel), mi_X9_foes, ms_X9_foes, in_X9, mc_X9_foes⟩, by decide +kernel, by decide⟩
theorem ok_X11_205 : okV RX11 205 RX9 M_X9_setFacts 4 := ⟨⟨lwc_4 237 (by decide +kernel) (by decide +kernel), mi_X9_setFacts, ms_X9_setFacts, in_X9, mc_X9_setFacts⟩, by decide +kernel, by decide⟩
theorem ok_X11_227 : okV RX11 227 RX2 M_X2_value 1 := ⟨⟨lwc_5 3 (by decide +kernel) (by decide +kernel), mi_X2_value, ms_X2_value, in_X2, mc_X2_value⟩, by decide +kernel, by decide⟩
theorem ok_X12_89 : okV RX12 89 RX12 M_X12_refuse 1 := ⟨⟨lwc_2 219 (by decide +kernel) (by decide +kernel), mi_X12_refuse, ms_X12_refuse, in_X12, mc_X12_refuse⟩, by decide +kernel, by decide⟩
theorem ok_X12_93 : okV RX12 93 RX8 M_X8_add 1 := ⟨⟨lwc_2 223 (by decide +kernel) (by decide +kernel), mi_X8_add, ms_X8_add, in_X8, mc_X8_add⟩, by decide +kernel, by decide⟩
theorem ok_X12_97 : okV RX12 97 RX4 M_X4_begin 1 := ⟨⟨lwc_2 235 (by decide +kernel) (by decide +kernel), mi_X4_begin, ms_X4_begin, in_X4, mc_X4_begin⟩, by decide +kernel, by decide⟩
theorem ok_X12_100 : okV RX12 100 RX4 M_X4_hasMore 0 := ⟨⟨lwc_3 4 (by decide +kernel) (by decide +kernel), mi_X4_hasMore, ms_X4_hasMore, in_X4, mc_X4_hasMore⟩, by decide +kernel, by decide⟩
theorem ok_X12_104 : okV RX12 104 RX4 M_X4_statement 1 := ⟨⟨lwc_3 23 (by decide +kernel) (by decide +kernel), mi_X4_statement, ms_X4_statement, in_X4, mc_X4_statement⟩, by decide +kernel, by decide⟩
theorem ok_X12_119 : okV RX12 119 RX12 M_X12_settleIn 0 := ⟨⟨lwc_4 2 (by decide +kernel) (by decide +kernel), mi_X12_settleIn, ms_X12_settleIn, in_X12, mc_X12_settleIn⟩, by decide +kernel, by decide⟩
theorem ok_X12_122 : okV RX12 122 RX11 M_X11_begin 1 := ⟨⟨lwc_4 6 (by decide +kernel) (by decide +kernel), mi_X11_begin, ms_X11_begin, in_X11, mc_X11_begin⟩, by decide +kernel, by decide⟩
theorem ok_X12_123 : okV RX12 123 RX1 M_X1_forget 0 := ⟨⟨lwc_4 7 (by decide +kernel) (by decide +kernel), mi_X1_forget, ms_X1_forget, in_X1, mc_X1_forget⟩, by decide +kernel, by decide⟩
theorem ok_X12_126 : okV RX12 126 RX7 M_X7_forget 1 := ⟨⟨lwc_4 11 (by decide +kernel) (by decide +kernel), mi_X7_forget, ms_X7_forget, in_X7, mc_X7_forget⟩, by decide +kernel, by decide⟩
theorem ok_X12_128 : okV RX12 128 RX9 M_X9_homeCount 0 := ⟨⟨lwc_4 24 (by decide +kernel) (by decide +kernel), mi_X9_homeCount, ms_X9_homeCount, in_X9, mc_X9_homeCount⟩, by decide +kernel, by decide⟩
theorem ok_X12_132 : okV RX12 132 RX9 M_X9_childCount 0 := ⟨⟨lwc_4 25 (by decide +kernel) (by decide +kernel), mi_X9_childCount, ms_X9_childCount, in_X9, mc_X9_childCount⟩, by decide +kernel, by decide⟩
theorem ok_X12_135 : okV RX12 135 RX9 M_X9_wallCount 0 := ⟨⟨lwc_4 26 (by decide +kernel) (by decide +kernel), mi_X9_wallCount, ms_X9_wallCount, in_X9, mc_X9_wallCount⟩, by decide +kernel, by decide⟩
theorem ok_X12_144 : okS RX12 144 M_J6_bitCount_0f7a4 1 := ⟨⟨lwc_4 27 (by decide +kernel) (by decide +kernel), mi_J6_bitCount_0f7a4, in_J6, mc_J6_bitCount_0f7a4⟩, by decide +kernel, by decide⟩
theorem ok_X12_152 : okV RX12 152 RX11 M_X11_bitsAt 1 := ⟨⟨lwc_4 33 (by decide +kernel) (by decide +kernel), mi_X11_bitsAt, ms_X11_bitsAt, in_X11, mc_X11_bitsAt⟩, by decide +kernel, by decide⟩
theorem ok_X12_155 : okV RX12 155 RX11 M_X11_fullWalls 0 := ⟨⟨lwc_4 50 (by decide +kernel) (by decide +kernel), mi_X11_fullWalls, ms_X11_fullWalls, in_X11, mc_X11_fullWalls⟩, by decide +kernel, by decide⟩
theorem ok_X12_177 : okV RX12 177 RX11 M_X11_livingAt 1 := ⟨⟨lwc_4 67 (by decide +kernel) (by decide +kernel), mi_X11_livingAt, ms_X11_livingAt, in_X11, mc_X11_livingAt⟩, by decide +kernel, by decide⟩
theorem ok_X12_180 : okV RX12 180 RX12 M_X12_isChild 1 := ⟨⟨lwc_4 75 (by decide +kernel) (by decide +kernel), mi_X12_isChild, ms_X12_isChild, in_X12, mc_X12_isChild⟩, by decide +kernel, by decide⟩
theorem ok_X12_193 : okV RX12 193 RX9 M_X9_foes 2 := ⟨⟨lwc_4 79 (by decide +kernel) (by decide +kernel), mi_X9_foes, ms_X9_foes, in_X9, mc_X9_foes⟩, by decide +kernel, by decide⟩
theorem ok_X12_200 : okV RX12 200 RX11 M_X11_where 1 := ⟨⟨lwc_4 84 (by decide +kernel) (by decide +kernel), mi_X11_where, ms_X11_where, in_X11, mc_X11_where⟩, by decide +kernel, by decide⟩
theorem ok_X12_203 : okV RX12 203 RX12 M_X12_isBuilt 1 := ⟨⟨lwc_4 85 (by decide +kernel) (by decide +kernel), mi_X12_isBuilt, ms_X12_isBuilt, in_X12, mc_X12_isBuilt⟩, by decide +kernel, by decide⟩
theorem ok_X12_206 : okV RX12 206 RX11 M_X11_lying 2 := ⟨⟨lwc_4 89 (by decide +kernel) (by decide +kernel), mi_X11_lying, ms_X11_lying, in_X11, mc_X11_lying⟩, by decide +kernel, by decide⟩
theorem ok_X12_209 : okV RX12 209 RX12 M_X12_isWall 1 := ⟨⟨lwc_4 111 (by decide +kernel) (by decide +kernel), mi_X12_isWall, ms_X12_isWall, in_X12, mc_X12_isWall⟩, by decide +kernel, by decide⟩
theorem ok_X12_221 : okV RX12 221 RX11 M_X11_stonesIn 1 := ⟨⟨lwc_4 115 (by decide +kernel) (by decide +kernel), mi_X11_stonesIn, ms_X11_stonesIn, in_X11, mc_X11_stonesIn⟩, by decide +kernel, by decide⟩
theorem ok_X12_227 : okS RX12 227 M_X11_spot 3 := ⟨⟨lwc_4 120 (by decide +kernel) (by decide +kernel), mi_X11_spot, in_X11, mc_X11_spot⟩, by decide +kernel, by decide⟩
theorem ok_X12_231 : okV RX12 231 RX5 M_X5_goAhead 3 := ⟨⟨lwc_4 127 (by decide +kernel) (by decide +kernel), mi_X5_goAhead, ms_X5_goAhead, in_X5, mc_X5_goAhead⟩, by decide +kernel, by decide⟩
theorem ok_X12_241 : okV RX12 241 RX11 M_X11_strongTogether 0 := ⟨⟨lwc_5 10 (by decide +kernel) (by decide +kernel), mi_X11_strongTogether, ms_X11_strongTogether, in_X11, mc_X11_strongTogether⟩, by decide +kernel, by decide⟩
theorem ok_X12_244 : okV RX12 244 RX5 M_X5_firstBuilt 2 := ⟨⟨lwc_5 18 (by decide +kernel) (by decide +kernel), mi_X5_firstBuilt, ms_X5_firstBuilt, in_X5, mc_X5_firstBuilt⟩, by decide +kernel, by decide⟩
theorem ok_X12_248 : okV RX12 248 RX5 M_X5_comingDown 2 := ⟨⟨lwc_5 26 (by decide +kernel) (by decide +kernel), mi_X5_comingDown, ms_X5_comingDown, in_X5, mc_X5_comingDown⟩, by decide +kernel, by decide⟩
theorem ok_X12_251 : okV RX12 251 RX5 M_X5_fewestProps 2 := ⟨⟨lwc_5 38 (by decide +kernel) (by decide +kernel), mi_X5_fewestProps, ms_X5_fewestProps, in_X5, mc_X5_fewestProps⟩, by decide +kernel, by decide⟩
theorem ok_X12_254 : okV RX12 254 RX11 M_X11_isDone 1 := ⟨⟨lwc_5 53 (by decide +kernel) (by decide +kernel), mi_X11_isDone, ms_X11_isDone, in_X11, mc_X11_isDone⟩, by decide +kernel, by decide⟩
theorem ok_X12_257 : okV RX12 257 RX5 M_X5_strongestHome 2 := ⟨⟨lwc_5 54 (by decide +kernel) (by decide +kernel), mi_X5_strongestHome, ms_X5_strongestHome, in_X5, mc_X5_strongestHome⟩, by decide +kernel, by decide⟩
theorem ok_X12_260 : okV RX12 260 RX11 M_X11_strongWhenDone 2 := ⟨⟨lwc_5 63 (by decide +kernel) (by decide +kernel), mi_X11_strongWhenDone, ms_X11_strongWhenDone, in_X11, mc_X11_strongWhenDone⟩, by decide +kernel, by decide⟩
theorem ok_X12_263 : okV RX12 263 RX5 M_X5_findOrder 2 := ⟨⟨lwc_5 68 (by decide +kernel) (by decide +kernel), mi_X5_findOrder, ms_X5_findOrder, in_X5, mc_X5_findOrder⟩, by decide +kernel, by decide⟩
theorem ok_X12_273 : okV RX12 273 RX7 M_X7_take 3 := ⟨⟨lwc_5 88 (by decide +kernel) (by decide +kernel), mi_X7_take, ms_X7_take, in_X7, mc_X7_take⟩, by decide +kernel, by decide⟩
theorem ok_X12_280 : okV RX12 280 RX7 M_X7_telling 1 := ⟨⟨lwc_5 114 (by decide +kernel) (by decide +kernel), mi_X7_telling, ms_X7_telling, in_X7, mc_X7_telling⟩, by decide +kernel, by decide⟩
theorem ok_X12_284 : okV RX12 284 RX5 M_X5_firstWins 2 := ⟨⟨lwc_5 128 (by decide +kernel) (by decide +kernel), mi_X5_firstWins, ms_X5_firstWins, in_X5, mc_X5_firstWins⟩, by decide +kernel, by decide⟩
theorem ok_X12_288 : okV RX12 288 RX12 M_X12_canPass 1 := ⟨⟨lwc_5 142 (by decide +kernel) (by decide +kernel), mi_X12_canPass, ms_X12_canPass, in_X12, mc_X12_canPass⟩, by decide +kernel, by decide⟩
theorem ok_X12_291 : okV RX12 291 RX1 M_X1_save 1 := ⟨⟨lwc_5 146 (by decide +kernel) (by decide +kernel), mi_X1_save, ms_X1_save, in_X1, mc_X1_save⟩, by decide +kernel, by decide⟩
theorem ok_X12_298 : okV RX12 298 RX11 M_X11_passYear 1 := ⟨⟨lwc_5 152 (by decide +kernel) (by decide +kernel), mi_X11_passYear, ms_X11_passYear, in_X11, mc_X11_passYear⟩, by decide +kernel, by decide⟩
theorem ok_X12_302 : okV RX12 302 RX12 M_X12_drawHundred 0 := ⟨⟨lwc_5 157 (by decide +kernel) (by decide +kernel), mi_X12_drawHundred, ms_X12_drawHundred, in_X12, mc_X12_drawHundred⟩, by decide +kernel, by decide⟩
theorem ok_X12_308 : okV RX12 308 RX11 M_X11_pullOut 1 := ⟨⟨lwc_5 172 (by decide +kernel) (by decide +kernel), mi_X11_pullOut, ms_X11_pullOut, in_X11, mc_X11_pullOut⟩, by decide +kernel, by decide⟩
theorem ok_X12_311 : okV RX12 311 RX1 M_X1_takeBack 1 := ⟨⟨lwc_5 181 (by decide +kernel) (by decide +kernel), mi_X1_takeBack, ms_X1_takeBack, in_X1, mc_X1_takeBack⟩, by decide +kernel, by decide⟩
theorem ok_X12_318 : okV RX12 318 RX3 M_X3_write 1 := ⟨⟨lwc_5 199 (by decide +kernel) (by decide +kernel), mi_X3_write, ms_X3_write, in_X3, mc_X3_write⟩, by decide +kernel, by decide⟩
theorem ok_X12_325 : okS RX12 325 M_X3_read 3 := ⟨⟨lwc_5 224 (by decide +kernel) (by decide +kernel), mi_X3_read, in_X3, mc_X3_read⟩, by decide +kernel, by decide⟩
theorem ok_X12_329 : okV RX12 329 RX11 M_X11_copy 1 := ⟨⟨lwc_6 4 (by decide +kernel) (by decide +kernel), mi_X11_copy, ms_X11_copy, in_X11, mc_X11_copy⟩, by decide +kernel, by decide⟩
theorem ok_X13_246 : okV RX13 246 RX13 M_X13_isDefault 1 := ⟨⟨lwc_6 15 (by decide +kernel) (by decide +kernel), mi_X13_isDefault, ms_X13_isDefault, in_X13, mc_X13_isDefault⟩, by decide +kernel, by decide⟩
theorem ok_X13_250 : okV RX13 250 RX13 M_X13_refuses 1 := ⟨⟨lwc_7 17 (by decide +kernel) (by decide +kernel), mi_X13_refuses, ms_X13_refuses, in_X13, mc_X13_refuses⟩, by decide +kernel, by decide⟩
theorem ok_X13_254 : okV RX13 254 RX13 M_X13_put 1 := ⟨⟨lwc_7 21 (by decide +kernel) (by decide +kernel), mi_X13_put, ms_X13_put, in_X13, mc_X13_put⟩, by decide +kernel, by decide⟩
theorem ok_X13_257 : okV RX13 257 RX13 M_X13_blame 2 := ⟨⟨lwc_7 51 (by decide +kernel) (by decide +kernel), mi_X13_blame, ms_X13_blame, in_X13, mc_X13_blame⟩, by decide +kernel, by decide⟩
theorem ok_X13_261 : okS RX13 261 M_X13_isLetter 1 := ⟨⟨lwc_7 37 (by decide +kernel) (by decide +kernel), mi_X13_isLetter, in_X13, mc_X13_isLetter⟩, by decide +kernel, by decide⟩
theorem ok_X13_265 : okS RX13 265 M_X13_isDigit 1 := ⟨⟨lwc_7 40 (by decide +kernel) (by decide +kernel), mi_X13_isDigit, in_X13, mc_X13_isDigit⟩, by decide +kernel, by decide⟩
theorem ok_X13_268 : okV RX13 268 RX13 M_X13_lex 0 := ⟨⟨lwc_7 47 (by decide +kernel) (by decide +kernel), mi_X13_lex, ms_X13_lex, in_X13, mc_X13_lex⟩, by decide +kernel, by decide⟩
theorem ok_X13_271 : okV RX13 271 RX13 M_X13_isSign 1 := ⟨⟨lwc_7 183 (by decide +kernel) (by decide +kernel), mi_X13_isSign, ms_X13_isSign, in_X13, mc_X13_isSign⟩, by decide +kernel, by decide⟩
theorem ok_X13_274 : okV RX13 274 RX13 M_X13_ahead 0 := ⟨⟨lwc_7 33 (by decide +kernel) (by decide +kernel), mi_X13_ahead, ms_X13_ahead, in_X13, mc_X13_ahead⟩, by decide +kernel, by decide⟩
theorem ok_X13_339 : okV RX13 339 RX13 M_X13_manyOf 2 := ⟨⟨lwc_7 110 (by decide +kernel) (by decide +kernel), mi_X13_manyOf, ms_X13_manyOf, in_X13, mc_X13_manyOf⟩, by decide +kernel, by decide⟩
theorem ok_X13_343 : okV RX13 343 RX13 M_X13_nameOf 3 := ⟨⟨lwc_7 114 (by decide +kernel) (by decide +kernel), mi_X13_nameOf, ms_X13_nameOf, in_X13, mc_X13_nameOf⟩, by decide +kernel, by decide⟩
theorem ok_X13_347 : okS RX13 347 M_X13_is 3 := ⟨⟨lwc_7 126 (by decide +kernel) (by decide +kernel), mi_X13_is, in_X13, mc_X13_is⟩, by decide +kernel, by decide⟩
theorem ok_X13_351 : okS RX13 351 M_X13_rank 1 := ⟨⟨lwc_7 203 (by decide +kernel) (by decide +kernel), mi_X13_rank, in_X13, mc_X13_rank⟩, by decide +kernel, by decide⟩
theorem ok_X13_354 : okV RX13 354 RX13 M_X13_add 2 := ⟨⟨lwc_7 191 (by decide +kernel) (by decide +kernel), mi_X13_add, ms_X13_add, in_X13, mc_X13_add⟩, by decide +kernel, by decide⟩
theorem ok_X13_357 : okV RX13 357 RX13 M_X13_pushes 1 := ⟨⟨lwc_7 168 (by decide +kernel) (by decide +kernel), mi_X13_pushes, ms_X13_pushes, in_X13, mc_X13_pushes⟩, by decide +kernel, by decide⟩
theorem ok_X13_360 : okS RX13 360 M_X13_isTest 1 := ⟨⟨lwc_7 176 (by decide +kernel) (by decide +kernel), mi_X13_isTest, in_X13, mc_X13_isTest⟩, by decide +kernel, by decide⟩
theorem ok_X13_363 : okV RX13 363 RX13 M_X13_isWord 1 := ⟨⟨lwc_7 56 (by decide +kernel) (by decide +kernel), mi_X13_isWord, ms_X13_isWord, in_X13, mc_X13_isWord⟩, by decide +kernel, by decide⟩
theorem ok_X13_367 : okV RX13 367 RX13 M_X13_holdsBack 1 := ⟨⟨lwc_7 179 (by decide +kernel) (by decide +kernel), mi_X13_holdsBack, ms_X13_holdsBack, in_X13, mc_X13_holdsBack⟩, by decide +kernel, by decide⟩
theorem ok_X13_370 : okV RX13 370 RX13 M_X13_opens 1 := ⟨⟨lwc_7 187 (by decide +kernel) (by decide +kernel), mi_X13_opens, ms_X13_opens, in_X13, mc_X13_opens⟩, by decide +kernel, by decide⟩
theorem ok_X13_373 : okV RX13 373 RX13 M_X13_joins 1 := ⟨⟨lwc_7 199 (by decide +kernel) (by decide +kernel), mi_X13_joins, ms_X13_joins, in_X13, mc_X13_joins⟩, by decide +kernel, by decide⟩
theorem ok_X13_376 : okV RX13 376 RX13 M_X13_operand 0 := ⟨⟨lwc_7 172 (by decide +kernel) (by decide +kernel), mi_X13_operand, ms_X13_operand, in_X13, mc_X13_operand⟩, by decide +kernel, by decide⟩
theorem ok_X13_379 : okV RX13 379 RX13 M_X13_goesOn 0 := ⟨⟨lwc_7 195 (by decide +kernel) (by decide +kernel), mi_X13_goesOn, ms_X13_goesOn, in_X13, mc_X13_goesOn⟩, by decide +kernel, by decide⟩
theorem ok_X13_382 : okV RX13 382 RX13 M_X13_isOwn 1 := ⟨⟨lwc_7 72 (by decide +kernel) (by decide +kernel), mi_X13_isOwn, ms_X13_isOwn, in_X13, mc_X13_isOwn⟩, by decide +kernel, by decide⟩
theorem ok_X13_385 : okV RX13 385 RX13 M_X13_named 2 := ⟨⟨lwc_7 106 (by decide +kernel) (by decide +kernel), mi_X13_named, ms_X13_named, in_X13, mc_X13_named⟩, by decide +kernel, by decide⟩
theorem ok_X13_389 : okS RX13 389 M_X13_has2 2 := ⟨⟨lwc_7 137 (by decide +kernel) (by decide +kernel), mi_X13_has2, in_X13, mc_X13_has2⟩, by decide +kernel, by decide⟩
theorem ok_X13_393 : okV RX13 393 RX13 M_X13_counts 1 := ⟨⟨lwc_7 64 (by decide +kernel) (by decide +kernel), mi_X13_counts, ms_X13_counts, in_X13, mc_X13_counts⟩, by decide +kernel, by decide⟩
theorem ok_X13_397 : okV RX13 397 RX13 M_X13_fresh 0 := ⟨⟨lwc_7 68 (by decide +kernel) (by decide +kernel), mi_X13_fresh, ms_X13_fresh, in_X13, mc_X13_fresh⟩, by decide +kernel, by decide⟩
theorem ok_X13_401 : okV RX13 401 RX13 M_X13_must_ 1 := ⟨⟨lwc_7 118 (by decide +kernel) (by decide +kernel), mi_X13_must_, ms_X13_must_, in_X13, mc_X13_must_⟩, by decide +kernel, by decide⟩
theorem ok_X13_405 : okV RX13 405 RX13 M_X13_number 2 := ⟨⟨lwc_7 122 (by decide +kernel) (by decide +kernel), mi_X13_number, ms_X13_number, in_X13, mc_X13_number⟩, by decide +kernel, by decide⟩
theorem ok_X13_408 : okV RX13 408 RX13 M_X13_askedBut 2 := ⟨⟨lwc_7 133 (by decide +kernel) (by decide +kernel), mi_X13_askedBut, ms_X13_askedBut, in_X13, mc_X13_askedBut⟩, by decide +kernel, by decide⟩
theorem ok_X13_411 : okV RX13 411 RX13 M_X13_twins 0 := ⟨⟨lwc_7 144 (by decide +kernel) (by decide +kernel), mi_X13_twins, ms_X13_twins, in_X13, mc_X13_twins⟩, by decide +kernel, by decide⟩
theorem ok_X13_415 : okV RX13 415 RX13 M_X13_feuding 3 := ⟨⟨lwc_7 152 (by decide +kernel) (by decide +kernel), mi_X13_feuding, ms_X13_feuding, in_X13, mc_X13_feuding⟩, by decide +kernel, by decide⟩
theorem ok_X13_419 : okV RX13 419 RX13 M_X13_reads 1 := ⟨⟨lwc_7 164 (by decide +kernel) (by decide +kernel), mi_X13_reads, ms_X13_reads, in_X13, mc_X13_reads⟩, by decide +kernel, by decide⟩
theorem ok_X13_423 : okV RX13 423 RX13 M_X13_homing 0 := ⟨⟨lwc_7 60 (by decide +kernel) (by decide +kernel), mi_X13_homing, ms_X13_homing, in_X13, mc_X13_homing⟩, by decide +kernel, by decide⟩
theorem ok_X13_426 : okV RX13 426 RX13 M_X13_childing 0 := ⟨⟨lwc_7 129 (by decide +kernel) (by decide +kernel), mi_X13_childing, ms_X13_childing, in_X13, mc_X13_childing⟩, by decide +kernel, by decide⟩
theorem ok_X13_429 : okV RX13 429 RX13 M_X13_twinning 0 := ⟨⟨lwc_7 140 (by decide +kernel) (by decide +kernel), mi_X13_twinning, ms_X13_twinning, in_X13, mc_X13_twinning⟩, by decide +kernel, by decide⟩
theorem ok_X13_432 : okV RX13 432 RX13 M_X13_feuds 0 := ⟨⟨lwc_7 148 (by decide +kernel) (by decide +kernel), mi_X13_feuds, ms_X13_feuds, in_X13, mc_X13_feuds⟩, by decide +kernel, by decide⟩
theorem ok_X13_434 : okV RX13 434 RX13 M_X13_walling 0 := ⟨⟨lwc_7 156 (by decide +kernel) (by decide +kernel), mi_X13_walling, ms_X13_walling, in_X13, mc_X13_walling⟩, by decide +kernel, by decide⟩
theorem ok_X13_437 : okV RX13 437 RX13 M_X13_reading 1 := ⟨⟨lwc_7 160 (by decide +kernel) (by decide +kernel), mi_X13_reading, ms_X13_reading, in_X13, mc_X13_reading⟩, by decide +kernel, by decide⟩
theorem ok_X13_440 : okV RX13 440 RX13 M_X13_raising 0 := ⟨⟨lwc_7 206 (by decide +kernel) (by decide +kernel), mi_X13_raising, ms_X13_raising, in_X13, mc_X13_raising⟩, by decide +kernel, by decide⟩
theorem ok_X13_443 : okV RX13 443 RX13 M_X13_telling 3 := ⟨⟨lwc_7 210 (by decide +kernel) (by decide +kernel), mi_X13_telling, ms_X13_telling, in_X13, mc_X13_telling⟩, by decide +kernel, by decide⟩
theorem ok_X13_447 : okV RX13 447 RX13 M_X13_must 1 := ⟨⟨lwc_7 218 (by decide +kernel) (by decide +kernel), mi_X13_must, ms_X13_must, in_X13, mc_X13_must⟩, by decide +kernel, by decide⟩
theorem ok_X13_449 : okV RX13 449 RX13 M_X13_statement 0 := ⟨⟨lwc_7 43 (by decide +kernel) (by decide +kernel), mi_X13_statement, ms_X13_statement, in_X13, mc_X13_statement⟩, by decide +kernel, by decide⟩
theorem ok_X13_452 : okV RX13 452 RX13 M_X13_finishes 1 := ⟨⟨lwc_7 214 (by decide +kernel) (by decide +kernel), mi_X13_finishes, ms_X13_finishes, in_X13, mc_X13_finishes⟩, by decide +kernel, by decide⟩
theorem ok_X13_455 : okV RX13 455 RX13 M_X13_begin 0 := ⟨⟨lwc_7 222 (by decide +kernel) (by decide +kernel), mi_X13_begin, ms_X13_begin, in_X13, mc_X13_begin⟩, by decide +kernel, by decide⟩
theorem ok_X13_458 : okV RX13 458 RX13 M_X13_slot 1 := ⟨⟨lwc_7 238 (by decide +kernel) (by decide +kernel), mi_X13_slot, ms_X13_slot, in_X13, mc_X13_slot⟩, by decide +kernel, by decide⟩
theorem ok_X13_461 : okV RX13 461 RX13 M_X13_copies 2 := ⟨⟨lwc_8 2 (by decide +kernel) (by decide +kernel), mi_X13_copies, ms_X13_copies, in_X13, mc_X13_copies⟩, by decide +kernel, by decide⟩
theorem ok_X13_468 : okS RX13 468 M_X13_held 1 := ⟨⟨lwc_8 153 (by decide +kernel) (by decide +kernel), mi_X13_held, in_X13, mc_X13_held⟩, by decide +kernel, by decide⟩
theorem ok_X13_472 : okS RX13 472 M_X13_floor 2 := ⟨⟨lwc_8 158 (by decide +kernel) (by decide +kernel), mi_X13_floor, in_X13, mc_X13_floor⟩, by decide +kernel, by decide⟩
theorem ok_X13_476 : okS RX13 476 M_X13_two 3 := ⟨⟨lwc_8 150 (by decide +kernel) (by decide +kernel), mi_X13_two, in_X13, mc_X13_two⟩, by decide +kernel, by decide⟩
theorem ok_X13_480 : okV RX13 480 RX13 M_X13_tells 4 := ⟨⟨lwc_8 138 (by decide +kernel) (by decide +kernel), mi_X13_tells, ms_X13_tells, in_X13, mc_X13_tells⟩, by decide +kernel, by decide⟩
theorem ok_X13_484 : okV RX13 484 RX13 M_X13_isTold 1 := ⟨⟨lwc_8 142 (by decide +kernel) (by decide +kernel), mi_X13_isTold, ms_X13_isTold, in_X13, mc_X13_isTold⟩, by decide +kernel, by decide⟩
theorem ok_X13_487 : okV RX13 487 RX13 M_X13_reckons 1 := ⟨⟨lwc_8 146 (by decide +kernel) (by decide +kernel), mi_X13_reckons, ms_X13_reckons, in_X13, mc_X13_reckons⟩, by decide +kernel, by decide⟩
theorem ok_X13_495 : okV RX13 495 RX13 M_X13_born 1 := ⟨⟨lwc_8 29 (by decide +kernel) (by decide +kernel), mi_X13_born, ms_X13_born, in_X13, mc_X13_born⟩, by decide +kernel, by decide⟩
theorem ok_X13_498 : okV RX13 498 RX13 M_X13_age 2 := ⟨⟨lwc_8 25 (by decide +kernel) (by decide +kernel), mi_X13_age, ms_X13_age, in_X13, mc_X13_age⟩, by decide +kernel, by decide⟩
theorem ok_X13_501 : okV RX13 501 RX13 M_X13_toldOf 1 := ⟨⟨lwc_8 33 (by decide +kernel) (by decide +kernel), mi_X13_toldOf, ms_X13_toldOf, in_X13, mc_X13_toldOf⟩, by decide +kernel, by decide⟩
theorem ok_X13_504 : okV RX13 504 RX13 M_X13_isDone 2 := ⟨⟨lwc_8 21 (by decide +kernel) (by decide +kernel), mi_X13_isDone, ms_X13_isDone, in_X13, mc_X13_isDone⟩, by decide +kernel, by decide⟩
theorem ok_X13_507 : okV RX13 507 RX13 M_X13_inWall 2 := ⟨⟨lwc_8 37 (by decide +kernel) (by decide +kernel), mi_X13_inWall, ms_X13_inWall, in_X13, mc_X13_inWall⟩, by decide +kernel, by decide⟩
theorem ok_X13_510 : okV RX13 510 RX13 M_X13_column 2 := ⟨⟨lwc_8 86 (by decide +kernel) (by decide +kernel), mi_X13_column, ms_X13_column, in_X13, mc_X13_column⟩, by decide +kernel, by decide⟩
theorem ok_X13_513 : okV RX13 513 RX13 M_X13_course 2 := ⟨⟨lwc_8 90 (by decide +kernel) (by decide +kernel), mi_X13_course, ms_X13_course, in_X13, mc_X13_course⟩, by decide +kernel, by decide⟩
theorem ok_X13_516 : okV RX13 516 RX13 M_X13_tall 3 := ⟨⟨lwc_8 98 (by decide +kernel) (by decide +kernel), mi_X13_tall, ms_X13_tall, in_X13, mc_X13_tall⟩, by decide +kernel, by decide⟩
theorem ok_X13_519 : okV RX13 519 RX13 M_X13_twin 1 := ⟨⟨lwc_8 70 (by decide +kernel) (by decide +kernel), mi_X13_twin, ms_X13_twin, in_X13, mc_X13_twin⟩, by decide +kernel, by decide⟩
theorem ok_X13_522 : okV RX13 522 RX13 M_X13_strong 2 := ⟨⟨lwc_8 78 (by decide +kernel) (by decide +kernel), mi_X13_strong, ms_X13_strong, in_X13, mc_X13_strong⟩, by decide +kernel, by decide⟩
theorem ok_X13_525 : okV RX13 525 RX13 M_X13_bears 2 := ⟨⟨lwc_8 102 (by decide +kernel) (by decide +kernel), mi_X13_bears, ms_X13_bears, in_X13, mc_X13_bears⟩, by decide +kernel, by decide⟩
theorem ok_X13_528 : okV RX13 528 RX13 M_X13_load 2 := ⟨⟨lwc_8 94 (by decide +kernel) (by decide +kernel), mi_X13_load, ms_X13_load, in_X13, mc_X13_load⟩, by decide +kernel, by decide⟩
theorem ok_X13_531 : okV RX13 531 RX13 M_X13_holds 2 := ⟨⟨lwc_8 175 (by decide +kernel) (by decide +kernel), mi_X13_holds, ms_X13_holds, in_X13, mc_X13_holds⟩, by decide +kernel, by decide⟩
theorem ok_X13_534 : okV RX13 534 RX13 M_X13_lies 4 := ⟨⟨lwc_8 118 (by decide +kernel) (by decide +kernel), mi_X13_lies, ms_X13_lies, in_X13, mc_X13_lies⟩, by decide +kernel, by decide⟩
theorem ok_X13_538 : okV RX13 538 RX13 M_X13_writesDown 4 := ⟨⟨lwc_8 183 (by decide +kernel) (by decide +kernel), mi_X13_writesDown, ms_X13_writesDown, in_X13, mc_X13_writesDown⟩, by decide +kernel, by decide⟩
theorem ok_X13_541 : okV RX13 541 RX13 M_X13_loose 1 := ⟨⟨lwc_8 171 (by decide +kernel) (by decide +kernel), mi_X13_loose, ms_X13_loose, in_X13, mc_X13_loose⟩, by decide +kernel, by decide⟩
theorem ok_X13_544 : okV RX13 544 RX13 M_X13_takesDown 2 := ⟨⟨lwc_8 179 (by decide +kernel) (by decide +kernel), mi_X13_takesDown, ms_X13_takesDown, in_X13, mc_X13_takesDown⟩, by decide +kernel, by decide⟩
theorem ok_X13_547 : okV RX13 547 RX13 M_X13_isFeud 3 := ⟨⟨lwc_8 195 (by decide +kernel) (by decide +kernel), mi_X13_isFeud, ms_X13_isFeud, in_X13, mc_X13_isFeud⟩, by decide +kernel, by decide⟩
theorem ok_X13_550 : okV RX13 550 RX13 M_X13_allHold 2 := ⟨⟨lwc_8 199 (by decide +kernel) (by decide +kernel), mi_X13_allHold, ms_X13_allHold, in_X13, mc_X13_allHold⟩, by decide +kernel, by decide⟩
theorem ok_X13_553 : okV RX13 553 RX13 M_X13_goesInto 3 := ⟨⟨lwc_8 191 (by decide +kernel) (by decide +kernel), mi_X13_goesInto, ms_X13_goesInto, in_X13, mc_X13_goesInto⟩, by decide +kernel, by decide⟩
theorem ok_X13_556 : okV RX13 556 RX13 M_X13_isRaised 2 := ⟨⟨lwc_8 82 (by decide +kernel) (by decide +kernel), mi_X13_isRaised, ms_X13_isRaised, in_X13, mc_X13_isRaised⟩, by decide +kernel, by decide⟩
theorem ok_X13_559 : okV RX13 559 RX13 M_X13_raised 4 := ⟨⟨lwc_8 134 (by decide +kernel) (by decide +kernel), mi_X13_raised, ms_X13_raised, in_X13, mc_X13_raised⟩, by decide +kernel, by decide⟩
theorem ok_X13_562 : okV RX13 562 RX13 M_X13_freezes 1 := ⟨⟨lwc_8 163 (by decide +kernel) (by decide +kernel), mi_X13_freezes, ms_X13_freezes, in_X13, mc_X13_freezes⟩, by decide +kernel, by decide⟩
theorem ok_X13_565 : okV RX13 565 RX13 M_X13_falls 1 := ⟨⟨lwc_8 167 (by decide +kernel) (by decide +kernel), mi_X13_falls, ms_X13_falls, in_X13, mc_X13_falls⟩, by decide +kernel, by decide⟩
theorem ok_X13_568 : okS RX13 568 M_X13_bits 1 := ⟨⟨lwc_8 10 (by decide +kernel) (by decide +kernel), mi_X13_bits, in_X13, mc_X13_bits⟩, by decide +kernel, by decide⟩
theorem ok_X13_571 : okV RX13 571 RX13 M_X13_isOnShelf 2 := ⟨⟨lwc_8 17 (by decide +kernel) (by decide +kernel), mi_X13_isOnShelf, ms_X13_isOnShelf, in_X13, mc_X13_isOnShelf⟩, by decide +kernel, by decide⟩
theorem ok_X13_574 : okV RX13 574 RX13 M_X13_isBuilt 2 := ⟨⟨lwc_8 187 (by decide +kernel) (by decide +kernel), mi_X13_isBuilt, ms_X13_isBuilt, in_X13, mc_X13_isBuilt⟩, by decide +kernel, by decide⟩
theorem ok_X13_577 : okV RX13 577 RX13 M_X13_onShelf 1 := ⟨⟨lwc_8 13 (by decide +kernel) (by decide +kernel), mi_X13_onShelf, ms_X13_onShelf, in_X13, mc_X13_onShelf⟩, by decide +kernel, by decide⟩
theorem ok_X13_580 : okV RX13 580 RX13 M_X13_builtIn 1 := ⟨⟨lwc_8 41 (by decide +kernel) (by decide +kernel), mi_X13_builtIn, ms_X13_builtIn, in_X13, mc_X13_builtIn⟩, by decide +kernel, by decide⟩
theorem ok_X13_583 : okV RX13 583 RX13 M_X13_stonesIn 1 := ⟨⟨lwc_8 45 (by decide +kernel) (by decide +kernel), mi_X13_stonesIn, ms_X13_stonesIn, in_X13, mc_X13_stonesIn⟩, by decide +kernel, by decide⟩
theorem ok_X13_588 : okV RX13 588 RX13 M_X13_isHome 1 := ⟨⟨lwc_8 58 (by decide +kernel) (by decide +kernel), mi_X13_isHome, ms_X13_isHome, in_X13, mc_X13_isHome⟩, by decide +kernel, by decide⟩
theorem ok_X13_591 : okV RX13 591 RX13 M_X13_isChild 1 := ⟨⟨lwc_8 66 (by decide +kernel) (by decide +kernel), mi_X13_isChild, ms_X13_isChild, in_X13, mc_X13_isChild⟩, by decide +kernel, by decide⟩
theorem ok_X13_594 : okV RX13 594 RX13 M_X13_isWall 1 := ⟨⟨lwc_8 110 (by decide +kernel) (by decide +kernel), mi_X13_isWall, ms_X13_isWall, in_X13, mc_X13_isWall⟩, by decide +kernel, by decide⟩
theorem ok_X13_597 : okV RX13 597 RX13 M_X13_isAhead 3 := ⟨⟨lwc_8 126 (by decide +kernel) (by decide +kernel), mi_X13_isAhead, ms_X13_isAhead, in_X13, mc_X13_isAhead⟩, by decide +kernel, by decide⟩
theorem ok_X13_600 : okV RX13 600 RX13 M_X13_passes 2 := ⟨⟨lwc_8 130 (by decide +kernel) (by decide +kernel), mi_X13_passes, ms_X13_passes, in_X13, mc_X13_passes⟩, by decide +kernel, by decide⟩
theorem ok_X13_604 : okV RX13 604 RX13 M_X13_areHeld 2 := ⟨⟨lwc_8 215 (by decide +kernel) (by decide +kernel), mi_X13_areHeld, ms_X13_areHeld, in_X13, mc_X13_areHeld⟩, by decide +kernel, by decide⟩
theorem ok_X13_607 : okV RX13 607 RX13 M_X13_isRow 2 := ⟨⟨lwc_8 227 (by decide +kernel) (by decide +kernel), mi_X13_isRow, ms_X13_isRow, in_X13, mc_X13_isRow⟩, by decide +kernel, by decide⟩
theorem ok_X13_610 : okV RX13 610 RX13 M_X13_strongBy 2 := ⟨⟨lwc_9 15 (by decide +kernel) (by decide +kernel), mi_X13_strongBy, ms_X13_strongBy, in_X13, mc_X13_strongBy⟩, by decide +kernel, by decide⟩
theorem ok_X13_613 : okV RX13 613 RX13 M_X13_isHomeBy 1 := ⟨⟨lwc_9 11 (by decide +kernel) (by decide +kernel), mi_X13_isHomeBy, ms_X13_isHomeBy, in_X13, mc_X13_isHomeBy⟩, by decide +kernel, by decide⟩
theorem ok_X13_616 : okV RX13 616 RX13 M_X13_raises 0 := ⟨⟨lwc_8 239 (by decide +kernel) (by decide +kernel), mi_X13_raises, ms_X13_raises, in_X13, mc_X13_raises⟩, by decide +kernel, by decide⟩
theorem ok_X13_619 : okV RX13 619 RX13 M_X13_twoBytes 1 := ⟨⟨lwc_9 3 (by decide +kernel) (by decide +kernel), mi_X13_twoBytes, ms_X13_twoBytes, in_X13, mc_X13_twoBytes⟩, by decide +kernel, by decide⟩
theorem ok_X13_622 : okV RX13 622 RX13 M_X13_homesBy 0 := ⟨⟨lwc_9 7 (by decide +kernel) (by decide +kernel), mi_X13_homesBy, ms_X13_homesBy, in_X13, mc_X13_homesBy⟩, by decide +kernel, by decide⟩
theorem ok_X13_626 : okV RX13 626 RX13 M_X13_areLeftHolding 1 := ⟨⟨lwc_9 28 (by decide +kernel) (by decide +kernel), mi_X13_areLeftHolding, ms_X13_areLeftHolding, in_X13, mc_X13_areLeftHolding⟩, by decide +kernel, by decide⟩
theorem ok_X13_629 : okV RX13 629 RX13 M_X13_keeps 0 := ⟨⟨lwc_9 36 (by decide +kernel) (by decide +kernel), mi_X13_keeps, ms_X13_keeps, in_X13, mc_X13_keeps⟩, by decide +kernel, by decide⟩
theorem ok_X13_640 : okV RX13 640 RX13 M_X13_draw 1 := ⟨⟨lwc_9 44 (by decide +kernel) (by decide +kernel), mi_X13_draw, ms_X13_draw, in_X13, mc_X13_draw⟩, by decide +kernel, by decide⟩
theorem ok_X13_643 : okV RX13 643 RX13 M_X13_writes 1 := ⟨⟨lwc_9 80 (by decide +kernel) (by decide +kernel), mi_X13_writes, ms_X13_writes, in_X13, mc_X13_writes⟩, by decide +kernel, by decide⟩
theorem ok_X13_646 : okV RX13 646 RX13 M_X13_writesTwo 1 := ⟨⟨lwc_9 76 (by decide +kernel) (by decide +kernel), mi_X13_writesTwo, ms_X13_writesTwo, in_X13, mc_X13_writesTwo⟩, by decide +kernel, by decide⟩
theorem ok_X13_649 : okV RX13 649 RX13 M_X13_childOn 2 := ⟨⟨lwc_9 96 (by decide +kernel) (by decide +kernel), mi_X13_childOn, ms_X13_childOn, in_X13, mc_X13_childOn⟩, by decide +kernel, by decide⟩
theorem ok_X13_652 : okV RX13 652 RX13 M_X13_areLaid 0 := ⟨⟨lwc_9 100 (by decide +kernel) (by decide +kernel), mi_X13_areLaid, ms_X13_areLaid, in_X13, mc_X13_areLaid⟩, by decide +kernel, by decide⟩
theorem ok_X13_655 : okV RX13 655 RX13 M_X13_comesOn 1 := ⟨⟨lwc_9 92 (by decide +kernel) (by decide +kernel), mi_X13_comesOn, ms_X13_comesOn, in_X13, mc_X13_comesOn⟩, by decide +kernel, by decide⟩
theorem ok_X2_22 : okS RX2 22 M_X2_partsOf 1 := ⟨⟨lwc_4 163 (by decide +kernel) (by decide +kernel), mi_X2_partsOf, in_X2, mc_X2_partsOf⟩, by decide +kernel, by decide⟩
theorem ok_X2_26 : okS RX2 26 M_X2_pair 3 := ⟨⟨lwc_4 166 (by decide +kernel) (by decide +kernel), mi_X2_pair, in_X2, mc_X2_pair⟩, by decide +kernel, by decide⟩
theorem lm_X2_34 : Cond.methodLink RX2 34 Lib.MathLoose.min_long.x ∈ lwG ∧ Cond.static Lib.MathLoose.min_long.x ∈ lwG ∧ Cond.initialized "java/lang/Math" ∈ lwG ∧ Cond.code Lib.MathLoose.min_long.x Lib.MathLoose.min_long.code 4 (some .long) ∈ lwG := ⟨lwc_4 175 (by decide +kernel) (by decide +kernel), lwc_4 176 (by decide +kernel) (by decide +kernel), lwc_1 19 (by decide +kernel) (by decide +kernel), lwc_4 177 (by decide +kernel) (by decide +kernel)⟩
theorem lm_X2_40 : Cond.methodLink RX2 40 Lib.MathLoose.max_long.x ∈ lwG ∧ Cond.static Lib.MathLoose.max_long.x ∈ lwG ∧ Cond.initialized "java/lang/Math" ∈ lwG ∧ Cond.code Lib.MathLoose.max_long.x Lib.MathLoose.max_long.code 4 (some .long) ∈ lwG := ⟨lwc_4 178 (by decide +kernel) (by decide +kernel), lwc_4 179 (by decide +kernel) (by decide +kernel), lwc_1 19 (by decide +kernel) (by decide +kernel), lwc_4 180 (by decide +kernel) (by decide +kernel)⟩
theorem ok_X2_43 : okS RX2 43 M_J9_floorDiv_f86c9 2 := ⟨⟨lwc_4 169 (by decide +kernel) (by decide +kernel), mi_J9_floorDiv_f86c9, in_J9, mc_J9_floorDiv_f86c9⟩, by decide +kernel, by decide⟩
theorem ok_X2_46 : okS RX2 46 M_J9_floorMod_f86c9 2 := ⟨⟨lwc_4 172 (by decide +kernel) (by decide +kernel), mi_J9_floorMod_f86c9, in_J9, mc_J9_floorMod_f86c9⟩, by decide +kernel, by decide⟩
theorem ok_X3_24 : okV RX3 24 RX3 M_X3_addPair 1 := ⟨⟨lwc_5 203 (by decide +kernel) (by decide +kernel), mi_X3_addPair, ms_X3_addPair, in_X3, mc_X3_addPair⟩, by decide +kernel, by decide⟩
theorem ok_X3_32 : okV RX3 32 RX9 M_X9_childCount 0 := ⟨⟨lwc_5 211 (by decide +kernel) (by decide +kernel), mi_X9_childCount, ms_X9_childCount, in_X9, mc_X9_childCount⟩, by decide +kernel, by decide⟩
theorem ok_X3_44 : okV RX3 44 RX3 M_X3_add 1 := ⟨⟨lwc_5 207 (by decide +kernel) (by decide +kernel), mi_X3_add, ms_X3_add, in_X3, mc_X3_add⟩, by decide +kernel, by decide⟩
theorem ok_X3_50 : okS RX3 50 M_X11_wallAt 1 := ⟨⟨lwc_5 212 (by decide +kernel) (by decide +kernel), mi_X11_wallAt, in_X11, mc_X11_wallAt⟩, by decide +kernel, by decide⟩
theorem ok_X3_60 : okS RX3 60 M_X3_sumWith 2 := ⟨⟨lwc_5 213 (by decide +kernel) (by decide +kernel), mi_X3_sumWith, in_X3, mc_X3_sumWith⟩, by decide +kernel, by decide⟩
theorem ok_X3_67 : okS RX3 67 M_X3_sumFits 1 := ⟨⟨lwc_5 227 (by decide +kernel) (by decide +kernel), mi_X3_sumFits, in_X3, mc_X3_sumFits⟩, by decide +kernel, by decide⟩
theorem ok_X3_71 : okV RX3 71 RX11 M_X11_begin 1 := ⟨⟨lwc_5 231 (by decide +kernel) (by decide +kernel), mi_X11_begin, ms_X11_begin, in_X11, mc_X11_begin⟩, by decide +kernel, by decide⟩
theorem ok_X3_75 : okV RX3 75 RX8 M_X8_pairAt 1 := ⟨⟨lwc_5 232 (by decide +kernel) (by decide +kernel), mi_X8_pairAt, ms_X8_pairAt, in_X8, mc_X8_pairAt⟩, by decide +kernel, by decide⟩
theorem ok_X3_78 : okS RX3 78 M_X3_readStone 3 := ⟨⟨lwc_5 233 (by decide +kernel) (by decide +kernel), mi_X3_readStone, in_X3, mc_X3_readStone⟩, by decide +kernel, by decide⟩
theorem ok_X3_82 : okV RX3 82 RX8 M_X8_byteAt 1 := ⟨⟨lwc_5 230 (by decide +kernel) (by decide +kernel), mi_X8_byteAt, ms_X8_byteAt, in_X8, mc_X8_byteAt⟩, by decide +kernel, by decide⟩
theorem ok_X3_85 : okS RX3 85 M_X3_allRest 1 := ⟨⟨lwc_6 1 (by decide +kernel) (by decide +kernel), mi_X3_allRest, in_X3, mc_X3_allRest⟩, by decide +kernel, by decide⟩
theorem ok_X3_89 : okV RX3 89 RX9 M_X9_homeCount 0 := ⟨⟨lwc_5 236 (by decide +kernel) (by decide +kernel), mi_X9_homeCount, ms_X9_homeCount, in_X9, mc_X9_homeCount⟩, by decide +kernel, by decide⟩
theorem ok_X3_92 : okV RX3 92 RX9 M_X9_wallCount 0 := ⟨⟨lwc_5 237 (by decide +kernel) (by decide +kernel), mi_X9_wallCount, ms_X9_wallCount, in_X9, mc_X9_wallCount⟩, by decide +kernel, by decide⟩
theorem ok_X3_95 : okV RX3 95 RX11 M_X11_isDone 1 := ⟨⟨lwc_5 238 (by decide +kernel) (by decide +kernel), mi_X11_isDone, ms_X11_isDone, in_X11, mc_X11_isDone⟩, by decide +kernel, by decide⟩
theorem ok_X3_105 : okS RX3 105 M_X11_spot 3 := ⟨⟨lwc_5 239 (by decide +kernel) (by decide +kernel), mi_X11_spot, in_X11, mc_X11_spot⟩, by decide +kernel, by decide⟩
theorem ok_X3_112 : okV RX3 112 RX11 M_X11_put 2 := ⟨⟨lwc_6 0 (by decide +kernel) (by decide +kernel), mi_X11_put, ms_X11_put, in_X11, mc_X11_put⟩, by decide +kernel, by decide⟩
theorem ok_X4_33 : okV RX4 33 RX9 M_X9_clear 0 := ⟨⟨lwc_2 239 (by decide +kernel) (by decide +kernel), mi_X9_clear, ms_X9_clear, in_X9, mc_X9_clear⟩, by decide +kernel, by decide⟩
theorem ok_X4_36 : okV RX4 36 RX6 M_X6_open 0 := ⟨⟨lwc_3 0 (by decide +kernel) (by decide +kernel), mi_X6_open, ms_X6_open, in_X6, mc_X6_open⟩, by decide +kernel, by decide⟩
theorem ok_X4_39 : okV RX4 39 RX6 M_X6_isGood 0 := ⟨⟨lwc_3 8 (by decide +kernel) (by decide +kernel), mi_X6_isGood, ms_X6_isGood, in_X6, mc_X6_isGood⟩, by decide +kernel, by decide⟩
theorem ok_X4_43 : okV RX4 43 RX6 M_X6_goesOn 0 := ⟨⟨lwc_3 12 (by decide +kernel) (by decide +kernel), mi_X6_goesOn, ms_X6_goesOn, in_X6, mc_X6_goesOn⟩, by decide +kernel, by decide⟩
theorem ok_X4_50 : okV RX4 50 RX6 M_X6_fail 2 := ⟨⟨lwc_3 27 (by decide +kernel) (by decide +kernel), mi_X6_fail, ms_X6_fail, in_X6, mc_X6_fail⟩, by decide +kernel, by decide⟩
theorem ok_X4_54 : okV RX4 54 RX6 M_X6_advance 0 := ⟨⟨lwc_3 31 (by decide +kernel) (by decide +kernel), mi_X6_advance, ms_X6_advance, in_X6, mc_X6_advance⟩, by decide +kernel, by decide⟩
theorem ok_X4_73 : okV RX4 73 RX4 M_X4_homeLine 0 := ⟨⟨lwc_3 69 (by decide +kernel) (by decide +kernel), mi_X4_homeLine, ms_X4_homeLine, in_X4, mc_X4_homeLine⟩, by decide +kernel, by decide⟩
theorem ok_X4_76 : okV RX4 76 RX4 M_X4_childLine 0 := ⟨⟨lwc_3 114 (by decide +kernel) (by decide +kernel), mi_X4_childLine, ms_X4_childLine, in_X4, mc_X4_childLine⟩, by decide +kernel, by decide⟩
theorem ok_X4_79 : okV RX4 79 RX4 M_X4_twinsLine 0 := ⟨⟨lwc_3 131 (by decide +kernel) (by decide +kernel), mi_X4_twinsLine, ms_X4_twinsLine, in_X4, mc_X4_twinsLine⟩, by decide +kernel, by decide⟩
theorem ok_X4_82 : okV RX4 82 RX4 M_X4_feudLine 0 := ⟨⟨lwc_3 140 (by decide +kernel) (by decide +kernel), mi_X4_feudLine, ms_X4_feudLine, in_X4, mc_X4_feudLine⟩, by decide +kernel, by decide⟩
theorem ok_X4_85 : okV RX4 85 RX4 M_X4_wallLine 0 := ⟨⟨lwc_3 148 (by decide +kernel) (by decide +kernel), mi_X4_wallLine, ms_X4_wallLine, in_X4, mc_X4_wallLine⟩, by decide +kernel, by decide⟩
theorem ok_X4_88 : okV RX4 88 RX4 M_X4_formulaLine 2 := ⟨⟨lwc_3 160 (by decide +kernel) (by decide +kernel), mi_X4_formulaLine, ms_X4_formulaLine, in_X4, mc_X4_formulaLine⟩, by decide +kernel, by decide⟩
theorem ok_X4_95 : okV RX4 95 RX4 M_X4_raisedLine 0 := ⟨⟨lwc_3 232 (by decide +kernel) (by decide +kernel), mi_X4_raisedLine, ms_X4_raisedLine, in_X4, mc_X4_raisedLine⟩, by decide +kernel, by decide⟩
theorem ok_X4_98 : okV RX4 98 RX4 M_X4_setting 1 := ⟨⟨lwc_3 238 (by decide +kernel) (by decide +kernel), mi_X4_setting, ms_X4_setting, in_X4, mc_X4_setting⟩, by decide +kernel, by decide⟩
theorem ok_X4_111 : okV RX4 111 RX6 M_X6_failHere 1 := ⟨⟨lwc_3 81 (by decide +kernel) (by decide +kernel), mi_X6_failHere, ms_X6_failHere, in_X6, mc_X6_failHere⟩, by decide +kernel, by decide⟩
theorem ok_X4_115 : okV RX4 115 RX6 M_X6_isSign 1 := ⟨⟨lwc_3 186 (by decide +kernel) (by decide +kernel), mi_X6_isSign, ms_X6_isSign, in_X6, mc_X6_isSign⟩, by decide +kernel, by decide⟩
theorem ok_X4_119 : okV RX4 119 RX9 M_X9_homeCount 0 := ⟨⟨lwc_3 73 (by decide +kernel) (by decide +kernel), mi_X9_homeCount, ms_X9_homeCount, in_X9, mc_X9_homeCount⟩, by decide +kernel, by decide⟩
theorem ok_X4_122 : okV RX4 122 RX4 M_X4_limit 2 := ⟨⟨lwc_3 77 (by decide +kernel) (by decide +kernel), mi_X4_limit, ms_X4_limit, in_X4, mc_X4_limit⟩, by decide +kernel, by decide⟩
theorem ok_X4_125 : okV RX4 125 RX4 M_X4_newName 0 := ⟨⟨lwc_3 82 (by decide +kernel) (by decide +kernel), mi_X4_newName, ms_X4_newName, in_X4, mc_X4_newName⟩, by decide +kernel, by decide⟩
theorem ok_X4_131 : okV RX4 131 RX4 M_X4_own 1 := ⟨⟨lwc_3 100 (by decide +kernel) (by decide +kernel), mi_X4_own, ms_X4_own, in_X4, mc_X4_own⟩, by decide +kernel, by decide⟩
theorem ok_X4_135 : okV RX4 135 RX4 M_X4_number 2 := ⟨⟨lwc_3 104 (by decide +kernel) (by decide +kernel), mi_X4_number, ms_X4_number, in_X4, mc_X4_number⟩, by decide +kernel, by decide⟩
theorem ok_X4_148 : okV RX4 148 RX9 M_X9_addName 2 := ⟨⟨lwc_3 110 (by decide +kernel) (by decide +kernel), mi_X9_addName, ms_X9_addName, in_X9, mc_X9_addName⟩, by decide +kernel, by decide⟩
theorem ok_X4_151 : okV RX4 151 RX9 M_X9_childCount 0 := ⟨⟨lwc_3 118 (by decide +kernel) (by decide +kernel), mi_X9_childCount, ms_X9_childCount, in_X9, mc_X9_childCount⟩, by decide +kernel, by decide⟩
theorem ok_X4_157 : okV RX4 157 RX4 M_X4_known 2 := ⟨⟨lwc_3 124 (by decide +kernel) (by decide +kernel), mi_X4_known, ms_X4_known, in_X4, mc_X4_known⟩, by decide +kernel, by decide⟩
theorem ok_X4_169 : okV RX4 169 RX9 M_X9_twins 0 := ⟨⟨lwc_3 135 (by decide +kernel) (by decide +kernel), mi_X9_twins, ms_X9_twins, in_X9, mc_X9_twins⟩, by decide +kernel, by decide⟩
theorem ok_X4_178 : okV RX4 178 RX9 M_X9_foes 2 := ⟨⟨lwc_3 144 (by decide +kernel) (by decide +kernel), mi_X9_foes, ms_X9_foes, in_X9, mc_X9_foes⟩, by decide +kernel, by decide⟩
theorem ok_X4_184 : okV RX4 184 RX9 M_X9_wallCount 0 := ⟨⟨lwc_3 152 (by decide +kernel) (by decide +kernel), mi_X9_wallCount, ms_X9_wallCount, in_X9, mc_X9_wallCount⟩, by decide +kernel, by decide⟩
theorem ok_X4_219 : okV RX4 219 RX4 M_X4_testPart 0 := ⟨⟨lwc_3 164 (by decide +kernel) (by decide +kernel), mi_X4_testPart, ms_X4_testPart, in_X4, mc_X4_testPart⟩, by decide +kernel, by decide⟩
theorem ok_X4_222 : okV RX4 222 RX4 M_X4_sumPart 0 := ⟨⟨lwc_3 200 (by decide +kernel) (by decide +kernel), mi_X4_sumPart, ms_X4_sumPart, in_X4, mc_X4_sumPart⟩, by decide +kernel, by decide⟩
theorem ok_X4_231 : okV RX4 231 RX6 M_X6_isName 0 := ⟨⟨lwc_3 86 (by decide +kernel) (by decide +kernel), mi_X6_isName, ms_X6_isName, in_X6, mc_X6_isName⟩, by decide +kernel, by decide⟩
theorem ok_X4_234 : okV RX4 234 RX9 M_X9_knows 1 := ⟨⟨lwc_3 90 (by decide +kernel) (by decide +kernel), mi_X9_knows, ms_X9_knows, in_X9, mc_X9_knows⟩, by decide +kernel, by decide⟩
theorem ok_X4_237 : okV RX4 237 RX9 M_X9_find 2 := ⟨⟨lwc_3 128 (by decide +kernel) (by decide +kernel), mi_X9_find, ms_X9_find, in_X9, mc_X9_find⟩, by decide +kernel, by decide⟩
theorem ok_X4_240 : okV RX4 240 RX4 M_X4_bothPart 0 := ⟨⟨lwc_3 168 (by decide +kernel) (by decide +kernel), mi_X4_bothPart, ms_X4_bothPart, in_X4, mc_X4_bothPart⟩, by decide +kernel, by decide⟩
theorem ok_X4_246 : okV RX4 246 RX2 M_X2_add 1 := ⟨⟨lwc_3 182 (by decide +kernel) (by decide +kernel), mi_X2_add, ms_X2_add, in_X2, mc_X2_add⟩, by decide +kernel, by decide⟩
theorem ok_X4_249 : okV RX4 249 RX4 M_X4_factPart 0 := ⟨⟨lwc_3 172 (by decide +kernel) (by decide +kernel), mi_X4_factPart, ms_X4_factPart, in_X4, mc_X4_factPart⟩, by decide +kernel, by decide⟩
theorem ok_X4_258 : okV RX4 258 RX4 M_X4_goDeeper 0 := ⟨⟨lwc_3 178 (by decide +kernel) (by decide +kernel), mi_X4_goDeeper, ms_X4_goDeeper, in_X4, mc_X4_goDeeper⟩, by decide +kernel, by decide⟩
theorem ok_X4_261 : okV RX4 261 RX4 M_X4_sign 1 := ⟨⟨lwc_3 190 (by decide +kernel) (by decide +kernel), mi_X4_sign, ms_X4_sign, in_X4, mc_X4_sign⟩, by decide +kernel, by decide⟩
theorem ok_X4_267 : okV RX4 267 RX4 M_X4_comparePart 0 := ⟨⟨lwc_3 196 (by decide +kernel) (by decide +kernel), mi_X4_comparePart, ms_X4_comparePart, in_X4, mc_X4_comparePart⟩, by decide +kernel, by decide⟩
theorem ok_X4_270 : okV RX4 270 RX4 M_X4_productPart 0 := ⟨⟨lwc_3 204 (by decide +kernel) (by decide +kernel), mi_X4_productPart, ms_X4_productPart, in_X4, mc_X4_productPart⟩, by decide +kernel, by decide⟩
theorem ok_X4_273 : okV RX4 273 RX4 M_X4_singlePart 0 := ⟨⟨lwc_3 208 (by decide +kernel) (by decide +kernel), mi_X4_singlePart, ms_X4_singlePart, in_X4, mc_X4_singlePart⟩, by decide +kernel, by decide⟩
theorem ok_X4_279 : okV RX4 279 RX4 M_X4_chosenPart 1 := ⟨⟨lwc_3 214 (by decide +kernel) (by decide +kernel), mi_X4_chosenPart, ms_X4_chosenPart, in_X4, mc_X4_chosenPart⟩, by decide +kernel, by decide⟩
theorem ok_X4_291 : okV RX4 291 RX4 M_X4_factWord 1 := ⟨⟨lwc_3 222 (by decide +kernel) (by decide +kernel), mi_X4_factWord, ms_X4_factWord, in_X4, mc_X4_factWord⟩, by decide +kernel, by decide⟩
theorem ok_X5_27 : okV RX5 27 RX11 M_X11_copy 1 := ⟨⟨lwc_4 131 (by decide +kernel) (by decide +kernel), mi_X11_copy, ms_X11_copy, in_X11, mc_X11_copy⟩, by decide +kernel, by decide⟩
theorem ok_X5_35 : okV RX5 35 RX11 M_X11_passYear 1 := ⟨⟨lwc_4 135 (by decide +kernel) (by decide +kernel), mi_X11_passYear, ms_X11_passYear, in_X11, mc_X11_passYear⟩, by decide +kernel, by decide⟩
theorem ok_X5_39 : okV RX5 39 RX11 M_X11_bitsAt 1 := ⟨⟨lwc_5 8 (by decide +kernel) (by decide +kernel), mi_X11_bitsAt, ms_X11_bitsAt, in_X11, mc_X11_bitsAt⟩, by decide +kernel, by decide⟩
theorem ok_X5_43 : okS RX5 43 M_J6_bitCount_0f7a4 1 := ⟨⟨lwc_5 9 (by decide +kernel) (by decide +kernel), mi_J6_bitCount_0f7a4, in_J6, mc_J6_bitCount_0f7a4⟩, by decide +kernel, by decide⟩
theorem ok_X5_54 : okV RX5 54 RX11 M_X11_pullOut 1 := ⟨⟨lwc_5 30 (by decide +kernel) (by decide +kernel), mi_X11_pullOut, ms_X11_pullOut, in_X11, mc_X11_pullOut⟩, by decide +kernel, by decide⟩
theorem ok_X5_62 : okV RX5 62 RX9 M_X9_childCount 0 := ⟨⟨lwc_5 42 (by decide +kernel) (by decide +kernel), mi_X9_childCount, ms_X9_childCount, in_X9, mc_X9_childCount⟩, by decide +kernel, by decide⟩
theorem ok_X5_68 : okS RX5 68 M_X11_wallAt 1 := ⟨⟨lwc_5 43 (by decide +kernel) (by decide +kernel), mi_X11_wallAt, in_X11, mc_X11_wallAt⟩, by decide +kernel, by decide⟩
theorem ok_X5_71 : okS RX5 71 M_X5_holdsPropped 3 := ⟨⟨lwc_5 44 (by decide +kernel) (by decide +kernel), mi_X5_holdsPropped, in_X5, mc_X5_holdsPropped⟩, by decide +kernel, by decide⟩
theorem ok_X5_84 : okS RX5 84 M_X11_spot 3 := ⟨⟨lwc_5 47 (by decide +kernel) (by decide +kernel), mi_X11_spot, in_X11, mc_X11_spot⟩, by decide +kernel, by decide⟩
theorem ok_X5_91 : okV RX5 91 RX11 M_X11_bears 2 := ⟨⟨lwc_5 48 (by decide +kernel) (by decide +kernel), mi_X11_bears, ms_X11_bears, in_X11, mc_X11_bears⟩, by decide +kernel, by decide⟩
theorem ok_X5_98 : okV RX5 98 RX9 M_X9_homeCount 0 := ⟨⟨lwc_5 58 (by decide +kernel) (by decide +kernel), mi_X9_homeCount, ms_X9_homeCount, in_X9, mc_X9_homeCount⟩, by decide +kernel, by decide⟩
theorem ok_X5_101 : okV RX5 101 RX11 M_X11_strongWhenDone 2 := ⟨⟨lwc_5 59 (by decide +kernel) (by decide +kernel), mi_X11_strongWhenDone, ms_X11_strongWhenDone, in_X11, mc_X11_strongWhenDone⟩, by decide +kernel, by decide⟩
theorem ok_X5_110 : okV RX5 110 RX5 M_X5_orderFrom 3 := ⟨⟨lwc_5 72 (by decide +kernel) (by decide +kernel), mi_X5_orderFrom, ms_X5_orderFrom, in_X5, mc_X5_orderFrom⟩, by decide +kernel, by decide⟩
theorem lm_X5_114 : Cond.methodLink RX5 114 Lib.Math.max.name ∈ lwG ∧ Cond.static Lib.Math.max.name ∈ lwG ∧ Cond.initialized "java/lang/Math" ∈ lwG ∧ Cond.code Lib.Math.max.name Lib.Math.max.code 2 (some .int) ∈ lwG := ⟨lwc_5 79 (by decide +kernel) (by decide +kernel), lwc_4 105 (by decide +kernel) (by decide +kernel), lwc_1 19 (by decide +kernel) (by decide +kernel), lwc_4 106 (by decide +kernel) (by decide +kernel)⟩
theorem lm_X5_119 : Cond.methodLink RX5 119 arraycopyName ∈ lwG ∧ Cond.native arraycopyName ∈ lwG ∧ Cond.static arraycopyName ∈ lwG ∧ Cond.initialized "java/lang/System" ∈ lwG := ⟨lwc_5 76 (by decide +kernel) (by decide +kernel), lwc_2 17 (by decide +kernel) (by decide +kernel), lwc_2 16 (by decide +kernel) (by decide +kernel), lwc_1 11 (by decide +kernel) (by decide +kernel)⟩
theorem ok_X5_125 : okV RX5 125 RX11 M_X11_buildIn 1 := ⟨⟨lwc_5 77 (by decide +kernel) (by decide +kernel), mi_X11_buildIn, ms_X11_buildIn, in_X11, mc_X11_buildIn⟩, by decide +kernel, by decide⟩
theorem ok_X5_129 : okV RX5 129 RX11 M_X11_lift 1 := ⟨⟨lwc_5 78 (by decide +kernel) (by decide +kernel), mi_X11_lift, ms_X11_lift, in_X11, mc_X11_lift⟩, by decide +kernel, by decide⟩
theorem ok_X5_132 : okV RX5 132 RX5 M_X5_winsFrom 2 := ⟨⟨lwc_5 132 (by decide +kernel) (by decide +kernel), mi_X5_winsFrom, ms_X5_winsFrom, in_X5, mc_X5_winsFrom⟩, by decide +kernel, by decide⟩
theorem ok_X5_136 : okV RX5 136 RX11 M_X11_weakSpot 1 := ⟨⟨lwc_5 136 (by decide +kernel) (by decide +kernel), mi_X11_weakSpot, ms_X11_weakSpot, in_X11, mc_X11_weakSpot⟩, by decide +kernel, by decide⟩
theorem ok_X5_139 : okV RX5 139 RX11 M_X11_put 2 := ⟨⟨lwc_5 137 (by decide +kernel) (by decide +kernel), mi_X11_put, ms_X11_put, in_X11, mc_X11_put⟩, by decide +kernel, by decide⟩
theorem ok_X6_40 : okV RX6 40 RX6 M_X6_fail 2 := ⟨⟨lwc_3 50 (by decide +kernel) (by decide +kernel), mi_X6_fail, ms_X6_fail, in_X6, mc_X6_fail⟩, by decide +kernel, by decide⟩
theorem ok_X6_52 : okV RX6 52 RX8 M_X8_byteAt 1 := ⟨⟨lwc_3 16 (by decide +kernel) (by decide +kernel), mi_X8_byteAt, ms_X8_byteAt, in_X8, mc_X8_byteAt⟩, by decide +kernel, by decide⟩
theorem ok_X6_56 : okS RX6 56 M_X6_isBlank 1 := ⟨⟨lwc_3 20 (by decide +kernel) (by decide +kernel), mi_X6_isBlank, in_X6, mc_X6_isBlank⟩, by decide +kernel, by decide⟩
theorem ok_X6_60 : okV RX6 60 RX6 M_X6_goesOn 0 := ⟨⟨lwc_3 35 (by decide +kernel) (by decide +kernel), mi_X6_goesOn, ms_X6_goesOn, in_X6, mc_X6_goesOn⟩, by decide +kernel, by decide⟩
theorem ok_X6_64 : okV RX6 64 RX6 M_X6_joins 1 := ⟨⟨lwc_3 36 (by decide +kernel) (by decide +kernel), mi_X6_joins, ms_X6_joins, in_X6, mc_X6_joins⟩, by decide +kernel, by decide⟩
theorem ok_X6_67 : okV RX6 67 RX6 M_X6_failHere 1 := ⟨⟨lwc_3 46 (by decide +kernel) (by decide +kernel), mi_X6_failHere, ms_X6_failHere, in_X6, mc_X6_failHere⟩, by decide +kernel, by decide⟩
theorem ok_X6_71 : okS RX6 71 M_X6_isLetter 1 := ⟨⟨lwc_3 40 (by decide +kernel) (by decide +kernel), mi_X6_isLetter, in_X6, mc_X6_isLetter⟩, by decide +kernel, by decide⟩
theorem ok_X6_74 : okV RX6 74 RX6 M_X6_readWord 0 := ⟨⟨lwc_3 51 (by decide +kernel) (by decide +kernel), mi_X6_readWord, ms_X6_readWord, in_X6, mc_X6_readWord⟩, by decide +kernel, by decide⟩
theorem ok_X6_77 : okS RX6 77 M_X6_isDigit 1 := ⟨⟨lwc_3 43 (by decide +kernel) (by decide +kernel), mi_X6_isDigit, in_X6, mc_X6_isDigit⟩, by decide +kernel, by decide⟩
theorem ok_X6_80 : okV RX6 80 RX6 M_X6_readNumber 0 := ⟨⟨lwc_3 57 (by decide +kernel) (by decide +kernel), mi_X6_readNumber, ms_X6_readNumber, in_X6, mc_X6_readNumber⟩, by decide +kernel, by decide⟩
theorem ok_X7_15 : okV RX7 15 RX9 M_X9_homeCount 0 := ⟨⟨lwc_4 15 (by decide +kernel) (by decide +kernel), mi_X9_homeCount, ms_X9_homeCount, in_X9, mc_X9_homeCount⟩, by decide +kernel, by decide⟩
theorem ok_X7_33 : okV RX7 33 RX8 M_X8_byteAt 1 := ⟨⟨lwc_5 92 (by decide +kernel) (by decide +kernel), mi_X8_byteAt, ms_X8_byteAt, in_X8, mc_X8_byteAt⟩, by decide +kernel, by decide⟩
theorem ok_X7_37 : okV RX7 37 RX9 M_X9_span 0 := ⟨⟨lwc_5 93 (by decide +kernel) (by decide +kernel), mi_X9_span, ms_X9_span, in_X9, mc_X9_span⟩, by decide +kernel, by decide⟩
theorem ok_X7_40 : okV RX7 40 RX7 M_X7_canBe 3 := ⟨⟨lwc_5 97 (by decide +kernel) (by decide +kernel), mi_X7_canBe, ms_X7_canBe, in_X7, mc_X7_canBe⟩, by decide +kernel, by decide⟩
theorem ok_X7_44 : okV RX7 44 RX7 M_X7_raise 3 := ⟨⟨lwc_5 101 (by decide +kernel) (by decide +kernel), mi_X7_raise, ms_X7_raise, in_X7, mc_X7_raise⟩, by decide +kernel, by decide⟩
theorem ok_X7_48 : okV RX7 48 RX8 M_X8_pairAt 1 := ⟨⟨lwc_5 106 (by decide +kernel) (by decide +kernel), mi_X8_pairAt, ms_X8_pairAt, in_X8, mc_X8_pairAt⟩, by decide +kernel, by decide⟩
theorem ok_X7_54 : okV RX7 54 RX9 M_X9_grown 4 := ⟨⟨lwc_5 105 (by decide +kernel) (by decide +kernel), mi_X9_grown, ms_X9_grown, in_X9, mc_X9_grown⟩, by decide +kernel, by decide⟩
theorem ok_X7_58 : okS RX7 58 M_J7_fill_53178 2 := ⟨⟨lwc_5 118 (by decide +kernel) (by decide +kernel), mi_J7_fill_53178, in_J7, mc_J7_fill_53178⟩, by decide +kernel, by decide⟩
theorem ok_X7_64 : okV RX7 64 RX7 M_X7_mostAlike 0 := ⟨⟨lwc_5 119 (by decide +kernel) (by decide +kernel), mi_X7_mostAlike, ms_X7_mostAlike, in_X7, mc_X7_mostAlike⟩, by decide +kernel, by decide⟩
theorem lm_X7_67 : Cond.methodLink RX7 67 Lib.Math.max.name ∈ lwG ∧ Cond.static Lib.Math.max.name ∈ lwG ∧ Cond.initialized "java/lang/Math" ∈ lwG ∧ Cond.code Lib.Math.max.name Lib.Math.max.code 2 (some .int) ∈ lwG := ⟨lwc_5 123 (by decide +kernel) (by decide +kernel), lwc_4 105 (by decide +kernel) (by decide +kernel), lwc_1 19 (by decide +kernel) (by decide +kernel), lwc_4 106 (by decide +kernel) (by decide +kernel)⟩
theorem ok_X9_57 : okV RX9 57 RX9 M_X9_clear 0 := ⟨⟨lwc_1 74 (by decide +kernel) (by decide +kernel), mi_X9_clear, ms_X9_clear, in_X9, mc_X9_clear⟩, by decide +kernel, by decide⟩
theorem ok_X9_60 : okS RX9 60 M_J7_fill_53178 2 := ⟨⟨lwc_1 78 (by decide +kernel) (by decide +kernel), mi_J7_fill_53178, in_J7, mc_J7_fill_53178⟩, by decide +kernel, by decide⟩
theorem ok_X9_88 : okV RX9 88 RX9 M_X9_find 2 := ⟨⟨lwc_3 94 (by decide +kernel) (by decide +kernel), mi_X9_find, ms_X9_find, in_X9, mc_X9_find⟩, by decide +kernel, by decide⟩
theorem ok_X9_92 : okV RX9 92 RX9 M_X9_childCount 0 := ⟨⟨lwc_3 139 (by decide +kernel) (by decide +kernel), mi_X9_childCount, ms_X9_childCount, in_X9, mc_X9_childCount⟩, by decide +kernel, by decide⟩
theorem ok_X9_117 : okV RX9 117 RX9 M_X9_setFacts 4 := ⟨⟨lwc_4 147 (by decide +kernel) (by decide +kernel), mi_X9_setFacts, ms_X9_setFacts, in_X9, mc_X9_setFacts⟩, by decide +kernel, by decide⟩
theorem ok_X9_121 : okV RX9 121 RX2 M_X2_value 1 := ⟨⟨lwc_4 159 (by decide +kernel) (by decide +kernel), mi_X2_value, ms_X2_value, in_X2, mc_X2_value⟩, by decide +kernel, by decide⟩
theorem lm_X9_125 : Cond.methodLink RX9 125 Lib.Math.min.name ∈ lwG ∧ Cond.static Lib.Math.min.name ∈ lwG ∧ Cond.initialized "java/lang/Math" ∈ lwG ∧ Cond.code Lib.Math.min.name Lib.Math.min.code 2 (some .int) ∈ lwG := ⟨lwc_4 183 (by decide +kernel) (by decide +kernel), lwc_4 184 (by decide +kernel) (by decide +kernel), lwc_1 19 (by decide +kernel) (by decide +kernel), lwc_4 185 (by decide +kernel) (by decide +kernel)⟩
theorem lm_X9_130 : Cond.methodLink RX9 130 Lib.Math.max.name ∈ lwG ∧ Cond.static Lib.Math.max.name ∈ lwG ∧ Cond.initialized "java/lang/Math" ∈ lwG ∧ Cond.code Lib.Math.max.name Lib.Math.max.code 2 (some .int) ∈ lwG := ⟨lwc_4 186 (by decide +kernel) (by decide +kernel), lwc_4 105 (by decide +kernel) (by decide +kernel), lwc_1 19 (by decide +kernel) (by decide +kernel), lwc_4 106 (by decide +kernel) (by decide +kernel)⟩
