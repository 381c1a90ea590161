/-! links: by program (wip/gen/glinks.py), by places of lw_tbl -/
theorem lwT {w : Cond} (h : w ∈ tables_1) (hg : goodWord w = true) : w ∈ lwG := List.mem_filter.mpr ⟨List.mem_append_right _ h, hg⟩
theorem lwc_1 {w : Cond} (j : Nat) (h : tables_1_1[j]? = some w) (hg : goodWord w = true) : w ∈ lwG := lwT (List.mem_append_left _ (List.mem_of_getElem? h)) hg
theorem lwc_2 {w : Cond} (j : Nat) (h : tables_1_2[j]? = some w) (hg : goodWord w = true) : w ∈ lwG := lwT (List.mem_append_right _ (List.mem_append_left _ (List.mem_of_getElem? h))) hg
theorem lwc_3 {w : Cond} (j : Nat) (h : tables_1_3[j]? = some w) (hg : goodWord w = true) : w ∈ lwG := lwT (List.mem_append_right _ (List.mem_append_right _ (List.mem_append_left _ (List.mem_of_getElem? h)))) hg
theorem lwc_4 {w : Cond} (j : Nat) (h : tables_1_4[j]? = some w) (hg : goodWord w = true) : w ∈ lwG := lwT (List.mem_append_right _ (List.mem_append_right _ (List.mem_append_right _ (List.mem_append_left _ (List.mem_of_getElem? h))))) hg
theorem lwc_5 {w : Cond} (j : Nat) (h : tables_1_5[j]? = some w) (hg : goodWord w = true) : w ∈ lwG := lwT (List.mem_append_right _ (List.mem_append_right _ (List.mem_append_right _ (List.mem_append_right _ (List.mem_append_left _ (List.mem_of_getElem? h)))))) hg
theorem lwc_6 {w : Cond} (j : Nat) (h : tables_1_6[j]? = some w) (hg : goodWord w = true) : w ∈ lwG := lwT (List.mem_append_right _ (List.mem_append_right _ (List.mem_append_right _ (List.mem_append_right _ (List.mem_append_right _ (List.mem_append_left _ (List.mem_of_getElem? h))))))) hg
theorem lwc_7 {w : Cond} (j : Nat) (h : tables_1_7[j]? = some w) (hg : goodWord w = true) : w ∈ lwG := lwT (List.mem_append_right _ (List.mem_append_right _ (List.mem_append_right _ (List.mem_append_right _ (List.mem_append_right _ (List.mem_append_right _ (List.mem_append_left _ (List.mem_of_getElem? h)))))))) hg
theorem lwc_8 {w : Cond} (j : Nat) (h : tables_1_8[j]? = some w) (hg : goodWord w = true) : w ∈ lwG := lwT (List.mem_append_right _ (List.mem_append_right _ (List.mem_append_right _ (List.mem_append_right _ (List.mem_append_right _ (List.mem_append_right _ (List.mem_append_right _ (List.mem_append_left _ (List.mem_of_getElem? h))))))))) hg
theorem lwc_9 {w : Cond} (j : Nat) (h : tables_1_9[j]? = some w) (hg : goodWord w = true) : w ∈ lwG := lwT (List.mem_append_right _ (List.mem_append_right _ (List.mem_append_right _ (List.mem_append_right _ (List.mem_append_right _ (List.mem_append_right _ (List.mem_append_right _ (List.mem_append_right _ (List.mem_of_getElem? h))))))))) hg
theorem in_J6 : Cond.initialized RJ6 ∈ lwG := lwc_1 18 (by decide +kernel) (by decide +kernel)
theorem in_J7 : Cond.initialized RJ7 ∈ lwG := lwc_1 5 (by decide +kernel) (by decide +kernel)
theorem in_J9 : Cond.initialized RJ9 ∈ lwG := lwc_1 19 (by decide +kernel) (by decide +kernel)
theorem in_L : Cond.initialized RL ∈ lwG := lwc_1 0 (by decide +kernel) (by decide +kernel)
theorem in_X1 : Cond.initialized RX1 ∈ lwG := lwc_1 13 (by decide +kernel) (by decide +kernel)
theorem in_X2 : Cond.initialized RX2 ∈ lwG := lwc_1 4 (by decide +kernel) (by decide +kernel)
theorem in_X3 : Cond.initialized RX3 ∈ lwG := lwc_1 15 (by decide +kernel) (by decide +kernel)
theorem in_X4 : Cond.initialized RX4 ∈ lwG := lwc_1 6 (by decide +kernel) (by decide +kernel)
theorem in_X5 : Cond.initialized RX5 ∈ lwG := lwc_1 12 (by decide +kernel) (by decide +kernel)
theorem in_X6 : Cond.initialized RX6 ∈ lwG := lwc_1 7 (by decide +kernel) (by decide +kernel)
theorem in_X7 : Cond.initialized RX7 ∈ lwG := lwc_1 14 (by decide +kernel) (by decide +kernel)
theorem in_X8 : Cond.initialized RX8 ∈ lwG := lwc_1 2 (by decide +kernel) (by decide +kernel)
theorem in_X9 : Cond.initialized RX9 ∈ lwG := lwc_1 3 (by decide +kernel) (by decide +kernel)
theorem in_X11 : Cond.initialized RX11 ∈ lwG := lwc_1 10 (by decide +kernel) (by decide +kernel)
theorem in_X12 : Cond.initialized RX12 ∈ lwG := lwc_1 1 (by decide +kernel) (by decide +kernel)
theorem in_X13 : Cond.initialized RX13 ∈ lwG := lwc_1 16 (by decide +kernel) (by decide +kernel)
abbrev M_X1_forget : MI := (yX1_forget, cX1_forget, 1, none)
theorem pn_X1_forget : plainFor yX1_forget = true := by decide +kernel
theorem mc_X1_forget : Cond.code yX1_forget cX1_forget 1 none ∈ lwG := lwc_4 10 rfl (by decide +kernel)
theorem mi_X1_forget : Cond.instanceMethod yX1_forget ∈ lwG := lwc_4 8 (by decide +kernel) (by decide +kernel)
theorem ms_X1_forget : Cond.selects RX1 yX1_forget yX1_forget ∈ lwG := lwc_4 9 (by decide +kernel) (by decide +kernel)
abbrev M_X1_save : MI := (yX1_save, cX1_save, 5, none)
theorem pn_X1_save : plainFor yX1_save = true := by decide +kernel
theorem mc_X1_save : Cond.code yX1_save cX1_save 5 none ∈ lwG := lwc_5 149 rfl (by decide +kernel)
theorem mi_X1_save : Cond.instanceMethod yX1_save ∈ lwG := lwc_5 147 (by decide +kernel) (by decide +kernel)
theorem ms_X1_save : Cond.selects RX1 yX1_save yX1_save ∈ lwG := lwc_5 148 (by decide +kernel) (by decide +kernel)
abbrev M_J7_fill_53178 : MI := (yJ7_fill_53178, cJ7_fill_53178, 4, none)
theorem pn_J7_fill_53178 : plainFor yJ7_fill_53178 = true := by decide +kernel
theorem mc_J7_fill_53178 : Cond.code yJ7_fill_53178 cJ7_fill_53178 4 none ∈ lwG := lwc_1 80 rfl (by decide +kernel)
theorem mi_J7_fill_53178 : Cond.static yJ7_fill_53178 ∈ lwG := lwc_1 79 (by decide +kernel) (by decide +kernel)
abbrev M_X11_clearWalls : MI := (yX11_clearWalls, cX11_clearWalls, 1, none)
theorem pn_X11_clearWalls : plainFor yX11_clearWalls = true := by decide +kernel
theorem mc_X11_clearWalls : Cond.code yX11_clearWalls cX11_clearWalls 1 none ∈ lwG := lwc_2 22 rfl (by decide +kernel)
theorem mi_X11_clearWalls : Cond.instanceMethod yX11_clearWalls ∈ lwG := lwc_2 20 (by decide +kernel) (by decide +kernel)
theorem ms_X11_clearWalls : Cond.selects RX11 yX11_clearWalls yX11_clearWalls ∈ lwG := lwc_2 21 (by decide +kernel) (by decide +kernel)
abbrev M_X11_put : MI := (yX11_put, cX11_put, 3, none)
theorem pn_X11_put : plainFor yX11_put = true := by decide +kernel
theorem mc_X11_put : Cond.code yX11_put cX11_put 3 none ∈ lwG := lwc_5 7 rfl (by decide +kernel)
theorem mi_X11_put : Cond.instanceMethod yX11_put ∈ lwG := lwc_5 5 (by decide +kernel) (by decide +kernel)
theorem ms_X11_put : Cond.selects RX11 yX11_put yX11_put ∈ lwG := lwc_5 6 (by decide +kernel) (by decide +kernel)
abbrev M_X1_takeBack : MI := (yX1_takeBack, cX1_takeBack, 6, (some .boolean))
theorem pn_X1_takeBack : plainFor yX1_takeBack = true := by decide +kernel
theorem mc_X1_takeBack : Cond.code yX1_takeBack cX1_takeBack 6 (some .boolean) ∈ lwG := lwc_5 184 rfl (by decide +kernel)
theorem mi_X1_takeBack : Cond.instanceMethod yX1_takeBack ∈ lwG := lwc_5 182 (by decide +kernel) (by decide +kernel)
theorem ms_X1_takeBack : Cond.selects RX1 yX1_takeBack yX1_takeBack ∈ lwG := lwc_5 183 (by decide +kernel) (by decide +kernel)
abbrev M_X2_add : MI := (yX2_add, cX2_add, 2, none)
theorem pn_X2_add : plainFor yX2_add = true := by decide +kernel
theorem mc_X2_add : Cond.code yX2_add cX2_add 2 none ∈ lwG := lwc_3 185 rfl (by decide +kernel)
theorem mi_X2_add : Cond.instanceMethod yX2_add ∈ lwG := lwc_3 183 (by decide +kernel) (by decide +kernel)
theorem ms_X2_add : Cond.selects RX2 yX2_add yX2_add ∈ lwG := lwc_3 184 (by decide +kernel) (by decide +kernel)
abbrev M_X2_partsOf : MI := (yX2_partsOf, cX2_partsOf, 1, (some .int))
theorem pn_X2_partsOf : plainFor yX2_partsOf = true := by decide +kernel
theorem mc_X2_partsOf : Cond.code yX2_partsOf cX2_partsOf 1 (some .int) ∈ lwG := lwc_4 165 rfl (by decide +kernel)
theorem mi_X2_partsOf : Cond.static yX2_partsOf ∈ lwG := lwc_4 164 (by decide +kernel) (by decide +kernel)
abbrev M_J9_floorDiv_f86c9 : MI := (yJ9_floorDiv_f86c9, cJ9_floorDiv_f86c9, 6, (some .long))
theorem pn_J9_floorDiv_f86c9 : plainFor yJ9_floorDiv_f86c9 = true := by decide +kernel
theorem mc_J9_floorDiv_f86c9 : Cond.code yJ9_floorDiv_f86c9 cJ9_floorDiv_f86c9 6 (some .long) ∈ lwG := lwc_4 171 rfl (by decide +kernel)
theorem mi_J9_floorDiv_f86c9 : Cond.static yJ9_floorDiv_f86c9 ∈ lwG := lwc_4 170 (by decide +kernel) (by decide +kernel)
abbrev M_J9_floorMod_f86c9 : MI := (yJ9_floorMod_f86c9, cJ9_floorMod_f86c9, 6, (some .long))
theorem pn_J9_floorMod_f86c9 : plainFor yJ9_floorMod_f86c9 = true := by decide +kernel
theorem mc_J9_floorMod_f86c9 : Cond.code yJ9_floorMod_f86c9 cJ9_floorMod_f86c9 6 (some .long) ∈ lwG := lwc_4 174 rfl (by decide +kernel)
theorem mi_J9_floorMod_f86c9 : Cond.static yJ9_floorMod_f86c9 ∈ lwG := lwc_4 173 (by decide +kernel) (by decide +kernel)
abbrev M_X2_pair : MI := (yX2_pair, cX2_pair, 5, (some .long))
theorem pn_X2_pair : plainFor yX2_pair = true := by decide +kernel
theorem mc_X2_pair : Cond.code yX2_pair cX2_pair 5 (some .long) ∈ lwG := lwc_4 168 rfl (by decide +kernel)
theorem mi_X2_pair : Cond.static yX2_pair ∈ lwG := lwc_4 167 (by decide +kernel) (by decide +kernel)
abbrev M_X2_value : MI := (yX2_value, cX2_value, 8, (some .int))
theorem pn_X2_value : plainFor yX2_value = true := by decide +kernel
theorem mc_X2_value : Cond.code yX2_value cX2_value 8 (some .int) ∈ lwG := lwc_4 162 rfl (by decide +kernel)
theorem mi_X2_value : Cond.instanceMethod yX2_value ∈ lwG := lwc_4 160 (by decide +kernel) (by decide +kernel)
theorem ms_X2_value : Cond.selects RX2 yX2_value yX2_value ∈ lwG := lwc_4 161 (by decide +kernel) (by decide +kernel)
abbrev M_X3_add : MI := (yX3_add, cX3_add, 2, none)
theorem pn_X3_add : plainFor yX3_add = true := by decide +kernel
theorem mc_X3_add : Cond.code yX3_add cX3_add 2 none ∈ lwG := lwc_5 210 rfl (by decide +kernel)
theorem mi_X3_add : Cond.instanceMethod yX3_add ∈ lwG := lwc_5 209 (by decide +kernel) (by decide +kernel)
theorem ms_X3_add : Cond.selects RX3 yX3_add yX3_add ∈ lwG := lwG_of 51 (by decide +kernel) (by decide +kernel)
abbrev M_X3_addPair : MI := (yX3_addPair, cX3_addPair, 2, none)
theorem pn_X3_addPair : plainFor yX3_addPair = true := by decide +kernel
theorem mc_X3_addPair : Cond.code yX3_addPair cX3_addPair 2 none ∈ lwG := lwc_5 206 rfl (by decide +kernel)
theorem mi_X3_addPair : Cond.instanceMethod yX3_addPair ∈ lwG := lwc_5 205 (by decide +kernel) (by decide +kernel)
theorem ms_X3_addPair : Cond.selects RX3 yX3_addPair yX3_addPair ∈ lwG := lwG_of 50 (by decide +kernel) (by decide +kernel)
abbrev M_X9_childCount : MI := (yX9_childCount, cX9_childCount, 1, (some .int))
theorem pn_X9_childCount : plainFor yX9_childCount = true := by decide +kernel
theorem mc_X9_childCount : Cond.code yX9_childCount cX9_childCount 1 (some .int) ∈ lwG := lwc_3 121 rfl (by decide +kernel)
theorem mi_X9_childCount : Cond.instanceMethod yX9_childCount ∈ lwG := lwc_3 119 (by decide +kernel) (by decide +kernel)
theorem ms_X9_childCount : Cond.selects RX9 yX9_childCount yX9_childCount ∈ lwG := lwc_3 120 (by decide +kernel) (by decide +kernel)
abbrev M_X11_wallAt : MI := (yX11_wallAt, cX11_wallAt, 1, (some .int))
theorem pn_X11_wallAt : plainFor yX11_wallAt = true := by decide +kernel
theorem mc_X11_wallAt : Cond.code yX11_wallAt cX11_wallAt 1 (some .int) ∈ lwG := lwc_4 95 rfl (by decide +kernel)
theorem mi_X11_wallAt : Cond.static yX11_wallAt ∈ lwG := lwc_4 94 (by decide +kernel) (by decide +kernel)
abbrev M_X3_sumWith : MI := (yX3_sumWith, cX3_sumWith, 2, (some .int))
theorem pn_X3_sumWith : plainFor yX3_sumWith = true := by decide +kernel
theorem mc_X3_sumWith : Cond.code yX3_sumWith cX3_sumWith 2 (some .int) ∈ lwG := lwc_5 215 rfl (by decide +kernel)
theorem mi_X3_sumWith : Cond.static yX3_sumWith ∈ lwG := lwc_5 214 (by decide +kernel) (by decide +kernel)
abbrev M_X3_write : MI := (yX3_write, cX3_write, 5, none)
theorem pn_X3_write : plainFor yX3_write = true := by decide +kernel
theorem mc_X3_write : Cond.code yX3_write cX3_write 5 none ∈ lwG := lwc_5 202 rfl (by decide +kernel)
theorem mi_X3_write : Cond.instanceMethod yX3_write ∈ lwG := lwc_5 200 (by decide +kernel) (by decide +kernel)
theorem ms_X3_write : Cond.selects RX3 yX3_write yX3_write ∈ lwG := lwc_5 201 (by decide +kernel) (by decide +kernel)
abbrev M_X8_byteAt : MI := (yX8_byteAt, cX8_byteAt, 2, (some .int))
theorem pn_X8_byteAt : plainFor yX8_byteAt = true := by decide +kernel
theorem mc_X8_byteAt : Cond.code yX8_byteAt cX8_byteAt 2 (some .int) ∈ lwG := lwc_3 19 rfl (by decide +kernel)
theorem mi_X8_byteAt : Cond.instanceMethod yX8_byteAt ∈ lwG := lwc_3 17 (by decide +kernel) (by decide +kernel)
theorem ms_X8_byteAt : Cond.selects RX8 yX8_byteAt yX8_byteAt ∈ lwG := lwc_3 18 (by decide +kernel) (by decide +kernel)
abbrev M_X3_sumFits : MI := (yX3_sumFits, cX3_sumFits, 3, (some .boolean))
theorem pn_X3_sumFits : plainFor yX3_sumFits = true := by decide +kernel
theorem mc_X3_sumFits : Cond.code yX3_sumFits cX3_sumFits 3 (some .boolean) ∈ lwG := lwc_5 229 rfl (by decide +kernel)
theorem mi_X3_sumFits : Cond.static yX3_sumFits ∈ lwG := lwc_5 228 (by decide +kernel) (by decide +kernel)
abbrev M_X11_clearCounts : MI := (yX11_clearCounts, cX11_clearCounts, 1, none)
theorem pn_X11_clearCounts : plainFor yX11_clearCounts = true := by decide +kernel
theorem mc_X11_clearCounts : Cond.code yX11_clearCounts cX11_clearCounts 1 none ∈ lwG := lwc_2 26 rfl (by decide +kernel)
theorem mi_X11_clearCounts : Cond.instanceMethod yX11_clearCounts ∈ lwG := lwc_2 25 (by decide +kernel) (by decide +kernel)
theorem ms_X11_clearCounts : Cond.selects RX11 yX11_clearCounts yX11_clearCounts ∈ lwG := lwG_of 0 (by decide +kernel) (by decide +kernel)
abbrev M_X11_begin : MI := (yX11_begin, cX11_begin, 2, none)
theorem pn_X11_begin : plainFor yX11_begin = true := by decide +kernel
theorem mc_X11_begin : Cond.code yX11_begin cX11_begin 2 none ∈ lwG := lwc_2 14 rfl (by decide +kernel)
theorem mi_X11_begin : Cond.instanceMethod yX11_begin ∈ lwG := lwc_2 12 (by decide +kernel) (by decide +kernel)
theorem ms_X11_begin : Cond.selects RX11 yX11_begin yX11_begin ∈ lwG := lwc_2 13 (by decide +kernel) (by decide +kernel)
abbrev M_X8_pairAt : MI := (yX8_pairAt, cX8_pairAt, 2, (some .int))
theorem pn_X8_pairAt : plainFor yX8_pairAt = true := by decide +kernel
theorem mc_X8_pairAt : Cond.code yX8_pairAt cX8_pairAt 2 (some .int) ∈ lwG := lwc_5 109 rfl (by decide +kernel)
theorem mi_X8_pairAt : Cond.instanceMethod yX8_pairAt ∈ lwG := lwc_5 107 (by decide +kernel) (by decide +kernel)
theorem ms_X8_pairAt : Cond.selects RX8 yX8_pairAt yX8_pairAt ∈ lwG := lwc_5 108 (by decide +kernel) (by decide +kernel)
abbrev M_X9_homeCount : MI := (yX9_homeCount, cX9_homeCount, 1, (some .int))
theorem pn_X9_homeCount : plainFor yX9_homeCount = true := by decide +kernel
theorem mc_X9_homeCount : Cond.code yX9_homeCount cX9_homeCount 1 (some .int) ∈ lwG := lwc_3 76 rfl (by decide +kernel)
theorem mi_X9_homeCount : Cond.instanceMethod yX9_homeCount ∈ lwG := lwc_3 74 (by decide +kernel) (by decide +kernel)
theorem ms_X9_homeCount : Cond.selects RX9 yX9_homeCount yX9_homeCount ∈ lwG := lwc_3 75 (by decide +kernel) (by decide +kernel)
abbrev M_X9_wallCount : MI := (yX9_wallCount, cX9_wallCount, 1, (some .int))
theorem pn_X9_wallCount : plainFor yX9_wallCount = true := by decide +kernel
theorem mc_X9_wallCount : Cond.code yX9_wallCount cX9_wallCount 1 (some .int) ∈ lwG := lwc_3 155 rfl (by decide +kernel)
theorem mi_X9_wallCount : Cond.instanceMethod yX9_wallCount ∈ lwG := lwc_3 153 (by decide +kernel) (by decide +kernel)
theorem ms_X9_wallCount : Cond.selects RX9 yX9_wallCount yX9_wallCount ∈ lwG := lwc_3 154 (by decide +kernel) (by decide +kernel)
abbrev M_X11_age : MI := (yX11_age, cX11_age, 2, (some .int))
theorem pn_X11_age : plainFor yX11_age = true := by decide +kernel
theorem mc_X11_age : Cond.code yX11_age cX11_age 2 (some .int) ∈ lwG := lwc_4 49 rfl (by decide +kernel)
theorem mi_X11_age : Cond.instanceMethod yX11_age ∈ lwG := lwc_4 47 (by decide +kernel) (by decide +kernel)
theorem ms_X11_age : Cond.selects RX11 yX11_age yX11_age ∈ lwG := lwc_4 48 (by decide +kernel) (by decide +kernel)
abbrev M_X11_isDone : MI := (yX11_isDone, cX11_isDone, 2, (some .boolean))
theorem pn_X11_isDone : plainFor yX11_isDone = true := by decide +kernel
theorem mc_X11_isDone : Cond.code yX11_isDone cX11_isDone 2 (some .boolean) ∈ lwG := lwc_4 45 rfl (by decide +kernel)
theorem mi_X11_isDone : Cond.instanceMethod yX11_isDone ∈ lwG := lwc_4 43 (by decide +kernel) (by decide +kernel)
theorem ms_X11_isDone : Cond.selects RX11 yX11_isDone yX11_isDone ∈ lwG := lwc_4 44 (by decide +kernel) (by decide +kernel)
abbrev M_X11_spot : MI := (yX11_spot, cX11_spot, 3, (some .int))
theorem pn_X11_spot : plainFor yX11_spot = true := by decide +kernel
theorem mc_X11_spot : Cond.code yX11_spot cX11_spot 3 (some .int) ∈ lwG := lwc_4 122 rfl (by decide +kernel)
theorem mi_X11_spot : Cond.static yX11_spot ∈ lwG := lwc_4 121 (by decide +kernel) (by decide +kernel)
abbrev M_X3_readStone : MI := (yX3_readStone, cX3_readStone, 11, (some .boolean))
theorem pn_X3_readStone : plainFor yX3_readStone = true := by decide +kernel
theorem mc_X3_readStone : Cond.code yX3_readStone cX3_readStone 11 (some .boolean) ∈ lwG := lwc_5 235 rfl (by decide +kernel)
theorem mi_X3_readStone : Cond.static yX3_readStone ∈ lwG := lwc_5 234 (by decide +kernel) (by decide +kernel)
abbrev M_X3_allRest : MI := (yX3_allRest, cX3_allRest, 3, (some .boolean))
theorem pn_X3_allRest : plainFor yX3_allRest = true := by decide +kernel
theorem mc_X3_allRest : Cond.code yX3_allRest cX3_allRest 3 (some .boolean) ∈ lwG := lwc_6 3 rfl (by decide +kernel)
theorem mi_X3_allRest : Cond.static yX3_allRest ∈ lwG := lwc_6 2 (by decide +kernel) (by decide +kernel)
abbrev M_X3_read : MI := (yX3_read, cX3_read, 7, (some .boolean))
theorem pn_X3_read : plainFor yX3_read = true := by decide +kernel
theorem mc_X3_read : Cond.code yX3_read cX3_read 7 (some .boolean) ∈ lwG := lwc_5 226 rfl (by decide +kernel)
theorem mi_X3_read : Cond.static yX3_read ∈ lwG := lwc_5 225 (by decide +kernel) (by decide +kernel)
abbrev M_X9_clear : MI := (yX9_clear, cX9_clear, 1, none)
theorem pn_X9_clear : plainFor yX9_clear = true := by decide +kernel
theorem mc_X9_clear : Cond.code yX9_clear cX9_clear 1 none ∈ lwG := lwc_1 77 rfl (by decide +kernel)
theorem mi_X9_clear : Cond.instanceMethod yX9_clear ∈ lwG := lwc_1 75 (by decide +kernel) (by decide +kernel)
theorem ms_X9_clear : Cond.selects RX9 yX9_clear yX9_clear ∈ lwG := lwc_1 76 (by decide +kernel) (by decide +kernel)
abbrev M_X6_open : MI := (yX6_open, cX6_open, 1, none)
theorem pn_X6_open : plainFor yX6_open = true := by decide +kernel
theorem mc_X6_open : Cond.code yX6_open cX6_open 1 none ∈ lwG := lwc_3 3 rfl (by decide +kernel)
theorem mi_X6_open : Cond.instanceMethod yX6_open ∈ lwG := lwc_3 1 (by decide +kernel) (by decide +kernel)
theorem ms_X6_open : Cond.selects RX6 yX6_open yX6_open ∈ lwG := lwc_3 2 (by decide +kernel) (by decide +kernel)
abbrev M_X4_begin : MI := (yX4_begin, cX4_begin, 2, none)
theorem pn_X4_begin : plainFor yX4_begin = true := by decide +kernel
theorem mc_X4_begin : Cond.code yX4_begin cX4_begin 2 none ∈ lwG := lwc_2 238 rfl (by decide +kernel)
theorem mi_X4_begin : Cond.instanceMethod yX4_begin ∈ lwG := lwc_2 236 (by decide +kernel) (by decide +kernel)
theorem ms_X4_begin : Cond.selects RX4 yX4_begin yX4_begin ∈ lwG := lwc_2 237 (by decide +kernel) (by decide +kernel)
abbrev M_X6_isGood : MI := (yX6_isGood, cX6_isGood, 1, (some .boolean))
theorem pn_X6_isGood : plainFor yX6_isGood = true := by decide +kernel
theorem mc_X6_isGood : Cond.code yX6_isGood cX6_isGood 1 (some .boolean) ∈ lwG := lwc_3 11 rfl (by decide +kernel)
theorem mi_X6_isGood : Cond.instanceMethod yX6_isGood ∈ lwG := lwc_3 9 (by decide +kernel) (by decide +kernel)
theorem ms_X6_isGood : Cond.selects RX6 yX6_isGood yX6_isGood ∈ lwG := lwc_3 10 (by decide +kernel) (by decide +kernel)
abbrev M_X6_isBlank : MI := (yX6_isBlank, cX6_isBlank, 1, (some .boolean))
theorem pn_X6_isBlank : plainFor yX6_isBlank = true := by decide +kernel
theorem mc_X6_isBlank : Cond.code yX6_isBlank cX6_isBlank 1 (some .boolean) ∈ lwG := lwc_3 22 rfl (by decide +kernel)
theorem mi_X6_isBlank : Cond.static yX6_isBlank ∈ lwG := lwc_3 21 (by decide +kernel) (by decide +kernel)
abbrev M_X6_goesOn : MI := (yX6_goesOn, cX6_goesOn, 1, (some .boolean))
theorem pn_X6_goesOn : plainFor yX6_goesOn = true := by decide +kernel
theorem mc_X6_goesOn : Cond.code yX6_goesOn cX6_goesOn 1 (some .boolean) ∈ lwG := lwc_3 15 rfl (by decide +kernel)
theorem mi_X6_goesOn : Cond.instanceMethod yX6_goesOn ∈ lwG := lwc_3 13 (by decide +kernel) (by decide +kernel)
theorem ms_X6_goesOn : Cond.selects RX6 yX6_goesOn yX6_goesOn ∈ lwG := lwc_3 14 (by decide +kernel) (by decide +kernel)
abbrev M_X4_hasMore : MI := (yX4_hasMore, cX4_hasMore, 1, (some .boolean))
theorem pn_X4_hasMore : plainFor yX4_hasMore = true := by decide +kernel
theorem mc_X4_hasMore : Cond.code yX4_hasMore cX4_hasMore 1 (some .boolean) ∈ lwG := lwc_3 7 rfl (by decide +kernel)
theorem mi_X4_hasMore : Cond.instanceMethod yX4_hasMore ∈ lwG := lwc_3 5 (by decide +kernel) (by decide +kernel)
theorem ms_X4_hasMore : Cond.selects RX4 yX4_hasMore yX4_hasMore ∈ lwG := lwc_3 6 (by decide +kernel) (by decide +kernel)
abbrev M_X6_fail : MI := (yX6_fail, cX6_fail, 3, none)
theorem pn_X6_fail : plainFor yX6_fail = true := by decide +kernel
theorem mc_X6_fail : Cond.code yX6_fail cX6_fail 3 none ∈ lwG := lwc_3 30 rfl (by decide +kernel)
theorem mi_X6_fail : Cond.instanceMethod yX6_fail ∈ lwG := lwc_3 28 (by decide +kernel) (by decide +kernel)
theorem ms_X6_fail : Cond.selects RX6 yX6_fail yX6_fail ∈ lwG := lwc_3 29 (by decide +kernel) (by decide +kernel)
abbrev M_X6_isLetter : MI := (yX6_isLetter, cX6_isLetter, 1, (some .boolean))
theorem pn_X6_isLetter : plainFor yX6_isLetter = true := by decide +kernel
theorem mc_X6_isLetter : Cond.code yX6_isLetter cX6_isLetter 1 (some .boolean) ∈ lwG := lwc_3 42 rfl (by decide +kernel)
theorem mi_X6_isLetter : Cond.static yX6_isLetter ∈ lwG := lwc_3 41 (by decide +kernel) (by decide +kernel)
abbrev M_X6_isDigit : MI := (yX6_isDigit, cX6_isDigit, 1, (some .boolean))
theorem pn_X6_isDigit : plainFor yX6_isDigit = true := by decide +kernel
theorem mc_X6_isDigit : Cond.code yX6_isDigit cX6_isDigit 1 (some .boolean) ∈ lwG := lwc_3 45 rfl (by decide +kernel)
theorem mi_X6_isDigit : Cond.static yX6_isDigit ∈ lwG := lwc_3 44 (by decide +kernel) (by decide +kernel)
abbrev M_X6_joins : MI := (yX6_joins, cX6_joins, 2, (some .boolean))
theorem pn_X6_joins : plainFor yX6_joins = true := by decide +kernel
theorem mc_X6_joins : Cond.code yX6_joins cX6_joins 2 (some .boolean) ∈ lwG := lwc_3 39 rfl (by decide +kernel)
theorem mi_X6_joins : Cond.instanceMethod yX6_joins ∈ lwG := lwc_3 38 (by decide +kernel) (by decide +kernel)
theorem ms_X6_joins : Cond.selects RX6 yX6_joins yX6_joins ∈ lwG := lwG_of 2 (by decide +kernel) (by decide +kernel)
abbrev M_X6_failHere : MI := (yX6_failHere, cX6_failHere, 2, none)
theorem pn_X6_failHere : plainFor yX6_failHere = true := by decide +kernel
theorem mc_X6_failHere : Cond.code yX6_failHere cX6_failHere 2 none ∈ lwG := lwc_3 49 rfl (by decide +kernel)
theorem mi_X6_failHere : Cond.instanceMethod yX6_failHere ∈ lwG := lwc_3 47 (by decide +kernel) (by decide +kernel)
theorem ms_X6_failHere : Cond.selects RX6 yX6_failHere yX6_failHere ∈ lwG := lwc_3 48 (by decide +kernel) (by decide +kernel)
abbrev M_X6_readWord : MI := (yX6_readWord, cX6_readWord, 2, none)
theorem pn_X6_readWord : plainFor yX6_readWord = true := by decide +kernel
theorem mc_X6_readWord : Cond.code yX6_readWord cX6_readWord 2 none ∈ lwG := lwc_3 54 rfl (by decide +kernel)
theorem mi_X6_readWord : Cond.instanceMethod yX6_readWord ∈ lwG := lwc_3 53 (by decide +kernel) (by decide +kernel)
theorem ms_X6_readWord : Cond.selects RX6 yX6_readWord yX6_readWord ∈ lwG := lwG_of 3 (by decide +kernel) (by decide +kernel)
abbrev M_X6_readNumber : MI := (yX6_readNumber, cX6_readNumber, 1, none)
theorem pn_X6_readNumber : plainFor yX6_readNumber = true := by decide +kernel
theorem mc_X6_readNumber : Cond.code yX6_readNumber cX6_readNumber 1 none ∈ lwG := lwc_3 60 rfl (by decide +kernel)
theorem mi_X6_readNumber : Cond.instanceMethod yX6_readNumber ∈ lwG := lwc_3 59 (by decide +kernel) (by decide +kernel)
theorem ms_X6_readNumber : Cond.selects RX6 yX6_readNumber yX6_readNumber ∈ lwG := lwG_of 4 (by decide +kernel) (by decide +kernel)
abbrev M_X6_advance : MI := (yX6_advance, cX6_advance, 2, none)
theorem pn_X6_advance : plainFor yX6_advance = true := by decide +kernel
theorem mc_X6_advance : Cond.code yX6_advance cX6_advance 2 none ∈ lwG := lwc_3 34 rfl (by decide +kernel)
theorem mi_X6_advance : Cond.instanceMethod yX6_advance ∈ lwG := lwc_3 32 (by decide +kernel) (by decide +kernel)
theorem ms_X6_advance : Cond.selects RX6 yX6_advance yX6_advance ∈ lwG := lwc_3 33 (by decide +kernel) (by decide +kernel)
abbrev M_X4_limit : MI := (yX4_limit, cX4_limit, 3, none)
theorem pn_X4_limit : plainFor yX4_limit = true := by decide +kernel
theorem mc_X4_limit : Cond.code yX4_limit cX4_limit 3 none ∈ lwG := lwc_3 80 rfl (by decide +kernel)
theorem mi_X4_limit : Cond.instanceMethod yX4_limit ∈ lwG := lwc_3 79 (by decide +kernel) (by decide +kernel)
theorem ms_X4_limit : Cond.selects RX4 yX4_limit yX4_limit ∈ lwG := lwG_of 6 (by decide +kernel) (by decide +kernel)
abbrev M_X6_isName : MI := (yX6_isName, cX6_isName, 1, (some .boolean))
theorem pn_X6_isName : plainFor yX6_isName = true := by decide +kernel
theorem mc_X6_isName : Cond.code yX6_isName cX6_isName 1 (some .boolean) ∈ lwG := lwc_3 89 rfl (by decide +kernel)
theorem mi_X6_isName : Cond.instanceMethod yX6_isName ∈ lwG := lwc_3 87 (by decide +kernel) (by decide +kernel)
theorem ms_X6_isName : Cond.selects RX6 yX6_isName yX6_isName ∈ lwG := lwc_3 88 (by decide +kernel) (by decide +kernel)
abbrev M_X9_find : MI := (yX9_find, cX9_find, 4, (some .int))
theorem pn_X9_find : plainFor yX9_find = true := by decide +kernel
theorem mc_X9_find : Cond.code yX9_find cX9_find 4 (some .int) ∈ lwG := lwc_3 97 rfl (by decide +kernel)
theorem mi_X9_find : Cond.instanceMethod yX9_find ∈ lwG := lwc_3 95 (by decide +kernel) (by decide +kernel)
theorem ms_X9_find : Cond.selects RX9 yX9_find yX9_find ∈ lwG := lwc_3 96 (by decide +kernel) (by decide +kernel)
abbrev M_X9_knows : MI := (yX9_knows, cX9_knows, 2, (some .boolean))
theorem pn_X9_knows : plainFor yX9_knows = true := by decide +kernel
theorem mc_X9_knows : Cond.code yX9_knows cX9_knows 2 (some .boolean) ∈ lwG := lwc_3 93 rfl (by decide +kernel)
theorem mi_X9_knows : Cond.instanceMethod yX9_knows ∈ lwG := lwc_3 91 (by decide +kernel) (by decide +kernel)
theorem ms_X9_knows : Cond.selects RX9 yX9_knows yX9_knows ∈ lwG := lwc_3 92 (by decide +kernel) (by decide +kernel)
abbrev M_X4_newName : MI := (yX4_newName, cX4_newName, 2, (some .int))
theorem pn_X4_newName : plainFor yX4_newName = true := by decide +kernel
theorem mc_X4_newName : Cond.code yX4_newName cX4_newName 2 (some .int) ∈ lwG := lwc_3 85 rfl (by decide +kernel)
theorem mi_X4_newName : Cond.instanceMethod yX4_newName ∈ lwG := lwc_3 84 (by decide +kernel) (by decide +kernel)
theorem ms_X4_newName : Cond.selects RX4 yX4_newName yX4_newName ∈ lwG := lwG_of 7 (by decide +kernel) (by decide +kernel)
abbrev M_X4_own : MI := (yX4_own, cX4_own, 2, none)
theorem pn_X4_own : plainFor yX4_own = true := by decide +kernel
theorem mc_X4_own : Cond.code yX4_own cX4_own 2 none ∈ lwG := lwc_3 103 rfl (by decide +kernel)
theorem mi_X4_own : Cond.instanceMethod yX4_own ∈ lwG := lwc_3 102 (by decide +kernel) (by decide +kernel)
theorem ms_X4_own : Cond.selects RX4 yX4_own yX4_own ∈ lwG := lwG_of 8 (by decide +kernel) (by decide +kernel)
abbrev M_X4_number : MI := (yX4_number, cX4_number, 4, (some .int))
theorem pn_X4_number : plainFor yX4_number = true := by decide +kernel
theorem mc_X4_number : Cond.code yX4_number cX4_number 4 (some .int) ∈ lwG := lwc_3 107 rfl (by decide +kernel)
theorem mi_X4_number : Cond.instanceMethod yX4_number ∈ lwG := lwc_3 106 (by decide +kernel) (by decide +kernel)
theorem ms_X4_number : Cond.selects RX4 yX4_number yX4_number ∈ lwG := lwG_of 9 (by decide +kernel) (by decide +kernel)
abbrev M_X9_addName : MI := (yX9_addName, cX9_addName, 3, none)
theorem pn_X9_addName : plainFor yX9_addName = true := by decide +kernel
theorem mc_X9_addName : Cond.code yX9_addName cX9_addName 3 none ∈ lwG := lwc_3 113 rfl (by decide +kernel)
theorem mi_X9_addName : Cond.instanceMethod yX9_addName ∈ lwG := lwc_3 111 (by decide +kernel) (by decide +kernel)
theorem ms_X9_addName : Cond.selects RX9 yX9_addName yX9_addName ∈ lwG := lwc_3 112 (by decide +kernel) (by decide +kernel)
abbrev M_X4_homeLine : MI := (yX4_homeLine, cX4_homeLine, 5, none)
theorem pn_X4_homeLine : plainFor yX4_homeLine = true := by decide +kernel
theorem mc_X4_homeLine : Cond.code yX4_homeLine cX4_homeLine 5 none ∈ lwG := lwc_3 72 rfl (by decide +kernel)
theorem mi_X4_homeLine : Cond.instanceMethod yX4_homeLine ∈ lwG := lwc_3 71 (by decide +kernel) (by decide +kernel)
theorem ms_X4_homeLine : Cond.selects RX4 yX4_homeLine yX4_homeLine ∈ lwG := lwG_of 5 (by decide +kernel) (by decide +kernel)
abbrev M_X4_known : MI := (yX4_known, cX4_known, 4, (some .int))
theorem pn_X4_known : plainFor yX4_known = true := by decide +kernel
theorem mc_X4_known : Cond.code yX4_known cX4_known 4 (some .int) ∈ lwG := lwc_3 127 rfl (by decide +kernel)
theorem mi_X4_known : Cond.instanceMethod yX4_known ∈ lwG := lwc_3 126 (by decide +kernel) (by decide +kernel)
theorem ms_X4_known : Cond.selects RX4 yX4_known yX4_known ∈ lwG := lwG_of 11 (by decide +kernel) (by decide +kernel)
abbrev M_X4_childLine : MI := (yX4_childLine, cX4_childLine, 5, none)
theorem pn_X4_childLine : plainFor yX4_childLine = true := by decide +kernel
theorem mc_X4_childLine : Cond.code yX4_childLine cX4_childLine 5 none ∈ lwG := lwc_3 117 rfl (by decide +kernel)
theorem mi_X4_childLine : Cond.instanceMethod yX4_childLine ∈ lwG := lwc_3 116 (by decide +kernel) (by decide +kernel)
theorem ms_X4_childLine : Cond.selects RX4 yX4_childLine yX4_childLine ∈ lwG := lwG_of 10 (by decide +kernel) (by decide +kernel)
abbrev M_X9_twins : MI := (yX9_twins, cX9_twins, 3, (some .int))
theorem pn_X9_twins : plainFor yX9_twins = true := by decide +kernel
theorem mc_X9_twins : Cond.code yX9_twins cX9_twins 3 (some .int) ∈ lwG := lwc_3 138 rfl (by decide +kernel)
theorem mi_X9_twins : Cond.instanceMethod yX9_twins ∈ lwG := lwc_3 136 (by decide +kernel) (by decide +kernel)
theorem ms_X9_twins : Cond.selects RX9 yX9_twins yX9_twins ∈ lwG := lwc_3 137 (by decide +kernel) (by decide +kernel)
abbrev M_X4_twinsLine : MI := (yX4_twinsLine, cX4_twinsLine, 4, none)
theorem pn_X4_twinsLine : plainFor yX4_twinsLine = true := by decide +kernel
theorem mc_X4_twinsLine : Cond.code yX4_twinsLine cX4_twinsLine 4 none ∈ lwG := lwc_3 134 rfl (by decide +kernel)
theorem mi_X4_twinsLine : Cond.instanceMethod yX4_twinsLine ∈ lwG := lwc_3 133 (by decide +kernel) (by decide +kernel)
theorem ms_X4_twinsLine : Cond.selects RX4 yX4_twinsLine yX4_twinsLine ∈ lwG := lwG_of 12 (by decide +kernel) (by decide +kernel)
abbrev M_X9_foes : MI := (yX9_foes, cX9_foes, 6, (some .int))
theorem pn_X9_foes : plainFor yX9_foes = true := by decide +kernel
theorem mc_X9_foes : Cond.code yX9_foes cX9_foes 6 (some .int) ∈ lwG := lwc_3 147 rfl (by decide +kernel)
theorem mi_X9_foes : Cond.instanceMethod yX9_foes ∈ lwG := lwc_3 145 (by decide +kernel) (by decide +kernel)
theorem ms_X9_foes : Cond.selects RX9 yX9_foes yX9_foes ∈ lwG := lwc_3 146 (by decide +kernel) (by decide +kernel)
abbrev M_X4_feudLine : MI := (yX4_feudLine, cX4_feudLine, 3, none)
theorem pn_X4_feudLine : plainFor yX4_feudLine = true := by decide +kernel
theorem mc_X4_feudLine : Cond.code yX4_feudLine cX4_feudLine 3 none ∈ lwG := lwc_3 143 rfl (by decide +kernel)
theorem mi_X4_feudLine : Cond.instanceMethod yX4_feudLine ∈ lwG := lwc_3 142 (by decide +kernel) (by decide +kernel)
theorem ms_X4_feudLine : Cond.selects RX4 yX4_feudLine yX4_feudLine ∈ lwG := lwG_of 13 (by decide +kernel) (by decide +kernel)
abbrev M_X4_wallLine : MI := (yX4_wallLine, cX4_wallLine, 5, none)
theorem pn_X4_wallLine : plainFor yX4_wallLine = true := by decide +kernel
theorem mc_X4_wallLine : Cond.code yX4_wallLine cX4_wallLine 5 none ∈ lwG := lwc_3 151 rfl (by decide +kernel)
theorem mi_X4_wallLine : Cond.instanceMethod yX4_wallLine ∈ lwG := lwc_3 150 (by decide +kernel) (by decide +kernel)
theorem ms_X4_wallLine : Cond.selects RX4 yX4_wallLine yX4_wallLine ∈ lwG := lwG_of 14 (by decide +kernel) (by decide +kernel)
abbrev M_X6_isSign : MI := (yX6_isSign, cX6_isSign, 2, (some .boolean))
theorem pn_X6_isSign : plainFor yX6_isSign = true := by decide +kernel
theorem mc_X6_isSign : Cond.code yX6_isSign cX6_isSign 2 (some .boolean) ∈ lwG := lwc_3 189 rfl (by decide +kernel)
theorem mi_X6_isSign : Cond.instanceMethod yX6_isSign ∈ lwG := lwc_3 187 (by decide +kernel) (by decide +kernel)
theorem ms_X6_isSign : Cond.selects RX6 yX6_isSign yX6_isSign ∈ lwG := lwc_3 188 (by decide +kernel) (by decide +kernel)
abbrev M_X4_goDeeper : MI := (yX4_goDeeper, cX4_goDeeper, 1, none)
theorem pn_X4_goDeeper : plainFor yX4_goDeeper = true := by decide +kernel
theorem mc_X4_goDeeper : Cond.code yX4_goDeeper cX4_goDeeper 1 none ∈ lwG := lwc_3 181 rfl (by decide +kernel)
theorem mi_X4_goDeeper : Cond.instanceMethod yX4_goDeeper ∈ lwG := lwc_3 180 (by decide +kernel) (by decide +kernel)
theorem ms_X4_goDeeper : Cond.selects RX4 yX4_goDeeper yX4_goDeeper ∈ lwG := lwG_of 19 (by decide +kernel) (by decide +kernel)
abbrev M_X4_sign : MI := (yX4_sign, cX4_sign, 2, none)
theorem pn_X4_sign : plainFor yX4_sign = true := by decide +kernel
theorem mc_X4_sign : Cond.code yX4_sign cX4_sign 2 none ∈ lwG := lwc_3 193 rfl (by decide +kernel)
theorem mi_X4_sign : Cond.instanceMethod yX4_sign ∈ lwG := lwc_3 192 (by decide +kernel) (by decide +kernel)
theorem ms_X4_sign : Cond.selects RX4 yX4_sign yX4_sign ∈ lwG := lwG_of 20 (by decide +kernel) (by decide +kernel)
abbrev M_X4_factWord : MI := (yX4_factWord, cX4_factWord, 2, none)
theorem pn_X4_factWord : plainFor yX4_factWord = true := by decide +kernel
theorem mc_X4_factWord : Cond.code yX4_factWord cX4_factWord 2 none ∈ lwG := lwc_3 225 rfl (by decide +kernel)
theorem mi_X4_factWord : Cond.instanceMethod yX4_factWord ∈ lwG := lwc_3 224 (by decide +kernel) (by decide +kernel)
theorem ms_X4_factWord : Cond.selects RX4 yX4_factWord yX4_factWord ∈ lwG := lwG_of 26 (by decide +kernel) (by decide +kernel)
abbrev M_X4_chosenPart : MI := (yX4_chosenPart, cX4_chosenPart, 2, none)
theorem pn_X4_chosenPart : plainFor yX4_chosenPart = true := by decide +kernel
theorem mc_X4_chosenPart : Cond.code yX4_chosenPart cX4_chosenPart 2 none ∈ lwG := lwc_3 217 rfl (by decide +kernel)
theorem mi_X4_chosenPart : Cond.instanceMethod yX4_chosenPart ∈ lwG := lwc_3 216 (by decide +kernel) (by decide +kernel)
theorem ms_X4_chosenPart : Cond.selects RX4 yX4_chosenPart yX4_chosenPart ∈ lwG := lwG_of 25 (by decide +kernel) (by decide +kernel)
abbrev M_X4_comparePart : MI := (yX4_comparePart, cX4_comparePart, 2, none)
theorem pn_X4_comparePart : plainFor yX4_comparePart = true := by decide +kernel
theorem mc_X4_comparePart : Cond.code yX4_comparePart cX4_comparePart 2 none ∈ lwG := lwc_3 199 rfl (by decide +kernel)
theorem mi_X4_comparePart : Cond.instanceMethod yX4_comparePart ∈ lwG := lwc_3 198 (by decide +kernel) (by decide +kernel)
theorem ms_X4_comparePart : Cond.selects RX4 yX4_comparePart yX4_comparePart ∈ lwG := lwG_of 21 (by decide +kernel) (by decide +kernel)
abbrev M_X4_factPart : MI := (yX4_factPart, cX4_factPart, 1, none)
theorem pn_X4_factPart : plainFor yX4_factPart = true := by decide +kernel
theorem mc_X4_factPart : Cond.code yX4_factPart cX4_factPart 1 none ∈ lwG := lwc_3 175 rfl (by decide +kernel)
theorem mi_X4_factPart : Cond.instanceMethod yX4_factPart ∈ lwG := lwc_3 174 (by decide +kernel) (by decide +kernel)
theorem ms_X4_factPart : Cond.selects RX4 yX4_factPart yX4_factPart ∈ lwG := lwG_of 18 (by decide +kernel) (by decide +kernel)
abbrev M_X4_productPart : MI := (yX4_productPart, cX4_productPart, 3, none)
theorem pn_X4_productPart : plainFor yX4_productPart = true := by decide +kernel
theorem mc_X4_productPart : Cond.code yX4_productPart cX4_productPart 3 none ∈ lwG := lwc_3 207 rfl (by decide +kernel)
theorem mi_X4_productPart : Cond.instanceMethod yX4_productPart ∈ lwG := lwc_3 206 (by decide +kernel) (by decide +kernel)
theorem ms_X4_productPart : Cond.selects RX4 yX4_productPart yX4_productPart ∈ lwG := lwG_of 23 (by decide +kernel) (by decide +kernel)
abbrev M_X4_singlePart : MI := (yX4_singlePart, cX4_singlePart, 1, none)
theorem pn_X4_singlePart : plainFor yX4_singlePart = true := by decide +kernel
theorem mc_X4_singlePart : Cond.code yX4_singlePart cX4_singlePart 1 none ∈ lwG := lwc_3 211 rfl (by decide +kernel)
theorem mi_X4_singlePart : Cond.instanceMethod yX4_singlePart ∈ lwG := lwc_3 210 (by decide +kernel) (by decide +kernel)
theorem ms_X4_singlePart : Cond.selects RX4 yX4_singlePart yX4_singlePart ∈ lwG := lwG_of 24 (by decide +kernel) (by decide +kernel)
abbrev M_X4_sumPart : MI := (yX4_sumPart, cX4_sumPart, 3, none)
theorem pn_X4_sumPart : plainFor yX4_sumPart = true := by decide +kernel
theorem mc_X4_sumPart : Cond.code yX4_sumPart cX4_sumPart 3 none ∈ lwG := lwc_3 203 rfl (by decide +kernel)
theorem mi_X4_sumPart : Cond.instanceMethod yX4_sumPart ∈ lwG := lwc_3 202 (by decide +kernel) (by decide +kernel)
theorem ms_X4_sumPart : Cond.selects RX4 yX4_sumPart yX4_sumPart ∈ lwG := lwG_of 22 (by decide +kernel) (by decide +kernel)
abbrev M_X4_testPart : MI := (yX4_testPart, cX4_testPart, 2, none)
theorem pn_X4_testPart : plainFor yX4_testPart = true := by decide +kernel
theorem mc_X4_testPart : Cond.code yX4_testPart cX4_testPart 2 none ∈ lwG := lwc_3 167 rfl (by decide +kernel)
theorem mi_X4_testPart : Cond.instanceMethod yX4_testPart ∈ lwG := lwc_3 166 (by decide +kernel) (by decide +kernel)
theorem ms_X4_testPart : Cond.selects RX4 yX4_testPart yX4_testPart ∈ lwG := lwG_of 16 (by decide +kernel) (by decide +kernel)
abbrev M_X4_bothPart : MI := (yX4_bothPart, cX4_bothPart, 2, none)
theorem pn_X4_bothPart : plainFor yX4_bothPart = true := by decide +kernel
theorem mc_X4_bothPart : Cond.code yX4_bothPart cX4_bothPart 2 none ∈ lwG := lwc_3 171 rfl (by decide +kernel)
theorem mi_X4_bothPart : Cond.instanceMethod yX4_bothPart ∈ lwG := lwc_3 170 (by decide +kernel) (by decide +kernel)
theorem ms_X4_bothPart : Cond.selects RX4 yX4_bothPart yX4_bothPart ∈ lwG := lwG_of 17 (by decide +kernel) (by decide +kernel)
abbrev M_X4_formulaLine : MI := (yX4_formulaLine, cX4_formulaLine, 3, none)
theorem pn_X4_formulaLine : plainFor yX4_formulaLine = true := by decide +kernel
theorem mc_X4_formulaLine : Cond.code yX4_formulaLine cX4_formulaLine 3 none ∈ lwG := lwc_3 163 rfl (by decide +kernel)
theorem mi_X4_formulaLine : Cond.instanceMethod yX4_formulaLine ∈ lwG := lwc_3 162 (by decide +kernel) (by decide +kernel)
theorem ms_X4_formulaLine : Cond.selects RX4 yX4_formulaLine yX4_formulaLine ∈ lwG := lwG_of 15 (by decide +kernel) (by decide +kernel)
abbrev M_X4_raisedLine : MI := (yX4_raisedLine, cX4_raisedLine, 1, none)
theorem pn_X4_raisedLine : plainFor yX4_raisedLine = true := by decide +kernel
theorem mc_X4_raisedLine : Cond.code yX4_raisedLine cX4_raisedLine 1 none ∈ lwG := lwc_3 235 rfl (by decide +kernel)
theorem mi_X4_raisedLine : Cond.instanceMethod yX4_raisedLine ∈ lwG := lwc_3 234 (by decide +kernel) (by decide +kernel)
theorem ms_X4_raisedLine : Cond.selects RX4 yX4_raisedLine yX4_raisedLine ∈ lwG := lwG_of 27 (by decide +kernel) (by decide +kernel)
abbrev M_X4_setting : MI := (yX4_setting, cX4_setting, 2, (some .int))
theorem pn_X4_setting : plainFor yX4_setting = true := by decide +kernel
theorem mc_X4_setting : Cond.code yX4_setting cX4_setting 2 (some .int) ∈ lwG := lwc_4 1 rfl (by decide +kernel)
theorem mi_X4_setting : Cond.instanceMethod yX4_setting ∈ lwG := lwc_4 0 (by decide +kernel) (by decide +kernel)
theorem ms_X4_setting : Cond.selects RX4 yX4_setting yX4_setting ∈ lwG := lwG_of 28 (by decide +kernel) (by decide +kernel)
abbrev M_X4_statement : MI := (yX4_statement, cX4_statement, 2, none)
theorem pn_X4_statement : plainFor yX4_statement = true := by decide +kernel
theorem mc_X4_statement : Cond.code yX4_statement cX4_statement 2 none ∈ lwG := lwc_3 26 rfl (by decide +kernel)
theorem mi_X4_statement : Cond.instanceMethod yX4_statement ∈ lwG := lwc_3 24 (by decide +kernel) (by decide +kernel)
theorem ms_X4_statement : Cond.selects RX4 yX4_statement yX4_statement ∈ lwG := lwc_3 25 (by decide +kernel) (by decide +kernel)
abbrev M_X11_copy : MI := (yX11_copy, cX11_copy, 2, none)
theorem pn_X11_copy : plainFor yX11_copy = true := by decide +kernel
theorem mc_X11_copy : Cond.code yX11_copy cX11_copy 2 none ∈ lwG := lwc_4 134 rfl (by decide +kernel)
theorem mi_X11_copy : Cond.instanceMethod yX11_copy ∈ lwG := lwc_4 132 (by decide +kernel) (by decide +kernel)
theorem ms_X11_copy : Cond.selects RX11 yX11_copy yX11_copy ∈ lwG := lwc_4 133 (by decide +kernel) (by decide +kernel)
abbrev M_X11_where : MI := (yX11_where, cX11_where, 2, (some .int))
theorem pn_X11_where : plainFor yX11_where = true := by decide +kernel
theorem mc_X11_where : Cond.code yX11_where cX11_where 2 (some .int) ∈ lwG := lwc_4 41 rfl (by decide +kernel)
theorem mi_X11_where : Cond.instanceMethod yX11_where ∈ lwG := lwc_4 39 (by decide +kernel) (by decide +kernel)
theorem ms_X11_where : Cond.selects RX11 yX11_where yX11_where ∈ lwG := lwc_4 40 (by decide +kernel) (by decide +kernel)
abbrev M_X9_setFacts : MI := (yX9_setFacts, cX9_setFacts, 5, none)
theorem pn_X9_setFacts : plainFor yX9_setFacts = true := by decide +kernel
theorem mc_X9_setFacts : Cond.code yX9_setFacts cX9_setFacts 5 none ∈ lwG := lwc_4 150 rfl (by decide +kernel)
theorem mi_X9_setFacts : Cond.instanceMethod yX9_setFacts ∈ lwG := lwc_4 148 (by decide +kernel) (by decide +kernel)
theorem ms_X9_setFacts : Cond.selects RX9 yX9_setFacts yX9_setFacts ∈ lwG := lwc_4 149 (by decide +kernel) (by decide +kernel)
abbrev M_X9_grown : MI := (yX9_grown, cX9_grown, 6, (some .int))
theorem pn_X9_grown : plainFor yX9_grown = true := by decide +kernel
theorem mc_X9_grown : Cond.code yX9_grown cX9_grown 6 (some .int) ∈ lwG := lwc_4 146 rfl (by decide +kernel)
theorem mi_X9_grown : Cond.instanceMethod yX9_grown ∈ lwG := lwc_4 144 (by decide +kernel) (by decide +kernel)
theorem ms_X9_grown : Cond.selects RX9 yX9_grown yX9_grown ∈ lwG := lwc_4 145 (by decide +kernel) (by decide +kernel)
abbrev M_X11_raise : MI := (yX11_raise, cX11_raise, 2, none)
theorem pn_X11_raise : plainFor yX11_raise = true := by decide +kernel
theorem mc_X11_raise : Cond.code yX11_raise cX11_raise 2 none ∈ lwG := lwc_4 142 rfl (by decide +kernel)
theorem mi_X11_raise : Cond.instanceMethod yX11_raise ∈ lwG := lwc_4 141 (by decide +kernel) (by decide +kernel)
theorem ms_X11_raise : Cond.selects RX11 yX11_raise yX11_raise ∈ lwG := lwG_of 33 (by decide +kernel) (by decide +kernel)
abbrev M_X11_freeze : MI := (yX11_freeze, cX11_freeze, 2, none)
theorem pn_X11_freeze : plainFor yX11_freeze = true := by decide +kernel
theorem mc_X11_freeze : Cond.code yX11_freeze cX11_freeze 2 none ∈ lwG := lwc_4 191 rfl (by decide +kernel)
theorem mi_X11_freeze : Cond.instanceMethod yX11_freeze ∈ lwG := lwc_4 190 (by decide +kernel) (by decide +kernel)
theorem ms_X11_freeze : Cond.selects RX11 yX11_freeze yX11_freeze ∈ lwG := lwG_of 34 (by decide +kernel) (by decide +kernel)
abbrev M_X11_bears : MI := (yX11_bears, cX11_bears, 6, (some .int))
theorem pn_X11_bears : plainFor yX11_bears = true := by decide +kernel
theorem mc_X11_bears : Cond.code yX11_bears cX11_bears 6 (some .int) ∈ lwG := lwc_4 103 rfl (by decide +kernel)
theorem mi_X11_bears : Cond.instanceMethod yX11_bears ∈ lwG := lwc_4 101 (by decide +kernel) (by decide +kernel)
theorem ms_X11_bears : Cond.selects RX11 yX11_bears yX11_bears ∈ lwG := lwc_4 102 (by decide +kernel) (by decide +kernel)
abbrev M_X11_loadAt : MI := (yX11_loadAt, cX11_loadAt, 2, (some .int))
theorem pn_X11_loadAt : plainFor yX11_loadAt = true := by decide +kernel
theorem mc_X11_loadAt : Cond.code yX11_loadAt cX11_loadAt 2 (some .int) ∈ lwG := lwc_4 99 rfl (by decide +kernel)
theorem mi_X11_loadAt : Cond.instanceMethod yX11_loadAt ∈ lwG := lwc_4 97 (by decide +kernel) (by decide +kernel)
theorem ms_X11_loadAt : Cond.selects RX11 yX11_loadAt yX11_loadAt ∈ lwG := lwc_4 98 (by decide +kernel) (by decide +kernel)
abbrev M_X11_weakSpot : MI := (yX11_weakSpot, cX11_weakSpot, 5, (some .int))
theorem pn_X11_weakSpot : plainFor yX11_weakSpot = true := by decide +kernel
theorem mc_X11_weakSpot : Cond.code yX11_weakSpot cX11_weakSpot 5 (some .int) ∈ lwG := lwc_4 199 rfl (by decide +kernel)
theorem mi_X11_weakSpot : Cond.instanceMethod yX11_weakSpot ∈ lwG := lwc_4 197 (by decide +kernel) (by decide +kernel)
theorem ms_X11_weakSpot : Cond.selects RX11 yX11_weakSpot yX11_weakSpot ∈ lwG := lwc_4 198 (by decide +kernel) (by decide +kernel)
abbrev M_X11_lift : MI := (yX11_lift, cX11_lift, 3, none)
theorem pn_X11_lift : plainFor yX11_lift = true := by decide +kernel
theorem mc_X11_lift : Cond.code yX11_lift cX11_lift 3 none ∈ lwG := lwc_4 207 rfl (by decide +kernel)
theorem mi_X11_lift : Cond.instanceMethod yX11_lift ∈ lwG := lwc_4 205 (by decide +kernel) (by decide +kernel)
theorem ms_X11_lift : Cond.selects RX11 yX11_lift yX11_lift ∈ lwG := lwc_4 206 (by decide +kernel) (by decide +kernel)
abbrev M_X11_keep : MI := (yX11_keep, cX11_keep, 4, none)
theorem pn_X11_keep : plainFor yX11_keep = true := by decide +kernel
theorem mc_X11_keep : Cond.code yX11_keep cX11_keep 4 none ∈ lwG := lwc_4 211 rfl (by decide +kernel)
theorem mi_X11_keep : Cond.instanceMethod yX11_keep ∈ lwG := lwc_4 210 (by decide +kernel) (by decide +kernel)
theorem ms_X11_keep : Cond.selects RX11 yX11_keep yX11_keep ∈ lwG := lwG_of 37 (by decide +kernel) (by decide +kernel)
abbrev M_X11_dropFrom : MI := (yX11_dropFrom, cX11_dropFrom, 5, none)
theorem pn_X11_dropFrom : plainFor yX11_dropFrom = true := by decide +kernel
theorem mc_X11_dropFrom : Cond.code yX11_dropFrom cX11_dropFrom 5 none ∈ lwG := lwc_4 203 rfl (by decide +kernel)
theorem mi_X11_dropFrom : Cond.instanceMethod yX11_dropFrom ∈ lwG := lwc_4 202 (by decide +kernel) (by decide +kernel)
theorem ms_X11_dropFrom : Cond.selects RX11 yX11_dropFrom yX11_dropFrom ∈ lwG := lwG_of 36 (by decide +kernel) (by decide +kernel)
abbrev M_X11_fall : MI := (yX11_fall, cX11_fall, 4, none)
theorem pn_X11_fall : plainFor yX11_fall = true := by decide +kernel
theorem mc_X11_fall : Cond.code yX11_fall cX11_fall 4 none ∈ lwG := lwc_4 195 rfl (by decide +kernel)
theorem mi_X11_fall : Cond.instanceMethod yX11_fall ∈ lwG := lwc_4 194 (by decide +kernel) (by decide +kernel)
theorem ms_X11_fall : Cond.selects RX11 yX11_fall yX11_fall ∈ lwG := lwG_of 35 (by decide +kernel) (by decide +kernel)
abbrev M_X11_freeSpot : MI := (yX11_freeSpot, cX11_freeSpot, 4, (some .int))
theorem pn_X11_freeSpot : plainFor yX11_freeSpot = true := by decide +kernel
theorem mc_X11_freeSpot : Cond.code yX11_freeSpot cX11_freeSpot 4 (some .int) ∈ lwG := lwc_4 219 rfl (by decide +kernel)
theorem mi_X11_freeSpot : Cond.instanceMethod yX11_freeSpot ∈ lwG := lwc_4 218 (by decide +kernel) (by decide +kernel)
theorem ms_X11_freeSpot : Cond.selects RX11 yX11_freeSpot yX11_freeSpot ∈ lwG := lwG_of 38 (by decide +kernel) (by decide +kernel)
abbrev M_X11_leftOf : MI := (yX11_leftOf, cX11_leftOf, 2, (some .int))
theorem pn_X11_leftOf : plainFor yX11_leftOf = true := by decide +kernel
theorem mc_X11_leftOf : Cond.code yX11_leftOf cX11_leftOf 2 (some .int) ∈ lwG := lwc_4 227 rfl (by decide +kernel)
theorem mi_X11_leftOf : Cond.instanceMethod yX11_leftOf ∈ lwG := lwc_4 226 (by decide +kernel) (by decide +kernel)
theorem ms_X11_leftOf : Cond.selects RX11 yX11_leftOf yX11_leftOf ∈ lwG := lwG_of 40 (by decide +kernel) (by decide +kernel)
abbrev M_X11_rightOf : MI := (yX11_rightOf, cX11_rightOf, 2, (some .int))
theorem pn_X11_rightOf : plainFor yX11_rightOf = true := by decide +kernel
theorem mc_X11_rightOf : Cond.code yX11_rightOf cX11_rightOf 2 (some .int) ∈ lwG := lwc_4 231 rfl (by decide +kernel)
theorem mi_X11_rightOf : Cond.instanceMethod yX11_rightOf ∈ lwG := lwc_4 230 (by decide +kernel) (by decide +kernel)
theorem ms_X11_rightOf : Cond.selects RX11 yX11_rightOf yX11_rightOf ∈ lwG := lwG_of 41 (by decide +kernel) (by decide +kernel)
abbrev M_X11_isPeaceful : MI := (yX11_isPeaceful, cX11_isPeaceful, 6, (some .boolean))
theorem pn_X11_isPeaceful : plainFor yX11_isPeaceful = true := by decide +kernel
theorem mc_X11_isPeaceful : Cond.code yX11_isPeaceful cX11_isPeaceful 6 (some .boolean) ∈ lwG := lwc_4 223 rfl (by decide +kernel)
theorem mi_X11_isPeaceful : Cond.instanceMethod yX11_isPeaceful ∈ lwG := lwc_4 222 (by decide +kernel) (by decide +kernel)
theorem ms_X11_isPeaceful : Cond.selects RX11 yX11_isPeaceful yX11_isPeaceful ∈ lwG := lwG_of 39 (by decide +kernel) (by decide +kernel)
abbrev M_X11_mayLie : MI := (yX11_mayLie, cX11_mayLie, 6, (some .boolean))
theorem pn_X11_mayLie : plainFor yX11_mayLie = true := by decide +kernel
theorem mc_X11_mayLie : Cond.code yX11_mayLie cX11_mayLie 6 (some .boolean) ∈ lwG := lwc_4 236 rfl (by decide +kernel)
theorem mi_X11_mayLie : Cond.instanceMethod yX11_mayLie ∈ lwG := lwc_4 235 (by decide +kernel) (by decide +kernel)
theorem ms_X11_mayLie : Cond.selects RX11 yX11_mayLie yX11_mayLie ∈ lwG := lwG_of 42 (by decide +kernel) (by decide +kernel)
abbrev M_X11_buildIn : MI := (yX11_buildIn, cX11_buildIn, 4, (some .boolean))
theorem pn_X11_buildIn : plainFor yX11_buildIn = true := by decide +kernel
theorem mc_X11_buildIn : Cond.code yX11_buildIn cX11_buildIn 4 (some .boolean) ∈ lwG := lwc_4 215 rfl (by decide +kernel)
theorem mi_X11_buildIn : Cond.instanceMethod yX11_buildIn ∈ lwG := lwc_4 213 (by decide +kernel) (by decide +kernel)
theorem ms_X11_buildIn : Cond.selects RX11 yX11_buildIn yX11_buildIn ∈ lwG := lwc_4 214 (by decide +kernel) (by decide +kernel)
abbrev M_X11_passYear : MI := (yX11_passYear, cX11_passYear, 3, none)
theorem pn_X11_passYear : plainFor yX11_passYear = true := by decide +kernel
theorem mc_X11_passYear : Cond.code yX11_passYear cX11_passYear 3 none ∈ lwG := lwc_4 138 rfl (by decide +kernel)
theorem mi_X11_passYear : Cond.instanceMethod yX11_passYear ∈ lwG := lwc_4 136 (by decide +kernel) (by decide +kernel)
theorem ms_X11_passYear : Cond.selects RX11 yX11_passYear yX11_passYear ∈ lwG := lwc_4 137 (by decide +kernel) (by decide +kernel)
abbrev M_X11_bitsAt : MI := (yX11_bitsAt, cX11_bitsAt, 4, (some .int))
theorem pn_X11_bitsAt : plainFor yX11_bitsAt = true := by decide +kernel
theorem mc_X11_bitsAt : Cond.code yX11_bitsAt cX11_bitsAt 4 (some .int) ∈ lwG := lwc_4 36 rfl (by decide +kernel)
theorem mi_X11_bitsAt : Cond.instanceMethod yX11_bitsAt ∈ lwG := lwc_4 34 (by decide +kernel) (by decide +kernel)
theorem ms_X11_bitsAt : Cond.selects RX11 yX11_bitsAt yX11_bitsAt ∈ lwG := lwc_4 35 (by decide +kernel) (by decide +kernel)
abbrev M_J6_bitCount_0f7a4 : MI := (yJ6_bitCount_0f7a4, cJ6_bitCount_0f7a4, 1, (some .int))
theorem pn_J6_bitCount_0f7a4 : plainFor yJ6_bitCount_0f7a4 = true := by decide +kernel
theorem mc_J6_bitCount_0f7a4 : Cond.code yJ6_bitCount_0f7a4 cJ6_bitCount_0f7a4 1 (some .int) ∈ lwG := lwc_4 29 rfl (by decide +kernel)
theorem mi_J6_bitCount_0f7a4 : Cond.static yJ6_bitCount_0f7a4 ∈ lwG := lwc_4 28 (by decide +kernel) (by decide +kernel)
abbrev M_X5_goAhead : MI := (yX5_goAhead, cX5_goAhead, 5, (some .int))
theorem pn_X5_goAhead : plainFor yX5_goAhead = true := by decide +kernel
theorem mc_X5_goAhead : Cond.code yX5_goAhead cX5_goAhead 5 (some .int) ∈ lwG := lwc_4 130 rfl (by decide +kernel)
theorem mi_X5_goAhead : Cond.instanceMethod yX5_goAhead ∈ lwG := lwc_4 128 (by decide +kernel) (by decide +kernel)
