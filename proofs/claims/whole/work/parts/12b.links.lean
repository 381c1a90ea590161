theorem ms_X5_goAhead : Cond.selects RX5 yX5_goAhead yX5_goAhead ∈ lwG := lwc_4 129 (by decide +kernel) (by decide +kernel)
abbrev M_X5_firstBuilt : MI := (yX5_firstBuilt, cX5_firstBuilt, 4, (some .int))
theorem pn_X5_firstBuilt : plainFor yX5_firstBuilt = true := by decide +kernel
theorem mc_X5_firstBuilt : Cond.code yX5_firstBuilt cX5_firstBuilt 4 (some .int) ∈ lwG := lwc_5 21 rfl (by decide +kernel)
theorem mi_X5_firstBuilt : Cond.instanceMethod yX5_firstBuilt ∈ lwG := lwc_5 19 (by decide +kernel) (by decide +kernel)
theorem ms_X5_firstBuilt : Cond.selects RX5 yX5_firstBuilt yX5_firstBuilt ∈ lwG := lwc_5 20 (by decide +kernel) (by decide +kernel)
abbrev M_X11_pullOut : MI := (yX11_pullOut, cX11_pullOut, 2, none)
theorem pn_X11_pullOut : plainFor yX11_pullOut = true := by decide +kernel
theorem mc_X11_pullOut : Cond.code yX11_pullOut cX11_pullOut 2 none ∈ lwG := lwc_5 33 rfl (by decide +kernel)
theorem mi_X11_pullOut : Cond.instanceMethod yX11_pullOut ∈ lwG := lwc_5 31 (by decide +kernel) (by decide +kernel)
theorem ms_X11_pullOut : Cond.selects RX11 yX11_pullOut yX11_pullOut ∈ lwG := lwc_5 32 (by decide +kernel) (by decide +kernel)
abbrev M_X5_comingDown : MI := (yX5_comingDown, cX5_comingDown, 3, (some .int))
theorem pn_X5_comingDown : plainFor yX5_comingDown = true := by decide +kernel
theorem mc_X5_comingDown : Cond.code yX5_comingDown cX5_comingDown 3 (some .int) ∈ lwG := lwc_5 29 rfl (by decide +kernel)
theorem mi_X5_comingDown : Cond.instanceMethod yX5_comingDown ∈ lwG := lwc_5 27 (by decide +kernel) (by decide +kernel)
theorem ms_X5_comingDown : Cond.selects RX5 yX5_comingDown yX5_comingDown ∈ lwG := lwc_5 28 (by decide +kernel) (by decide +kernel)
abbrev M_X5_holdsPropped : MI := (yX5_holdsPropped, cX5_holdsPropped, 7, (some .boolean))
theorem pn_X5_holdsPropped : plainFor yX5_holdsPropped = true := by decide +kernel
theorem mc_X5_holdsPropped : Cond.code yX5_holdsPropped cX5_holdsPropped 7 (some .boolean) ∈ lwG := lwc_5 46 rfl (by decide +kernel)
theorem mi_X5_holdsPropped : Cond.static yX5_holdsPropped ∈ lwG := lwc_5 45 (by decide +kernel) (by decide +kernel)
abbrev M_X5_fewestProps : MI := (yX5_fewestProps, cX5_fewestProps, 7, (some .int))
theorem pn_X5_fewestProps : plainFor yX5_fewestProps = true := by decide +kernel
theorem mc_X5_fewestProps : Cond.code yX5_fewestProps cX5_fewestProps 7 (some .int) ∈ lwG := lwc_5 41 rfl (by decide +kernel)
theorem mi_X5_fewestProps : Cond.instanceMethod yX5_fewestProps ∈ lwG := lwc_5 39 (by decide +kernel) (by decide +kernel)
theorem ms_X5_fewestProps : Cond.selects RX5 yX5_fewestProps yX5_fewestProps ∈ lwG := lwc_5 40 (by decide +kernel) (by decide +kernel)
abbrev M_X11_strongWhenDone : MI := (yX11_strongWhenDone, cX11_strongWhenDone, 5, (some .int))
theorem pn_X11_strongWhenDone : plainFor yX11_strongWhenDone = true := by decide +kernel
theorem mc_X11_strongWhenDone : Cond.code yX11_strongWhenDone cX11_strongWhenDone 5 (some .int) ∈ lwG := lwc_5 62 rfl (by decide +kernel)
theorem mi_X11_strongWhenDone : Cond.instanceMethod yX11_strongWhenDone ∈ lwG := lwc_5 60 (by decide +kernel) (by decide +kernel)
theorem ms_X11_strongWhenDone : Cond.selects RX11 yX11_strongWhenDone yX11_strongWhenDone ∈ lwG := lwc_5 61 (by decide +kernel) (by decide +kernel)
abbrev M_X5_strongestHome : MI := (yX5_strongestHome, cX5_strongestHome, 7, (some .int))
theorem pn_X5_strongestHome : plainFor yX5_strongestHome = true := by decide +kernel
theorem mc_X5_strongestHome : Cond.code yX5_strongestHome cX5_strongestHome 7 (some .int) ∈ lwG := lwc_5 57 rfl (by decide +kernel)
theorem mi_X5_strongestHome : Cond.instanceMethod yX5_strongestHome ∈ lwG := lwc_5 55 (by decide +kernel) (by decide +kernel)
theorem ms_X5_strongestHome : Cond.selects RX5 yX5_strongestHome yX5_strongestHome ∈ lwG := lwc_5 56 (by decide +kernel) (by decide +kernel)
abbrev M_X5_orderFrom : MI := (yX5_orderFrom, cX5_orderFrom, 7, none)
theorem pn_X5_orderFrom : plainFor yX5_orderFrom = true := by decide +kernel
theorem mc_X5_orderFrom : Cond.code yX5_orderFrom cX5_orderFrom 7 none ∈ lwG := lwc_5 75 rfl (by decide +kernel)
theorem mi_X5_orderFrom : Cond.instanceMethod yX5_orderFrom ∈ lwG := lwc_5 74 (by decide +kernel) (by decide +kernel)
theorem ms_X5_orderFrom : Cond.selects RX5 yX5_orderFrom yX5_orderFrom ∈ lwG := lwG_of 43 (by decide +kernel) (by decide +kernel)
abbrev M_X5_findOrder : MI := (yX5_findOrder, cX5_findOrder, 3, none)
theorem pn_X5_findOrder : plainFor yX5_findOrder = true := by decide +kernel
theorem mc_X5_findOrder : Cond.code yX5_findOrder cX5_findOrder 3 none ∈ lwG := lwc_5 71 rfl (by decide +kernel)
theorem mi_X5_findOrder : Cond.instanceMethod yX5_findOrder ∈ lwG := lwc_5 69 (by decide +kernel) (by decide +kernel)
theorem ms_X5_findOrder : Cond.selects RX5 yX5_findOrder yX5_findOrder ∈ lwG := lwc_5 70 (by decide +kernel) (by decide +kernel)
abbrev M_X5_winsFrom : MI := (yX5_winsFrom, cX5_winsFrom, 8, (some .boolean))
theorem pn_X5_winsFrom : plainFor yX5_winsFrom = true := by decide +kernel
theorem mc_X5_winsFrom : Cond.code yX5_winsFrom cX5_winsFrom 8 (some .boolean) ∈ lwG := lwc_5 135 rfl (by decide +kernel)
theorem mi_X5_winsFrom : Cond.instanceMethod yX5_winsFrom ∈ lwG := lwc_5 134 (by decide +kernel) (by decide +kernel)
theorem ms_X5_winsFrom : Cond.selects RX5 yX5_winsFrom yX5_winsFrom ∈ lwG := lwG_of 47 (by decide +kernel) (by decide +kernel)
abbrev M_X5_firstWins : MI := (yX5_firstWins, cX5_firstWins, 3, (some .boolean))
theorem pn_X5_firstWins : plainFor yX5_firstWins = true := by decide +kernel
theorem mc_X5_firstWins : Cond.code yX5_firstWins cX5_firstWins 3 (some .boolean) ∈ lwG := lwc_5 131 rfl (by decide +kernel)
theorem mi_X5_firstWins : Cond.instanceMethod yX5_firstWins ∈ lwG := lwc_5 129 (by decide +kernel) (by decide +kernel)
theorem ms_X5_firstWins : Cond.selects RX5 yX5_firstWins yX5_firstWins ∈ lwG := lwc_5 130 (by decide +kernel) (by decide +kernel)
abbrev M_X7_forget : MI := (yX7_forget, cX7_forget, 2, none)
theorem pn_X7_forget : plainFor yX7_forget = true := by decide +kernel
theorem mc_X7_forget : Cond.code yX7_forget cX7_forget 2 none ∈ lwG := lwc_4 14 rfl (by decide +kernel)
theorem mi_X7_forget : Cond.instanceMethod yX7_forget ∈ lwG := lwc_4 12 (by decide +kernel) (by decide +kernel)
theorem ms_X7_forget : Cond.selects RX7 yX7_forget yX7_forget ∈ lwG := lwc_4 13 (by decide +kernel) (by decide +kernel)
abbrev M_X9_span : MI := (yX9_span, cX9_span, 1, (some .int))
theorem pn_X9_span : plainFor yX9_span = true := by decide +kernel
theorem mc_X9_span : Cond.code yX9_span cX9_span 1 (some .int) ∈ lwG := lwc_5 96 rfl (by decide +kernel)
theorem mi_X9_span : Cond.instanceMethod yX9_span ∈ lwG := lwc_5 94 (by decide +kernel) (by decide +kernel)
theorem ms_X9_span : Cond.selects RX9 yX9_span yX9_span ∈ lwG := lwc_5 95 (by decide +kernel) (by decide +kernel)
abbrev M_X7_raise : MI := (yX7_raise, cX7_raise, 5, none)
theorem pn_X7_raise : plainFor yX7_raise = true := by decide +kernel
theorem mc_X7_raise : Cond.code yX7_raise cX7_raise 5 none ∈ lwG := lwc_5 104 rfl (by decide +kernel)
theorem mi_X7_raise : Cond.instanceMethod yX7_raise ∈ lwG := lwc_5 103 (by decide +kernel) (by decide +kernel)
theorem ms_X7_raise : Cond.selects RX7 yX7_raise yX7_raise ∈ lwG := lwG_of 45 (by decide +kernel) (by decide +kernel)
abbrev M_X7_canBe : MI := (yX7_canBe, cX7_canBe, 6, (some .boolean))
theorem pn_X7_canBe : plainFor yX7_canBe = true := by decide +kernel
theorem mc_X7_canBe : Cond.code yX7_canBe cX7_canBe 6 (some .boolean) ∈ lwG := lwc_5 100 rfl (by decide +kernel)
theorem mi_X7_canBe : Cond.instanceMethod yX7_canBe ∈ lwG := lwc_5 99 (by decide +kernel) (by decide +kernel)
theorem ms_X7_canBe : Cond.selects RX7 yX7_canBe yX7_canBe ∈ lwG := lwG_of 44 (by decide +kernel) (by decide +kernel)
abbrev M_X7_take : MI := (yX7_take, cX7_take, 7, (some .boolean))
theorem pn_X7_take : plainFor yX7_take = true := by decide +kernel
theorem mc_X7_take : Cond.code yX7_take cX7_take 7 (some .boolean) ∈ lwG := lwc_5 91 rfl (by decide +kernel)
theorem mi_X7_take : Cond.instanceMethod yX7_take ∈ lwG := lwc_5 89 (by decide +kernel) (by decide +kernel)
theorem ms_X7_take : Cond.selects RX7 yX7_take yX7_take ∈ lwG := lwc_5 90 (by decide +kernel) (by decide +kernel)
abbrev M_X7_mostAlike : MI := (yX7_mostAlike, cX7_mostAlike, 6, (some .int))
theorem pn_X7_mostAlike : plainFor yX7_mostAlike = true := by decide +kernel
theorem mc_X7_mostAlike : Cond.code yX7_mostAlike cX7_mostAlike 6 (some .int) ∈ lwG := lwc_5 122 rfl (by decide +kernel)
theorem mi_X7_mostAlike : Cond.instanceMethod yX7_mostAlike ∈ lwG := lwc_5 121 (by decide +kernel) (by decide +kernel)
theorem ms_X7_mostAlike : Cond.selects RX7 yX7_mostAlike yX7_mostAlike ∈ lwG := lwG_of 46 (by decide +kernel) (by decide +kernel)
abbrev M_X7_telling : MI := (yX7_telling, cX7_telling, 6, (some .int))
theorem pn_X7_telling : plainFor yX7_telling = true := by decide +kernel
theorem mc_X7_telling : Cond.code yX7_telling cX7_telling 6 (some .int) ∈ lwG := lwc_5 117 rfl (by decide +kernel)
theorem mi_X7_telling : Cond.instanceMethod yX7_telling ∈ lwG := lwc_5 115 (by decide +kernel) (by decide +kernel)
theorem ms_X7_telling : Cond.selects RX7 yX7_telling yX7_telling ∈ lwG := lwc_5 116 (by decide +kernel) (by decide +kernel)
abbrev M_X8_add : MI := (yX8_add, cX8_add, 3, none)
theorem pn_X8_add : plainFor yX8_add = true := by decide +kernel
theorem mc_X8_add : Cond.code yX8_add cX8_add 3 none ∈ lwG := lwc_2 226 rfl (by decide +kernel)
theorem mi_X8_add : Cond.instanceMethod yX8_add ∈ lwG := lwc_2 224 (by decide +kernel) (by decide +kernel)
theorem ms_X8_add : Cond.selects RX8 yX8_add yX8_add ∈ lwG := lwc_2 225 (by decide +kernel) (by decide +kernel)
abbrev M_X11_livingAt : MI := (yX11_livingAt, cX11_livingAt, 4, (some .int))
theorem pn_X11_livingAt : plainFor yX11_livingAt = true := by decide +kernel
theorem mc_X11_livingAt : Cond.code yX11_livingAt cX11_livingAt 4 (some .int) ∈ lwG := lwc_4 70 rfl (by decide +kernel)
theorem mi_X11_livingAt : Cond.instanceMethod yX11_livingAt ∈ lwG := lwc_4 68 (by decide +kernel) (by decide +kernel)
theorem ms_X11_livingAt : Cond.selects RX11 yX11_livingAt yX11_livingAt ∈ lwG := lwc_4 69 (by decide +kernel) (by decide +kernel)
abbrev M_X11_strongTogether : MI := (yX11_strongTogether, cX11_strongTogether, 3, (some .int))
theorem pn_X11_strongTogether : plainFor yX11_strongTogether = true := by decide +kernel
theorem mc_X11_strongTogether : Cond.code yX11_strongTogether cX11_strongTogether 3 (some .int) ∈ lwG := lwc_5 13 rfl (by decide +kernel)
theorem mi_X11_strongTogether : Cond.instanceMethod yX11_strongTogether ∈ lwG := lwc_5 11 (by decide +kernel) (by decide +kernel)
theorem ms_X11_strongTogether : Cond.selects RX11 yX11_strongTogether yX11_strongTogether ∈ lwG := lwc_5 12 (by decide +kernel) (by decide +kernel)
abbrev M_X11_stonesIn : MI := (yX11_stonesIn, cX11_stonesIn, 4, (some .int))
theorem pn_X11_stonesIn : plainFor yX11_stonesIn = true := by decide +kernel
theorem mc_X11_stonesIn : Cond.code yX11_stonesIn cX11_stonesIn 4 (some .int) ∈ lwG := lwc_4 58 rfl (by decide +kernel)
theorem mi_X11_stonesIn : Cond.instanceMethod yX11_stonesIn ∈ lwG := lwc_4 56 (by decide +kernel) (by decide +kernel)
theorem ms_X11_stonesIn : Cond.selects RX11 yX11_stonesIn yX11_stonesIn ∈ lwG := lwc_4 57 (by decide +kernel) (by decide +kernel)
abbrev M_X11_fullWalls : MI := (yX11_fullWalls, cX11_fullWalls, 3, (some .int))
theorem pn_X11_fullWalls : plainFor yX11_fullWalls = true := by decide +kernel
theorem mc_X11_fullWalls : Cond.code yX11_fullWalls cX11_fullWalls 3 (some .int) ∈ lwG := lwc_4 53 rfl (by decide +kernel)
theorem mi_X11_fullWalls : Cond.instanceMethod yX11_fullWalls ∈ lwG := lwc_4 51 (by decide +kernel) (by decide +kernel)
theorem ms_X11_fullWalls : Cond.selects RX11 yX11_fullWalls yX11_fullWalls ∈ lwG := lwc_4 52 (by decide +kernel) (by decide +kernel)
abbrev M_X11_lying : MI := (yX11_lying, cX11_lying, 4, (some .int))
theorem pn_X11_lying : plainFor yX11_lying = true := by decide +kernel
theorem mc_X11_lying : Cond.code yX11_lying cX11_lying 4 (some .int) ∈ lwG := lwc_4 92 rfl (by decide +kernel)
theorem mi_X11_lying : Cond.instanceMethod yX11_lying ∈ lwG := lwc_4 90 (by decide +kernel) (by decide +kernel)
theorem ms_X11_lying : Cond.selects RX11 yX11_lying yX11_lying ∈ lwG := lwc_4 91 (by decide +kernel) (by decide +kernel)
abbrev M_X12_refuse : MI := (yX12_refuse, cX12_refuse, 2, (some .int))
theorem pn_X12_refuse : plainFor yX12_refuse = true := by decide +kernel
theorem mc_X12_refuse : Cond.code yX12_refuse cX12_refuse 2 (some .int) ∈ lwG := lwc_2 222 rfl (by decide +kernel)
theorem mi_X12_refuse : Cond.instanceMethod yX12_refuse ∈ lwG := lwc_2 221 (by decide +kernel) (by decide +kernel)
theorem ms_X12_refuse : Cond.selects RX12 yX12_refuse yX12_refuse ∈ lwG := lwG_of 1 (by decide +kernel) (by decide +kernel)
abbrev M_X12_feed : MI := (yX12_feed, cX12_feed, 6, (some .int))
theorem pn_X12_feed : plainFor yX12_feed = true := by decide +kernel
theorem mc_X12_feed : Cond.code yX12_feed cX12_feed 6 (some .int) ∈ lwG := lwc_2 218 rfl (by decide +kernel)
theorem mi_X12_feed : Cond.instanceMethod yX12_feed ∈ lwG := lwc_2 216 (by decide +kernel) (by decide +kernel)
theorem ms_X12_feed : Cond.selects RX12 yX12_feed yX12_feed ∈ lwG := lwc_2 217 (by decide +kernel) (by decide +kernel)
abbrev M_X12_end : MI := (yX12_end, cX12_end, 2, (some .boolean))
theorem pn_X12_end : plainFor yX12_end = true := by decide +kernel
theorem mc_X12_end : Cond.code yX12_end cX12_end 2 (some .boolean) ∈ lwG := lwc_2 230 rfl (by decide +kernel)
theorem mi_X12_end : Cond.instanceMethod yX12_end ∈ lwG := lwc_2 228 (by decide +kernel) (by decide +kernel)
theorem ms_X12_end : Cond.selects RX12 yX12_end yX12_end ∈ lwG := lwc_2 229 (by decide +kernel) (by decide +kernel)
abbrev M_X12_settleIn : MI := (yX12_settleIn, cX12_settleIn, 2, none)
theorem pn_X12_settleIn : plainFor yX12_settleIn = true := by decide +kernel
theorem mc_X12_settleIn : Cond.code yX12_settleIn cX12_settleIn 2 none ∈ lwG := lwc_4 5 rfl (by decide +kernel)
theorem mi_X12_settleIn : Cond.instanceMethod yX12_settleIn ∈ lwG := lwc_4 4 (by decide +kernel) (by decide +kernel)
theorem ms_X12_settleIn : Cond.selects RX12 yX12_settleIn yX12_settleIn ∈ lwG := lwG_of 29 (by decide +kernel) (by decide +kernel)
abbrev M_X12_town : MI := (yX12_town, cX12_town, 3, (some .int))
theorem pn_X12_town : plainFor yX12_town = true := by decide +kernel
theorem mc_X12_town : Cond.code yX12_town cX12_town 3 (some .int) ∈ lwG := lwc_2 234 rfl (by decide +kernel)
theorem mi_X12_town : Cond.instanceMethod yX12_town ∈ lwG := lwc_2 232 (by decide +kernel) (by decide +kernel)
theorem ms_X12_town : Cond.selects RX12 yX12_town yX12_town ∈ lwG := lwc_2 233 (by decide +kernel) (by decide +kernel)
abbrev M_X12_fault : MI := (yX12_fault, cX12_fault, 2, (some .int))
theorem pn_X12_fault : plainFor yX12_fault = true := by decide +kernel
theorem mc_X12_fault : Cond.code yX12_fault cX12_fault 2 (some .int) ∈ lwG := lwc_4 19 rfl (by decide +kernel)
theorem mi_X12_fault : Cond.instanceMethod yX12_fault ∈ lwG := lwc_4 17 (by decide +kernel) (by decide +kernel)
theorem ms_X12_fault : Cond.selects RX12 yX12_fault yX12_fault ∈ lwG := lwc_4 18 (by decide +kernel) (by decide +kernel)
abbrev M_X12_has : MI := (yX12_has, cX12_has, 2, (some .int))
theorem pn_X12_has : plainFor yX12_has = true := by decide +kernel
theorem mc_X12_has : Cond.code yX12_has cX12_has 2 (some .int) ∈ lwG := lwc_4 23 rfl (by decide +kernel)
theorem mi_X12_has : Cond.instanceMethod yX12_has ∈ lwG := lwc_4 21 (by decide +kernel) (by decide +kernel)
theorem ms_X12_has : Cond.selects RX12 yX12_has yX12_has ∈ lwG := lwc_4 22 (by decide +kernel) (by decide +kernel)
abbrev M_X12_letter : MI := (yX12_letter, cX12_letter, 6, (some .int))
theorem pn_X12_letter : plainFor yX12_letter = true := by decide +kernel
theorem mc_X12_letter : Cond.code yX12_letter cX12_letter 6 (some .int) ∈ lwG := lwc_4 62 rfl (by decide +kernel)
theorem mi_X12_letter : Cond.instanceMethod yX12_letter ∈ lwG := lwc_4 60 (by decide +kernel) (by decide +kernel)
theorem ms_X12_letter : Cond.selects RX12 yX12_letter yX12_letter ∈ lwG := lwc_4 61 (by decide +kernel) (by decide +kernel)
abbrev M_X12_home : MI := (yX12_home, cX12_home, 3, (some .int))
theorem pn_X12_home : plainFor yX12_home = true := by decide +kernel
theorem mc_X12_home : Cond.code yX12_home cX12_home 3 (some .int) ∈ lwG := lwc_4 66 rfl (by decide +kernel)
theorem mi_X12_home : Cond.instanceMethod yX12_home ∈ lwG := lwc_4 64 (by decide +kernel) (by decide +kernel)
theorem ms_X12_home : Cond.selects RX12 yX12_home yX12_home ∈ lwG := lwc_4 65 (by decide +kernel) (by decide +kernel)
abbrev M_X12_isChild : MI := (yX12_isChild, cX12_isChild, 2, (some .boolean))
theorem pn_X12_isChild : plainFor yX12_isChild = true := by decide +kernel
theorem mc_X12_isChild : Cond.code yX12_isChild cX12_isChild 2 (some .boolean) ∈ lwG := lwc_4 78 rfl (by decide +kernel)
theorem mi_X12_isChild : Cond.instanceMethod yX12_isChild ∈ lwG := lwc_4 77 (by decide +kernel) (by decide +kernel)
theorem ms_X12_isChild : Cond.selects RX12 yX12_isChild yX12_isChild ∈ lwG := lwG_of 30 (by decide +kernel) (by decide +kernel)
abbrev M_X12_child : MI := (yX12_child, cX12_child, 3, (some .int))
theorem pn_X12_child : plainFor yX12_child = true := by decide +kernel
theorem mc_X12_child : Cond.code yX12_child cX12_child 3 (some .int) ∈ lwG := lwc_4 74 rfl (by decide +kernel)
theorem mi_X12_child : Cond.instanceMethod yX12_child ∈ lwG := lwc_4 72 (by decide +kernel) (by decide +kernel)
theorem ms_X12_child : Cond.selects RX12 yX12_child yX12_child ∈ lwG := lwc_4 73 (by decide +kernel) (by decide +kernel)
abbrev M_X12_isBuilt : MI := (yX12_isBuilt, cX12_isBuilt, 2, (some .boolean))
theorem pn_X12_isBuilt : plainFor yX12_isBuilt = true := by decide +kernel
theorem mc_X12_isBuilt : Cond.code yX12_isBuilt cX12_isBuilt 2 (some .boolean) ∈ lwG := lwc_4 88 rfl (by decide +kernel)
theorem mi_X12_isBuilt : Cond.instanceMethod yX12_isBuilt ∈ lwG := lwc_4 87 (by decide +kernel) (by decide +kernel)
theorem ms_X12_isBuilt : Cond.selects RX12 yX12_isBuilt yX12_isBuilt ∈ lwG := lwG_of 31 (by decide +kernel) (by decide +kernel)
abbrev M_X12_stone : MI := (yX12_stone, cX12_stone, 3, (some .int))
theorem pn_X12_stone : plainFor yX12_stone = true := by decide +kernel
theorem mc_X12_stone : Cond.code yX12_stone cX12_stone 3 (some .int) ∈ lwG := lwc_4 83 rfl (by decide +kernel)
theorem mi_X12_stone : Cond.instanceMethod yX12_stone ∈ lwG := lwc_4 81 (by decide +kernel) (by decide +kernel)
theorem ms_X12_stone : Cond.selects RX12 yX12_stone yX12_stone ∈ lwG := lwc_4 82 (by decide +kernel) (by decide +kernel)
abbrev M_X12_isWall : MI := (yX12_isWall, cX12_isWall, 2, (some .boolean))
theorem pn_X12_isWall : plainFor yX12_isWall = true := by decide +kernel
theorem mc_X12_isWall : Cond.code yX12_isWall cX12_isWall 2 (some .boolean) ∈ lwG := lwc_4 114 rfl (by decide +kernel)
theorem mi_X12_isWall : Cond.instanceMethod yX12_isWall ∈ lwG := lwc_4 113 (by decide +kernel) (by decide +kernel)
theorem ms_X12_isWall : Cond.selects RX12 yX12_isWall yX12_isWall ∈ lwG := lwG_of 32 (by decide +kernel) (by decide +kernel)
abbrev M_X12_wall : MI := (yX12_wall, cX12_wall, 4, (some .int))
theorem pn_X12_wall : plainFor yX12_wall = true := by decide +kernel
theorem mc_X12_wall : Cond.code yX12_wall cX12_wall 4 (some .int) ∈ lwG := lwc_4 110 rfl (by decide +kernel)
theorem mi_X12_wall : Cond.instanceMethod yX12_wall ∈ lwG := lwc_4 108 (by decide +kernel) (by decide +kernel)
theorem ms_X12_wall : Cond.selects RX12 yX12_wall yX12_wall ∈ lwG := lwc_4 109 (by decide +kernel) (by decide +kernel)
abbrev M_X12_at : MI := (yX12_at, cX12_at, 4, (some .int))
theorem pn_X12_at : plainFor yX12_at = true := by decide +kernel
theorem mc_X12_at : Cond.code yX12_at cX12_at 4 (some .int) ∈ lwG := lwc_4 119 rfl (by decide +kernel)
theorem mi_X12_at : Cond.instanceMethod yX12_at ∈ lwG := lwc_4 117 (by decide +kernel) (by decide +kernel)
theorem ms_X12_at : Cond.selects RX12 yX12_at yX12_at ∈ lwG := lwc_4 118 (by decide +kernel) (by decide +kernel)
abbrev M_X12_later : MI := (yX12_later, cX12_later, 3, (some .int))
theorem pn_X12_later : plainFor yX12_later = true := by decide +kernel
theorem mc_X12_later : Cond.code yX12_later cX12_later 3 (some .int) ∈ lwG := lwc_4 126 rfl (by decide +kernel)
theorem mi_X12_later : Cond.instanceMethod yX12_later ∈ lwG := lwc_4 124 (by decide +kernel) (by decide +kernel)
theorem ms_X12_later : Cond.selects RX12 yX12_later yX12_later ∈ lwG := lwc_4 125 (by decide +kernel) (by decide +kernel)
abbrev M_X12_built : MI := (yX12_built, cX12_built, 2, (some .int))
theorem pn_X12_built : plainFor yX12_built = true := by decide +kernel
theorem mc_X12_built : Cond.code yX12_built cX12_built 2 (some .int) ∈ lwG := lwc_5 17 rfl (by decide +kernel)
theorem mi_X12_built : Cond.instanceMethod yX12_built ∈ lwG := lwc_5 15 (by decide +kernel) (by decide +kernel)
theorem ms_X12_built : Cond.selects RX12 yX12_built yX12_built ∈ lwG := lwc_5 16 (by decide +kernel) (by decide +kernel)
abbrev M_X12_down : MI := (yX12_down, cX12_down, 2, (some .int))
theorem pn_X12_down : plainFor yX12_down = true := by decide +kernel
theorem mc_X12_down : Cond.code yX12_down cX12_down 2 (some .int) ∈ lwG := lwc_5 25 rfl (by decide +kernel)
theorem mi_X12_down : Cond.instanceMethod yX12_down ∈ lwG := lwc_5 23 (by decide +kernel) (by decide +kernel)
theorem ms_X12_down : Cond.selects RX12 yX12_down yX12_down ∈ lwG := lwc_5 24 (by decide +kernel) (by decide +kernel)
abbrev M_X12_props : MI := (yX12_props, cX12_props, 2, (some .int))
theorem pn_X12_props : plainFor yX12_props = true := by decide +kernel
theorem mc_X12_props : Cond.code yX12_props cX12_props 2 (some .int) ∈ lwG := lwc_5 37 rfl (by decide +kernel)
theorem mi_X12_props : Cond.instanceMethod yX12_props ∈ lwG := lwc_5 35 (by decide +kernel) (by decide +kernel)
theorem ms_X12_props : Cond.selects RX12 yX12_props yX12_props ∈ lwG := lwc_5 36 (by decide +kernel) (by decide +kernel)
abbrev M_X12_strongest : MI := (yX12_strongest, cX12_strongest, 4, (some .int))
theorem pn_X12_strongest : plainFor yX12_strongest = true := by decide +kernel
theorem mc_X12_strongest : Cond.code yX12_strongest cX12_strongest 4 (some .int) ∈ lwG := lwc_5 52 rfl (by decide +kernel)
theorem mi_X12_strongest : Cond.instanceMethod yX12_strongest ∈ lwG := lwc_5 50 (by decide +kernel) (by decide +kernel)
theorem ms_X12_strongest : Cond.selects RX12 yX12_strongest yX12_strongest ∈ lwG := lwc_5 51 (by decide +kernel) (by decide +kernel)
abbrev M_X12_order : MI := (yX12_order, cX12_order, 4, (some .int))
theorem pn_X12_order : plainFor yX12_order = true := by decide +kernel
theorem mc_X12_order : Cond.code yX12_order cX12_order 4 (some .int) ∈ lwG := lwc_5 67 rfl (by decide +kernel)
theorem mi_X12_order : Cond.instanceMethod yX12_order ∈ lwG := lwc_5 65 (by decide +kernel) (by decide +kernel)
theorem ms_X12_order : Cond.selects RX12 yX12_order yX12_order ∈ lwG := lwc_5 66 (by decide +kernel) (by decide +kernel)
abbrev M_X12_reconcile : MI := (yX12_reconcile, cX12_reconcile, 9, (some .int))
theorem pn_X12_reconcile : plainFor yX12_reconcile = true := by decide +kernel
theorem mc_X12_reconcile : Cond.code yX12_reconcile cX12_reconcile 9 (some .int) ∈ lwG := lwc_5 83 rfl (by decide +kernel)
theorem mi_X12_reconcile : Cond.instanceMethod yX12_reconcile ∈ lwG := lwc_5 81 (by decide +kernel) (by decide +kernel)
theorem ms_X12_reconcile : Cond.selects RX12 yX12_reconcile yX12_reconcile ∈ lwG := lwc_5 82 (by decide +kernel) (by decide +kernel)
abbrev M_X12_seams : MI := (yX12_seams, cX12_seams, 3, (some .int))
theorem pn_X12_seams : plainFor yX12_seams = true := by decide +kernel
theorem mc_X12_seams : Cond.code yX12_seams cX12_seams 3 (some .int) ∈ lwG := lwc_5 87 rfl (by decide +kernel)
theorem mi_X12_seams : Cond.instanceMethod yX12_seams ∈ lwG := lwc_5 85 (by decide +kernel) (by decide +kernel)
theorem ms_X12_seams : Cond.selects RX12 yX12_seams yX12_seams ∈ lwG := lwc_5 86 (by decide +kernel) (by decide +kernel)
abbrev M_X12_homes : MI := (yX12_homes, cX12_homes, 2, (some .int))
theorem pn_X12_homes : plainFor yX12_homes = true := by decide +kernel
theorem mc_X12_homes : Cond.code yX12_homes cX12_homes 2 (some .int) ∈ lwG := lwc_5 113 rfl (by decide +kernel)
theorem mi_X12_homes : Cond.instanceMethod yX12_homes ∈ lwG := lwc_5 111 (by decide +kernel) (by decide +kernel)
theorem ms_X12_homes : Cond.selects RX12 yX12_homes yX12_homes ∈ lwG := lwc_5 112 (by decide +kernel) (by decide +kernel)
abbrev M_X12_pulling : MI := (yX12_pulling, cX12_pulling, 2, (some .int))
theorem pn_X12_pulling : plainFor yX12_pulling = true := by decide +kernel
theorem mc_X12_pulling : Cond.code yX12_pulling cX12_pulling 2 (some .int) ∈ lwG := lwc_5 127 rfl (by decide +kernel)
theorem mi_X12_pulling : Cond.instanceMethod yX12_pulling ∈ lwG := lwc_5 125 (by decide +kernel) (by decide +kernel)
theorem ms_X12_pulling : Cond.selects RX12 yX12_pulling yX12_pulling ∈ lwG := lwc_5 126 (by decide +kernel) (by decide +kernel)
abbrev M_X12_canPass : MI := (yX12_canPass, cX12_canPass, 2, (some .boolean))
theorem pn_X12_canPass : plainFor yX12_canPass = true := by decide +kernel
theorem mc_X12_canPass : Cond.code yX12_canPass cX12_canPass 2 (some .boolean) ∈ lwG := lwc_5 145 rfl (by decide +kernel)
theorem mi_X12_canPass : Cond.instanceMethod yX12_canPass ∈ lwG := lwc_5 144 (by decide +kernel) (by decide +kernel)
theorem ms_X12_canPass : Cond.selects RX12 yX12_canPass yX12_canPass ∈ lwG := lwG_of 48 (by decide +kernel) (by decide +kernel)
abbrev M_X12_years : MI := (yX12_years, cX12_years, 3, (some .int))
theorem pn_X12_years : plainFor yX12_years = true := by decide +kernel
theorem mc_X12_years : Cond.code yX12_years cX12_years 3 (some .int) ∈ lwG := lwc_5 141 rfl (by decide +kernel)
theorem mi_X12_years : Cond.instanceMethod yX12_years ∈ lwG := lwc_5 139 (by decide +kernel) (by decide +kernel)
theorem ms_X12_years : Cond.selects RX12 yX12_years yX12_years ∈ lwG := lwc_5 140 (by decide +kernel) (by decide +kernel)
abbrev M_X12_drawHundred : MI := (yX12_drawHundred, cX12_drawHundred, 1, (some .int))
theorem pn_X12_drawHundred : plainFor yX12_drawHundred = true := by decide +kernel
theorem mc_X12_drawHundred : Cond.code yX12_drawHundred cX12_drawHundred 1 (some .int) ∈ lwG := lwc_5 160 rfl (by decide +kernel)
theorem mi_X12_drawHundred : Cond.instanceMethod yX12_drawHundred ∈ lwG := lwc_5 159 (by decide +kernel) (by decide +kernel)
theorem ms_X12_drawHundred : Cond.selects RX12 yX12_drawHundred yX12_drawHundred ∈ lwG := lwG_of 49 (by decide +kernel) (by decide +kernel)
abbrev M_X12_chance : MI := (yX12_chance, cX12_chance, 5, (some .int))
theorem pn_X12_chance : plainFor yX12_chance = true := by decide +kernel
theorem mc_X12_chance : Cond.code yX12_chance cX12_chance 5 (some .int) ∈ lwG := lwc_5 156 rfl (by decide +kernel)
theorem mi_X12_chance : Cond.instanceMethod yX12_chance ∈ lwG := lwc_5 154 (by decide +kernel) (by decide +kernel)
theorem ms_X12_chance : Cond.selects RX12 yX12_chance yX12_chance ∈ lwG := lwc_5 155 (by decide +kernel) (by decide +kernel)
abbrev M_X12_go : MI := (yX12_go, cX12_go, 4, (some .boolean))
theorem pn_X12_go : plainFor yX12_go = true := by decide +kernel
theorem mc_X12_go : Cond.code yX12_go cX12_go 4 (some .boolean) ∈ lwG := lwc_5 167 rfl (by decide +kernel)
theorem mi_X12_go : Cond.instanceMethod yX12_go ∈ lwG := lwc_5 165 (by decide +kernel) (by decide +kernel)
theorem ms_X12_go : Cond.selects RX12 yX12_go yX12_go ∈ lwG := lwc_5 166 (by decide +kernel) (by decide +kernel)
abbrev M_X12_pull : MI := (yX12_pull, cX12_pull, 2, (some .int))
theorem pn_X12_pull : plainFor yX12_pull = true := by decide +kernel
theorem mc_X12_pull : Cond.code yX12_pull cX12_pull 2 (some .int) ∈ lwG := lwc_5 171 rfl (by decide +kernel)
theorem mi_X12_pull : Cond.instanceMethod yX12_pull ∈ lwG := lwc_5 169 (by decide +kernel) (by decide +kernel)
theorem ms_X12_pull : Cond.selects RX12 yX12_pull yX12_pull ∈ lwG := lwc_5 170 (by decide +kernel) (by decide +kernel)
abbrev M_X12_peace : MI := (yX12_peace, cX12_peace, 2, (some .boolean))
theorem pn_X12_peace : plainFor yX12_peace = true := by decide +kernel
theorem mc_X12_peace : Cond.code yX12_peace cX12_peace 2 (some .boolean) ∈ lwG := lwc_5 176 rfl (by decide +kernel)
theorem mi_X12_peace : Cond.instanceMethod yX12_peace ∈ lwG := lwc_5 174 (by decide +kernel) (by decide +kernel)
theorem ms_X12_peace : Cond.selects RX12 yX12_peace yX12_peace ∈ lwG := lwc_5 175 (by decide +kernel) (by decide +kernel)
abbrev M_X12_undo : MI := (yX12_undo, cX12_undo, 1, (some .boolean))
theorem pn_X12_undo : plainFor yX12_undo = true := by decide +kernel
theorem mc_X12_undo : Cond.code yX12_undo cX12_undo 1 (some .boolean) ∈ lwG := lwc_5 180 rfl (by decide +kernel)
theorem mi_X12_undo : Cond.instanceMethod yX12_undo ∈ lwG := lwc_5 178 (by decide +kernel) (by decide +kernel)
theorem ms_X12_undo : Cond.selects RX12 yX12_undo yX12_undo ∈ lwG := lwc_5 179 (by decide +kernel) (by decide +kernel)
abbrev M_X12_seed : MI := (yX12_seed, cX12_seed, 2, (some .boolean))
theorem pn_X12_seed : plainFor yX12_seed = true := by decide +kernel
theorem mc_X12_seed : Cond.code yX12_seed cX12_seed 2 (some .boolean) ∈ lwG := lwc_5 190 rfl (by decide +kernel)
theorem mi_X12_seed : Cond.instanceMethod yX12_seed ∈ lwG := lwc_5 188 (by decide +kernel) (by decide +kernel)
theorem ms_X12_seed : Cond.selects RX12 yX12_seed yX12_seed ∈ lwG := lwc_5 189 (by decide +kernel) (by decide +kernel)
abbrev M_X12_kept : MI := (yX12_kept, cX12_kept, 4, (some .int))
theorem pn_X12_kept : plainFor yX12_kept = true := by decide +kernel
theorem mc_X12_kept : Cond.code yX12_kept cX12_kept 4 (some .int) ∈ lwG := lwc_5 194 rfl (by decide +kernel)
theorem mi_X12_kept : Cond.instanceMethod yX12_kept ∈ lwG := lwc_5 192 (by decide +kernel) (by decide +kernel)
theorem ms_X12_kept : Cond.selects RX12 yX12_kept yX12_kept ∈ lwG := lwc_5 193 (by decide +kernel) (by decide +kernel)
abbrev M_X12_image : MI := (yX12_image, cX12_image, 1, (some .int))
theorem pn_X12_image : plainFor yX12_image = true := by decide +kernel
theorem mc_X12_image : Cond.code yX12_image cX12_image 1 (some .int) ∈ lwG := lwc_5 198 rfl (by decide +kernel)
theorem mi_X12_image : Cond.instanceMethod yX12_image ∈ lwG := lwc_5 196 (by decide +kernel) (by decide +kernel)
theorem ms_X12_image : Cond.selects RX12 yX12_image yX12_image ∈ lwG := lwc_5 197 (by decide +kernel) (by decide +kernel)
abbrev M_X12_octet : MI := (yX12_octet, cX12_octet, 2, (some .int))
theorem pn_X12_octet : plainFor yX12_octet = true := by decide +kernel
theorem mc_X12_octet : Cond.code yX12_octet cX12_octet 2 (some .int) ∈ lwG := lwc_5 219 rfl (by decide +kernel)
theorem mi_X12_octet : Cond.instanceMethod yX12_octet ∈ lwG := lwc_5 217 (by decide +kernel) (by decide +kernel)
theorem ms_X12_octet : Cond.selects RX12 yX12_octet yX12_octet ∈ lwG := lwc_5 218 (by decide +kernel) (by decide +kernel)
abbrev M_X12_on : MI := (yX12_on, cX12_on, 2, (some .boolean))
theorem pn_X12_on : plainFor yX12_on = true := by decide +kernel
theorem mc_X12_on : Cond.code yX12_on cX12_on 2 (some .boolean) ∈ lwG := lwc_5 223 rfl (by decide +kernel)
theorem mi_X12_on : Cond.instanceMethod yX12_on ∈ lwG := lwc_5 221 (by decide +kernel) (by decide +kernel)
theorem ms_X12_on : Cond.selects RX12 yX12_on yX12_on ∈ lwG := lwc_5 222 (by decide +kernel) (by decide +kernel)
abbrev M_X12_status : MI := (yX12_status, cX12_status, 2, (some .int))
theorem pn_X12_status : plainFor yX12_status = true := by decide +kernel
theorem mc_X12_status : Cond.code yX12_status cX12_status 2 (some .int) ∈ lwG := lwc_6 8 rfl (by decide +kernel)
theorem mi_X12_status : Cond.instanceMethod yX12_status ∈ lwG := lwc_6 6 (by decide +kernel) (by decide +kernel)
theorem ms_X12_status : Cond.selects RX12 yX12_status yX12_status ∈ lwG := lwc_6 7 (by decide +kernel) (by decide +kernel)
abbrev M_X13_isDefault : MI := (yX13_isDefault, cX13_isDefault, 2, none)
theorem pn_X13_isDefault : plainFor yX13_isDefault = true := by decide +kernel
theorem mc_X13_isDefault : Cond.code yX13_isDefault cX13_isDefault 2 none ∈ lwG := lwc_6 18 rfl (by decide +kernel)
theorem mi_X13_isDefault : Cond.instanceMethod yX13_isDefault ∈ lwG := lwc_6 17 (by decide +kernel) (by decide +kernel)
theorem ms_X13_isDefault : Cond.selects RX13 yX13_isDefault yX13_isDefault ∈ lwG := lwG_of 52 (by decide +kernel) (by decide +kernel)
abbrev M_X13_is : MI := (yX13_is, cX13_is, 3, (some .boolean))
theorem pn_X13_is : plainFor yX13_is = true := by decide +kernel
theorem mc_X13_is : Cond.code yX13_is cX13_is 3 (some .boolean) ∈ lwG := lwc_7 128 rfl (by decide +kernel)
theorem mi_X13_is : Cond.static yX13_is ∈ lwG := lwc_7 127 (by decide +kernel) (by decide +kernel)
abbrev M_X13_put : MI := (yX13_put, cX13_put, 3, none)
theorem pn_X13_put : plainFor yX13_put = true := by decide +kernel
theorem mc_X13_put : Cond.code yX13_put cX13_put 3 none ∈ lwG := lwc_7 24 rfl (by decide +kernel)
theorem mi_X13_put : Cond.instanceMethod yX13_put ∈ lwG := lwc_7 23 (by decide +kernel) (by decide +kernel)
theorem ms_X13_put : Cond.selects RX13 yX13_put yX13_put ∈ lwG := lwG_of 54 (by decide +kernel) (by decide +kernel)
abbrev M_X13_refuses : MI := (yX13_refuses, cX13_refuses, 2, (some .int))
theorem pn_X13_refuses : plainFor yX13_refuses = true := by decide +kernel
theorem mc_X13_refuses : Cond.code yX13_refuses cX13_refuses 2 (some .int) ∈ lwG := lwc_7 20 rfl (by decide +kernel)
theorem mi_X13_refuses : Cond.instanceMethod yX13_refuses ∈ lwG := lwc_7 19 (by decide +kernel) (by decide +kernel)
theorem ms_X13_refuses : Cond.selects RX13 yX13_refuses yX13_refuses ∈ lwG := lwG_of 53 (by decide +kernel) (by decide +kernel)
abbrev M_X13_feed : MI := (yX13_feed, cX13_feed, 6, (some .int))
theorem pn_X13_feed : plainFor yX13_feed = true := by decide +kernel
theorem mc_X13_feed : Cond.code yX13_feed cX13_feed 6 (some .int) ∈ lwG := lwc_7 16 rfl (by decide +kernel)
theorem mi_X13_feed : Cond.instanceMethod yX13_feed ∈ lwG := lwc_7 14 (by decide +kernel) (by decide +kernel)
theorem ms_X13_feed : Cond.selects RX13 yX13_feed yX13_feed ∈ lwG := lwc_7 15 (by decide +kernel) (by decide +kernel)
abbrev M_X13_end : MI := (yX13_end, cX13_end, 2, (some .boolean))
theorem pn_X13_end : plainFor yX13_end = true := by decide +kernel
theorem mc_X13_end : Cond.code yX13_end cX13_end 2 (some .boolean) ∈ lwG := lwc_7 28 rfl (by decide +kernel)
theorem mi_X13_end : Cond.instanceMethod yX13_end ∈ lwG := lwc_7 26 (by decide +kernel) (by decide +kernel)
theorem ms_X13_end : Cond.selects RX13 yX13_end yX13_end ∈ lwG := lwc_7 27 (by decide +kernel) (by decide +kernel)
abbrev M_X13_blame : MI := (yX13_blame, cX13_blame, 3, none)
theorem pn_X13_blame : plainFor yX13_blame = true := by decide +kernel
theorem mc_X13_blame : Cond.code yX13_blame cX13_blame 3 none ∈ lwG := lwc_7 54 rfl (by decide +kernel)
theorem mi_X13_blame : Cond.instanceMethod yX13_blame ∈ lwG := lwc_7 53 (by decide +kernel) (by decide +kernel)
theorem ms_X13_blame : Cond.selects RX13 yX13_blame yX13_blame ∈ lwG := lwG_of 58 (by decide +kernel) (by decide +kernel)
abbrev M_X13_isLetter : MI := (yX13_isLetter, cX13_isLetter, 1, (some .boolean))
theorem pn_X13_isLetter : plainFor yX13_isLetter = true := by decide +kernel
theorem mc_X13_isLetter : Cond.code yX13_isLetter cX13_isLetter 1 (some .boolean) ∈ lwG := lwc_7 39 rfl (by decide +kernel)
theorem mi_X13_isLetter : Cond.static yX13_isLetter ∈ lwG := lwc_7 38 (by decide +kernel) (by decide +kernel)
abbrev M_X13_isDigit : MI := (yX13_isDigit, cX13_isDigit, 1, (some .boolean))
theorem pn_X13_isDigit : plainFor yX13_isDigit = true := by decide +kernel
theorem mc_X13_isDigit : Cond.code yX13_isDigit cX13_isDigit 1 (some .boolean) ∈ lwG := lwc_7 42 rfl (by decide +kernel)
theorem mi_X13_isDigit : Cond.static yX13_isDigit ∈ lwG := lwc_7 41 (by decide +kernel) (by decide +kernel)
abbrev M_X13_lex : MI := (yX13_lex, cX13_lex, 1, none)
theorem pn_X13_lex : plainFor yX13_lex = true := by decide +kernel
theorem mc_X13_lex : Cond.code yX13_lex cX13_lex 1 none ∈ lwG := lwc_7 50 rfl (by decide +kernel)
theorem mi_X13_lex : Cond.instanceMethod yX13_lex ∈ lwG := lwc_7 49 (by decide +kernel) (by decide +kernel)
theorem ms_X13_lex : Cond.selects RX13 yX13_lex yX13_lex ∈ lwG := lwG_of 57 (by decide +kernel) (by decide +kernel)
abbrev M_X13_ahead : MI := (yX13_ahead, cX13_ahead, 6, none)
theorem pn_X13_ahead : plainFor yX13_ahead = true := by decide +kernel
theorem mc_X13_ahead : Cond.code yX13_ahead cX13_ahead 6 none ∈ lwG := lwc_7 36 rfl (by decide +kernel)
theorem mi_X13_ahead : Cond.instanceMethod yX13_ahead ∈ lwG := lwc_7 35 (by decide +kernel) (by decide +kernel)
theorem ms_X13_ahead : Cond.selects RX13 yX13_ahead yX13_ahead ∈ lwG := lwG_of 55 (by decide +kernel) (by decide +kernel)
abbrev M_X13_isSign : MI := (yX13_isSign, cX13_isSign, 2, (some .boolean))
theorem pn_X13_isSign : plainFor yX13_isSign = true := by decide +kernel
theorem mc_X13_isSign : Cond.code yX13_isSign cX13_isSign 2 (some .boolean) ∈ lwG := lwc_7 186 rfl (by decide +kernel)
theorem mi_X13_isSign : Cond.instanceMethod yX13_isSign ∈ lwG := lwc_7 185 (by decide +kernel) (by decide +kernel)
theorem ms_X13_isSign : Cond.selects RX13 yX13_isSign yX13_isSign ∈ lwG := lwG_of 81 (by decide +kernel) (by decide +kernel)
abbrev M_X13_isWord : MI := (yX13_isWord, cX13_isWord, 3, (some .boolean))
theorem pn_X13_isWord : plainFor yX13_isWord = true := by decide +kernel
theorem mc_X13_isWord : Cond.code yX13_isWord cX13_isWord 3 (some .boolean) ∈ lwG := lwc_7 59 rfl (by decide +kernel)
theorem mi_X13_isWord : Cond.instanceMethod yX13_isWord ∈ lwG := lwc_7 58 (by decide +kernel) (by decide +kernel)
theorem ms_X13_isWord : Cond.selects RX13 yX13_isWord yX13_isWord ∈ lwG := lwG_of 59 (by decide +kernel) (by decide +kernel)
abbrev M_X13_must : MI := (yX13_must, cX13_must, 2, none)
theorem pn_X13_must : plainFor yX13_must = true := by decide +kernel
theorem mc_X13_must : Cond.code yX13_must cX13_must 2 none ∈ lwG := lwc_7 221 rfl (by decide +kernel)
theorem mi_X13_must : Cond.instanceMethod yX13_must ∈ lwG := lwc_7 220 (by decide +kernel) (by decide +kernel)
theorem ms_X13_must : Cond.selects RX13 yX13_must yX13_must ∈ lwG := lwG_of 89 (by decide +kernel) (by decide +kernel)
abbrev M_X13_isOwn : MI := (yX13_isOwn, cX13_isOwn, 3, (some .boolean))
theorem pn_X13_isOwn : plainFor yX13_isOwn = true := by decide +kernel
theorem mc_X13_isOwn : Cond.code yX13_isOwn cX13_isOwn 3 (some .boolean) ∈ lwG := lwc_7 75 rfl (by decide +kernel)
theorem mi_X13_isOwn : Cond.instanceMethod yX13_isOwn ∈ lwG := lwc_7 74 (by decide +kernel) (by decide +kernel)
theorem ms_X13_isOwn : Cond.selects RX13 yX13_isOwn yX13_isOwn ∈ lwG := lwG_of 63 (by decide +kernel) (by decide +kernel)
abbrev M_X13_toldOf : MI := (yX13_toldOf, cX13_toldOf, 2, (some .int))
theorem pn_X13_toldOf : plainFor yX13_toldOf = true := by decide +kernel
theorem mc_X13_toldOf : Cond.code yX13_toldOf cX13_toldOf 2 (some .int) ∈ lwG := lwc_8 36 rfl (by decide +kernel)
theorem mi_X13_toldOf : Cond.instanceMethod yX13_toldOf ∈ lwG := lwc_8 35 (by decide +kernel) (by decide +kernel)
theorem ms_X13_toldOf : Cond.selects RX13 yX13_toldOf yX13_toldOf ∈ lwG := lwG_of 98 (by decide +kernel) (by decide +kernel)
abbrev M_X13_manyOf : MI := (yX13_manyOf, cX13_manyOf, 3, (some .int))
theorem pn_X13_manyOf : plainFor yX13_manyOf = true := by decide +kernel
theorem mc_X13_manyOf : Cond.code yX13_manyOf cX13_manyOf 3 (some .int) ∈ lwG := lwc_7 113 rfl (by decide +kernel)
theorem mi_X13_manyOf : Cond.instanceMethod yX13_manyOf ∈ lwG := lwc_7 112 (by decide +kernel) (by decide +kernel)
theorem ms_X13_manyOf : Cond.selects RX13 yX13_manyOf yX13_manyOf ∈ lwG := lwG_of 65 (by decide +kernel) (by decide +kernel)
abbrev M_X13_nameOf : MI := (yX13_nameOf, cX13_nameOf, 4, (some .long))
theorem pn_X13_nameOf : plainFor yX13_nameOf = true := by decide +kernel
theorem mc_X13_nameOf : Cond.code yX13_nameOf cX13_nameOf 4 (some .long) ∈ lwG := lwc_7 117 rfl (by decide +kernel)
theorem mi_X13_nameOf : Cond.instanceMethod yX13_nameOf ∈ lwG := lwc_7 116 (by decide +kernel) (by decide +kernel)
theorem ms_X13_nameOf : Cond.selects RX13 yX13_nameOf yX13_nameOf ∈ lwG := lwG_of 66 (by decide +kernel) (by decide +kernel)
abbrev M_X13_named : MI := (yX13_named, cX13_named, 5, (some .int))
theorem pn_X13_named : plainFor yX13_named = true := by decide +kernel
theorem mc_X13_named : Cond.code yX13_named cX13_named 5 (some .int) ∈ lwG := lwc_7 109 rfl (by decide +kernel)
theorem mi_X13_named : Cond.instanceMethod yX13_named ∈ lwG := lwc_7 108 (by decide +kernel) (by decide +kernel)
theorem ms_X13_named : Cond.selects RX13 yX13_named yX13_named ∈ lwG := lwG_of 64 (by decide +kernel) (by decide +kernel)
abbrev M_X13_number : MI := (yX13_number, cX13_number, 4, (some .int))
theorem pn_X13_number : plainFor yX13_number = true := by decide +kernel
theorem mc_X13_number : Cond.code yX13_number cX13_number 4 (some .int) ∈ lwG := lwc_7 125 rfl (by decide +kernel)
theorem mi_X13_number : Cond.instanceMethod yX13_number ∈ lwG := lwc_7 124 (by decide +kernel) (by decide +kernel)
theorem ms_X13_number : Cond.selects RX13 yX13_number yX13_number ∈ lwG := lwG_of 68 (by decide +kernel) (by decide +kernel)
abbrev M_X13_add : MI := (yX13_add, cX13_add, 3, none)
theorem pn_X13_add : plainFor yX13_add = true := by decide +kernel
theorem mc_X13_add : Cond.code yX13_add cX13_add 3 none ∈ lwG := lwc_7 194 rfl (by decide +kernel)
theorem mi_X13_add : Cond.instanceMethod yX13_add ∈ lwG := lwc_7 193 (by decide +kernel) (by decide +kernel)
theorem ms_X13_add : Cond.selects RX13 yX13_add yX13_add ∈ lwG := lwG_of 83 (by decide +kernel) (by decide +kernel)
abbrev M_X13_rank : MI := (yX13_rank, cX13_rank, 1, (some .int))
theorem pn_X13_rank : plainFor yX13_rank = true := by decide +kernel
theorem mc_X13_rank : Cond.code yX13_rank cX13_rank 1 (some .int) ∈ lwG := lwc_7 205 rfl (by decide +kernel)
theorem mi_X13_rank : Cond.static yX13_rank ∈ lwG := lwc_7 204 (by decide +kernel) (by decide +kernel)
abbrev M_X13_joins : MI := (yX13_joins, cX13_joins, 2, none)
theorem pn_X13_joins : plainFor yX13_joins = true := by decide +kernel
theorem mc_X13_joins : Cond.code yX13_joins cX13_joins 2 none ∈ lwG := lwc_7 202 rfl (by decide +kernel)
theorem mi_X13_joins : Cond.instanceMethod yX13_joins ∈ lwG := lwc_7 201 (by decide +kernel) (by decide +kernel)
theorem ms_X13_joins : Cond.selects RX13 yX13_joins yX13_joins ∈ lwG := lwG_of 85 (by decide +kernel) (by decide +kernel)
abbrev M_X13_holdsBack : MI := (yX13_holdsBack, cX13_holdsBack, 2, none)
theorem pn_X13_holdsBack : plainFor yX13_holdsBack = true := by decide +kernel
theorem mc_X13_holdsBack : Cond.code yX13_holdsBack cX13_holdsBack 2 none ∈ lwG := lwc_7 182 rfl (by decide +kernel)
theorem mi_X13_holdsBack : Cond.instanceMethod yX13_holdsBack ∈ lwG := lwc_7 181 (by decide +kernel) (by decide +kernel)
theorem ms_X13_holdsBack : Cond.selects RX13 yX13_holdsBack yX13_holdsBack ∈ lwG := lwG_of 80 (by decide +kernel) (by decide +kernel)
abbrev M_X13_pushes : MI := (yX13_pushes, cX13_pushes, 2, none)
theorem pn_X13_pushes : plainFor yX13_pushes = true := by decide +kernel
theorem mc_X13_pushes : Cond.code yX13_pushes cX13_pushes 2 none ∈ lwG := lwc_7 171 rfl (by decide +kernel)
theorem mi_X13_pushes : Cond.instanceMethod yX13_pushes ∈ lwG := lwc_7 170 (by decide +kernel) (by decide +kernel)
theorem ms_X13_pushes : Cond.selects RX13 yX13_pushes yX13_pushes ∈ lwG := lwG_of 78 (by decide +kernel) (by decide +kernel)
abbrev M_X13_opens : MI := (yX13_opens, cX13_opens, 2, none)
theorem pn_X13_opens : plainFor yX13_opens = true := by decide +kernel
theorem mc_X13_opens : Cond.code yX13_opens cX13_opens 2 none ∈ lwG := lwc_7 190 rfl (by decide +kernel)
theorem mi_X13_opens : Cond.instanceMethod yX13_opens ∈ lwG := lwc_7 189 (by decide +kernel) (by decide +kernel)
theorem ms_X13_opens : Cond.selects RX13 yX13_opens yX13_opens ∈ lwG := lwG_of 82 (by decide +kernel) (by decide +kernel)
abbrev M_X13_isTest : MI := (yX13_isTest, cX13_isTest, 1, (some .boolean))
theorem pn_X13_isTest : plainFor yX13_isTest = true := by decide +kernel
theorem mc_X13_isTest : Cond.code yX13_isTest cX13_isTest 1 (some .boolean) ∈ lwG := lwc_7 178 rfl (by decide +kernel)
theorem mi_X13_isTest : Cond.static yX13_isTest ∈ lwG := lwc_7 177 (by decide +kernel) (by decide +kernel)
abbrev M_X13_operand : MI := (yX13_operand, cX13_operand, 4, (some .boolean))
theorem pn_X13_operand : plainFor yX13_operand = true := by decide +kernel
theorem mc_X13_operand : Cond.code yX13_operand cX13_operand 4 (some .boolean) ∈ lwG := lwc_7 175 rfl (by decide +kernel)
theorem mi_X13_operand : Cond.instanceMethod yX13_operand ∈ lwG := lwc_7 174 (by decide +kernel) (by decide +kernel)
theorem ms_X13_operand : Cond.selects RX13 yX13_operand yX13_operand ∈ lwG := lwG_of 79 (by decide +kernel) (by decide +kernel)
abbrev M_X13_goesOn : MI := (yX13_goesOn, cX13_goesOn, 5, (some .boolean))
theorem pn_X13_goesOn : plainFor yX13_goesOn = true := by decide +kernel
theorem mc_X13_goesOn : Cond.code yX13_goesOn cX13_goesOn 5 (some .boolean) ∈ lwG := lwc_7 198 rfl (by decide +kernel)
theorem mi_X13_goesOn : Cond.instanceMethod yX13_goesOn ∈ lwG := lwc_7 197 (by decide +kernel) (by decide +kernel)
theorem ms_X13_goesOn : Cond.selects RX13 yX13_goesOn yX13_goesOn ∈ lwG := lwG_of 84 (by decide +kernel) (by decide +kernel)
abbrev M_X13_reads : MI := (yX13_reads, cX13_reads, 3, none)
theorem pn_X13_reads : plainFor yX13_reads = true := by decide +kernel
theorem mc_X13_reads : Cond.code yX13_reads cX13_reads 3 none ∈ lwG := lwc_7 167 rfl (by decide +kernel)
theorem mi_X13_reads : Cond.instanceMethod yX13_reads ∈ lwG := lwc_7 166 (by decide +kernel) (by decide +kernel)
theorem ms_X13_reads : Cond.selects RX13 yX13_reads yX13_reads ∈ lwG := lwG_of 77 (by decide +kernel) (by decide +kernel)
abbrev M_X13_counts : MI := (yX13_counts, cX13_counts, 2, (some .boolean))
theorem pn_X13_counts : plainFor yX13_counts = true := by decide +kernel
theorem mc_X13_counts : Cond.code yX13_counts cX13_counts 2 (some .boolean) ∈ lwG := lwc_7 67 rfl (by decide +kernel)
theorem mi_X13_counts : Cond.instanceMethod yX13_counts ∈ lwG := lwc_7 66 (by decide +kernel) (by decide +kernel)
theorem ms_X13_counts : Cond.selects RX13 yX13_counts yX13_counts ∈ lwG := lwG_of 61 (by decide +kernel) (by decide +kernel)
abbrev M_X13_must_ : MI := (yX13_must_, cX13_must_, 3, none)
theorem pn_X13_must_ : plainFor yX13_must_ = true := by decide +kernel
theorem mc_X13_must_ : Cond.code yX13_must_ cX13_must_ 3 none ∈ lwG := lwc_7 121 rfl (by decide +kernel)
theorem mi_X13_must_ : Cond.instanceMethod yX13_must_ ∈ lwG := lwc_7 120 (by decide +kernel) (by decide +kernel)
theorem ms_X13_must_ : Cond.selects RX13 yX13_must_ yX13_must_ ∈ lwG := lwG_of 67 (by decide +kernel) (by decide +kernel)
abbrev M_X13_fresh : MI := (yX13_fresh, cX13_fresh, 3, (some .long))
theorem pn_X13_fresh : plainFor yX13_fresh = true := by decide +kernel
theorem mc_X13_fresh : Cond.code yX13_fresh cX13_fresh 3 (some .long) ∈ lwG := lwc_7 71 rfl (by decide +kernel)
theorem mi_X13_fresh : Cond.instanceMethod yX13_fresh ∈ lwG := lwc_7 70 (by decide +kernel) (by decide +kernel)
theorem ms_X13_fresh : Cond.selects RX13 yX13_fresh yX13_fresh ∈ lwG := lwG_of 62 (by decide +kernel) (by decide +kernel)
abbrev M_X13_has2 : MI := (yX13_has2, cX13_has2, 2, (some .boolean))
theorem pn_X13_has2 : plainFor yX13_has2 = true := by decide +kernel
theorem mc_X13_has2 : Cond.code yX13_has2 cX13_has2 2 (some .boolean) ∈ lwG := lwc_7 139 rfl (by decide +kernel)
theorem mi_X13_has2 : Cond.static yX13_has2 ∈ lwG := lwc_7 138 (by decide +kernel) (by decide +kernel)
abbrev M_X13_askedBut : MI := (yX13_askedBut, cX13_askedBut, 4, (some .int))
theorem pn_X13_askedBut : plainFor yX13_askedBut = true := by decide +kernel
theorem mc_X13_askedBut : Cond.code yX13_askedBut cX13_askedBut 4 (some .int) ∈ lwG := lwc_7 136 rfl (by decide +kernel)
theorem mi_X13_askedBut : Cond.instanceMethod yX13_askedBut ∈ lwG := lwc_7 135 (by decide +kernel) (by decide +kernel)
theorem ms_X13_askedBut : Cond.selects RX13 yX13_askedBut yX13_askedBut ∈ lwG := lwG_of 70 (by decide +kernel) (by decide +kernel)
abbrev M_X13_homing : MI := (yX13_homing, cX13_homing, 2, none)
theorem pn_X13_homing : plainFor yX13_homing = true := by decide +kernel
theorem mc_X13_homing : Cond.code yX13_homing cX13_homing 2 none ∈ lwG := lwc_7 63 rfl (by decide +kernel)
theorem mi_X13_homing : Cond.instanceMethod yX13_homing ∈ lwG := lwc_7 62 (by decide +kernel) (by decide +kernel)
theorem ms_X13_homing : Cond.selects RX13 yX13_homing yX13_homing ∈ lwG := lwG_of 60 (by decide +kernel) (by decide +kernel)
abbrev M_X13_childing : MI := (yX13_childing, cX13_childing, 2, none)
theorem pn_X13_childing : plainFor yX13_childing = true := by decide +kernel
theorem mc_X13_childing : Cond.code yX13_childing cX13_childing 2 none ∈ lwG := lwc_7 132 rfl (by decide +kernel)
theorem mi_X13_childing : Cond.instanceMethod yX13_childing ∈ lwG := lwc_7 131 (by decide +kernel) (by decide +kernel)
theorem ms_X13_childing : Cond.selects RX13 yX13_childing yX13_childing ∈ lwG := lwG_of 69 (by decide +kernel) (by decide +kernel)
abbrev M_X13_twins : MI := (yX13_twins, cX13_twins, 3, (some .int))
theorem pn_X13_twins : plainFor yX13_twins = true := by decide +kernel
theorem mc_X13_twins : Cond.code yX13_twins cX13_twins 3 (some .int) ∈ lwG := lwc_7 147 rfl (by decide +kernel)
theorem mi_X13_twins : Cond.instanceMethod yX13_twins ∈ lwG := lwc_7 146 (by decide +kernel) (by decide +kernel)
theorem ms_X13_twins : Cond.selects RX13 yX13_twins yX13_twins ∈ lwG := lwG_of 72 (by decide +kernel) (by decide +kernel)
abbrev M_X13_twinning : MI := (yX13_twinning, cX13_twinning, 3, none)
theorem pn_X13_twinning : plainFor yX13_twinning = true := by decide +kernel
theorem mc_X13_twinning : Cond.code yX13_twinning cX13_twinning 3 none ∈ lwG := lwc_7 143 rfl (by decide +kernel)
theorem mi_X13_twinning : Cond.instanceMethod yX13_twinning ∈ lwG := lwc_7 142 (by decide +kernel) (by decide +kernel)
theorem ms_X13_twinning : Cond.selects RX13 yX13_twinning yX13_twinning ∈ lwG := lwG_of 71 (by decide +kernel) (by decide +kernel)
abbrev M_X13_feuding : MI := (yX13_feuding, cX13_feuding, 6, (some .int))
theorem pn_X13_feuding : plainFor yX13_feuding = true := by decide +kernel
theorem mc_X13_feuding : Cond.code yX13_feuding cX13_feuding 6 (some .int) ∈ lwG := lwc_7 155 rfl (by decide +kernel)
theorem mi_X13_feuding : Cond.instanceMethod yX13_feuding ∈ lwG := lwc_7 154 (by decide +kernel) (by decide +kernel)
theorem ms_X13_feuding : Cond.selects RX13 yX13_feuding yX13_feuding ∈ lwG := lwG_of 74 (by decide +kernel) (by decide +kernel)
abbrev M_X13_feuds : MI := (yX13_feuds, cX13_feuds, 4, none)
