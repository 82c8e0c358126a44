def gtbl : List Cond := lw_tbl.filter goodWord
theorem gtbl_of {w : Cond} (h : w ∈ lw_tbl) (hg : goodWord w = true) : w ∈ gtbl := List.mem_filter.mpr ⟨h, hg⟩
theorem tb1 {w : Cond} (h : w ∈ tables_1_1) : w ∈ lw_tbl := List.mem_append_right _ (List.mem_append_left _ h)
theorem tb2 {w : Cond} (h : w ∈ tables_1_2) : w ∈ lw_tbl := List.mem_append_right _ (List.mem_append_right _ (List.mem_append_left _ h))
theorem tb3 {w : Cond} (h : w ∈ tables_1_3) : w ∈ lw_tbl := List.mem_append_right _ (List.mem_append_right _ (List.mem_append_right _ (List.mem_append_left _ h)))
theorem tb4 {w : Cond} (h : w ∈ tables_1_4) : w ∈ lw_tbl := List.mem_append_right _ (List.mem_append_right _ (List.mem_append_right _ (List.mem_append_right _ (List.mem_append_left _ h))))
theorem tb5 {w : Cond} (h : w ∈ tables_1_5) : w ∈ lw_tbl := List.mem_append_right _ (List.mem_append_right _ (List.mem_append_right _ (List.mem_append_right _ (List.mem_append_right _ h))))
theorem tbp {w : Cond} (h : w ∈ k2_sels lw_privs) : w ∈ lw_tbl := List.mem_append_left _ h
theorem wi_L : Cond.initialized RL ∈ gtbl := gtbl_of (tb1 (List.mem_of_getElem? (i := 0) rfl)) rfl
theorem wi_X6 : Cond.initialized RX6 ∈ gtbl := gtbl_of (tb1 (List.mem_of_getElem? (i := 1) rfl)) rfl
theorem wi_X5 : Cond.initialized RX5 ∈ gtbl := gtbl_of (tb1 (List.mem_of_getElem? (i := 2) rfl)) rfl
theorem wi_X2 : Cond.initialized RX2 ∈ gtbl := gtbl_of (tb1 (List.mem_of_getElem? (i := 3) rfl)) rfl
theorem wi_X1 : Cond.initialized RX1 ∈ gtbl := gtbl_of (tb1 (List.mem_of_getElem? (i := 4) rfl)) rfl
theorem wi_X4 : Cond.initialized RX4 ∈ gtbl := gtbl_of (tb1 (List.mem_of_getElem? (i := 5) rfl)) rfl
theorem wi_X3 : Cond.initialized RX3 ∈ gtbl := gtbl_of (tb1 (List.mem_of_getElem? (i := 6) rfl)) rfl
theorem wi_X0 : Cond.initialized RX0 ∈ gtbl := gtbl_of (tb1 (List.mem_of_getElem? (i := 7) rfl)) rfl
theorem wi_X7 : Cond.initialized RX7 ∈ gtbl := gtbl_of (tb1 (List.mem_of_getElem? (i := 8) rfl)) rfl
theorem wi_J9 : Cond.initialized RJ9 ∈ gtbl := gtbl_of (tb1 (List.mem_of_getElem? (i := 9) rfl)) rfl
theorem wi_J6 : Cond.initialized RJ6 ∈ gtbl := gtbl_of (tb1 (List.mem_of_getElem? (i := 10) rfl)) rfl
theorem wi_J7 : Cond.initialized RJ7 ∈ gtbl := gtbl_of (tb1 (List.mem_of_getElem? (i := 11) rfl)) rfl
theorem wf_X5_9 : Cond.fieldLink RX5 9 "WingDesk$Wardrobe" "facts" "[I" ∈ gtbl := gtbl_of (tb1 (List.mem_of_getElem? (i := 26) rfl)) rfl
theorem wf_X5_15 : Cond.fieldLink RX5 15 "WingDesk$Wardrobe" "count" "I" ∈ gtbl := gtbl_of (tb1 (List.mem_of_getElem? (i := 27) rfl)) rfl
theorem wf_X5_68 : Cond.fieldLink RX5 68 "WingDesk$Wardrobe" "hour" "I" ∈ gtbl := gtbl_of (tb1 (List.mem_of_getElem? (i := 29) rfl)) rfl
theorem wf_X2_9 : Cond.fieldLink RX2 9 "WingDesk$Looks" "rows" "[I" ∈ gtbl := gtbl_of (tb1 (List.mem_of_getElem? (i := 45) rfl)) rfl
theorem wf_X2_15 : Cond.fieldLink RX2 15 "WingDesk$Looks" "sizes" "[I" ∈ gtbl := gtbl_of (tb1 (List.mem_of_getElem? (i := 46) rfl)) rfl
theorem wf_X2_18 : Cond.fieldLink RX2 18 "WingDesk$Looks" "looksWith" "[I" ∈ gtbl := gtbl_of (tb1 (List.mem_of_getElem? (i := 47) rfl)) rfl
theorem wf_X1_33 : Cond.fieldLink RX1 33 "WingDesk$Change" "wardrobe" "LWingDesk$Wardrobe;" ∈ gtbl := gtbl_of (tb1 (List.mem_of_getElem? (i := 61) rfl)) rfl
theorem wf_X1_37 : Cond.fieldLink RX1 37 "WingDesk$Change" "looks" "LWingDesk$Looks;" ∈ gtbl := gtbl_of (tb1 (List.mem_of_getElem? (i := 62) rfl)) rfl
theorem wf_X1_53 : Cond.fieldLink RX1 53 "WingDesk$Change" "sizeA" "I" ∈ gtbl := gtbl_of (tb1 (List.mem_of_getElem? (i := 63) rfl)) rfl
theorem wf_X1_57 : Cond.fieldLink RX1 57 "WingDesk$Change" "sizeB" "I" ∈ gtbl := gtbl_of (tb1 (List.mem_of_getElem? (i := 64) rfl)) rfl
theorem wf_X1_63 : Cond.fieldLink RX1 63 "WingDesk$Change" "wigsA" "I" ∈ gtbl := gtbl_of (tb1 (List.mem_of_getElem? (i := 65) rfl)) rfl
theorem wf_X1_66 : Cond.fieldLink RX1 66 "WingDesk$Change" "wigsB" "I" ∈ gtbl := gtbl_of (tb1 (List.mem_of_getElem? (i := 66) rfl)) rfl
theorem wf_X1_69 : Cond.fieldLink RX1 69 "WingDesk$Change" "surelyOff" "I" ∈ gtbl := gtbl_of (tb1 (List.mem_of_getElem? (i := 67) rfl)) rfl
theorem wf_X1_9 : Cond.fieldLink RX1 9 "WingDesk$Change" "inB" "[I" ∈ gtbl := gtbl_of (tb1 (List.mem_of_getElem? (i := 68) rfl)) rfl
theorem wf_X1_15 : Cond.fieldLink RX1 15 "WingDesk$Change" "inA" "[I" ∈ gtbl := gtbl_of (tb1 (List.mem_of_getElem? (i := 69) rfl)) rfl
theorem wf_X1_18 : Cond.fieldLink RX1 18 "WingDesk$Change" "under" "[I" ∈ gtbl := gtbl_of (tb1 (List.mem_of_getElem? (i := 70) rfl)) rfl
theorem wf_X1_21 : Cond.fieldLink RX1 21 "WingDesk$Change" "ahead" "[I" ∈ gtbl := gtbl_of (tb1 (List.mem_of_getElem? (i := 71) rfl)) rfl
theorem wf_X1_24 : Cond.fieldLink RX1 24 "WingDesk$Change" "pile" "[I" ∈ gtbl := gtbl_of (tb1 (List.mem_of_getElem? (i := 72) rfl)) rfl
theorem wf_X1_27 : Cond.fieldLink RX1 27 "WingDesk$Change" "offSeconds" "[I" ∈ gtbl := gtbl_of (tb1 (List.mem_of_getElem? (i := 73) rfl)) rfl
theorem wf_X1_30 : Cond.fieldLink RX1 30 "WingDesk$Change" "onSeconds" "[I" ∈ gtbl := gtbl_of (tb1 (List.mem_of_getElem? (i := 74) rfl)) rfl
theorem wf_X1_108 : Cond.fieldLink RX1 108 "WingDesk$Change" "off" "I" ∈ gtbl := gtbl_of (tb1 (List.mem_of_getElem? (i := 75) rfl)) rfl
theorem wf_X1_114 : Cond.fieldLink RX1 114 "WingDesk$Change" "on" "I" ∈ gtbl := gtbl_of (tb1 (List.mem_of_getElem? (i := 77) rfl)) rfl
theorem wf_X1_143 : Cond.fieldLink RX1 143 "WingDesk$Change" "bestBits" "I" ∈ gtbl := gtbl_of (tb1 (List.mem_of_getElem? (i := 80) rfl)) rfl
theorem wf_X1_146 : Cond.fieldLink RX1 146 "WingDesk$Change" "bestSeconds" "I" ∈ gtbl := gtbl_of (tb1 (List.mem_of_getElem? (i := 82) rfl)) rfl
theorem wf_X4_9 : Cond.fieldLink RX4 9 "WingDesk$Show" "hows" "[I" ∈ gtbl := gtbl_of (tb1 (List.mem_of_getElem? (i := 126) rfl)) rfl
theorem wf_X4_15 : Cond.fieldLink RX4 15 "WingDesk$Show" "froms" "[I" ∈ gtbl := gtbl_of (tb1 (List.mem_of_getElem? (i := 127) rfl)) rfl
theorem wf_X4_18 : Cond.fieldLink RX4 18 "WingDesk$Show" "ups" "[I" ∈ gtbl := gtbl_of (tb1 (List.mem_of_getElem? (i := 128) rfl)) rfl
theorem wf_X4_21 : Cond.fieldLink RX4 21 "WingDesk$Show" "hands" "[I" ∈ gtbl := gtbl_of (tb1 (List.mem_of_getElem? (i := 129) rfl)) rfl
theorem wf_X4_24 : Cond.fieldLink RX4 24 "WingDesk$Show" "ways" "[I" ∈ gtbl := gtbl_of (tb1 (List.mem_of_getElem? (i := 130) rfl)) rfl
theorem wf_X4_27 : Cond.fieldLink RX4 27 "WingDesk$Show" "count" "I" ∈ gtbl := gtbl_of (tb1 (List.mem_of_getElem? (i := 131) rfl)) rfl
theorem wf_X3_27 : Cond.fieldLink RX3 27 "WingDesk$Roster" "show" "LWingDesk$Show;" ∈ gtbl := gtbl_of (tb1 (List.mem_of_getElem? (i := 152) rfl)) rfl
theorem wf_X3_9 : Cond.fieldLink RX3 9 "WingDesk$Roster" "fresh" "[I" ∈ gtbl := gtbl_of (tb1 (List.mem_of_getElem? (i := 153) rfl)) rfl
theorem wf_X3_15 : Cond.fieldLink RX3 15 "WingDesk$Roster" "going" "[I" ∈ gtbl := gtbl_of (tb1 (List.mem_of_getElem? (i := 154) rfl)) rfl
theorem wf_X3_18 : Cond.fieldLink RX3 18 "WingDesk$Roster" "cameFrom" "[I" ∈ gtbl := gtbl_of (tb1 (List.mem_of_getElem? (i := 155) rfl)) rfl
theorem wf_X3_21 : Cond.fieldLink RX3 21 "WingDesk$Roster" "takenFrom" "[I" ∈ gtbl := gtbl_of (tb1 (List.mem_of_getElem? (i := 156) rfl)) rfl
theorem wf_X3_24 : Cond.fieldLink RX3 24 "WingDesk$Roster" "queue" "[I" ∈ gtbl := gtbl_of (tb1 (List.mem_of_getElem? (i := 157) rfl)) rfl
theorem wf_X3_53 : Cond.fieldLink RX3 53 "WingDesk$Roster" "queued" "I" ∈ gtbl := gtbl_of (tb1 (List.mem_of_getElem? (i := 158) rfl)) rfl
theorem wf_X0_15 : Cond.fieldLink RX0 15 "WingDesk$Body" "wardrobe" "LWingDesk$Wardrobe;" ∈ gtbl := gtbl_of (tb1 (List.mem_of_getElem? (i := 180) rfl)) rfl
theorem wf_X0_9 : Cond.fieldLink RX0 9 "WingDesk$Body" "order" "[I" ∈ gtbl := gtbl_of (tb1 (List.mem_of_getElem? (i := 181) rfl)) rfl
theorem wf_X0_25 : Cond.fieldLink RX0 25 "WingDesk$Body" "latest" "I" ∈ gtbl := gtbl_of (tb1 (List.mem_of_getElem? (i := 182) rfl)) rfl
theorem wf_X6_10 : Cond.fieldLink RX6 10 "WingDesk" "wardrobe" "LWingDesk$Wardrobe;" ∈ gtbl := gtbl_of (tb1 (List.mem_of_getElem? (i := 190) rfl)) rfl
theorem wf_X6_19 : Cond.fieldLink RX6 19 "WingDesk" "looks" "LWingDesk$Looks;" ∈ gtbl := gtbl_of (tb1 (List.mem_of_getElem? (i := 191) rfl)) rfl
theorem wf_X6_28 : Cond.fieldLink RX6 28 "WingDesk" "change" "LWingDesk$Change;" ∈ gtbl := gtbl_of (tb1 (List.mem_of_getElem? (i := 192) rfl)) rfl
theorem wf_X6_35 : Cond.fieldLink RX6 35 "WingDesk" "show" "LWingDesk$Show;" ∈ gtbl := gtbl_of (tb1 (List.mem_of_getElem? (i := 193) rfl)) rfl
theorem wf_X6_44 : Cond.fieldLink RX6 44 "WingDesk" "roster" "LWingDesk$Roster;" ∈ gtbl := gtbl_of (tb1 (List.mem_of_getElem? (i := 194) rfl)) rfl
theorem wf_X6_53 : Cond.fieldLink RX6 53 "WingDesk" "body" "LWingDesk$Body;" ∈ gtbl := gtbl_of (tb1 (List.mem_of_getElem? (i := 195) rfl)) rfl
theorem wf_X6_57 : Cond.fieldLink RX6 57 "WingDesk" "waiting" "[I" ∈ gtbl := gtbl_of (tb1 (List.mem_of_getElem? (i := 196) rfl)) rfl
theorem wf_X6_61 : Cond.fieldLink RX6 61 "WingDesk" "findings" "[I" ∈ gtbl := gtbl_of (tb1 (List.mem_of_getElem? (i := 197) rfl)) rfl
theorem wf_X6_199 : Cond.fieldLink RX6 199 "WingDesk" "waitingCount" "I" ∈ gtbl := gtbl_of (tb1 (List.mem_of_getElem? (i := 198) rfl)) rfl
theorem wf_X6_64 : Cond.fieldLink RX6 64 "WingDesk" "mostThick" "I" ∈ gtbl := gtbl_of (tb1 (List.mem_of_getElem? (i := 199) rfl)) rfl
theorem wf_X7_97 : Cond.fieldLink RX7 97 "WingDeskModel" "pieces" "I" ∈ gtbl := gtbl_of (tb3 (List.mem_of_getElem? (i := 239) rfl)) rfl
theorem wf_X7_7 : Cond.fieldLink RX7 7 "WingDeskModel" "kind" "[I" ∈ gtbl := gtbl_of (tb4 (List.mem_of_getElem? (i := 0) rfl)) rfl
theorem wf_X7_13 : Cond.fieldLink RX7 13 "WingDeskModel" "place" "[I" ∈ gtbl := gtbl_of (tb4 (List.mem_of_getElem? (i := 1) rfl)) rfl
theorem wf_X7_16 : Cond.fieldLink RX7 16 "WingDeskModel" "thick" "[I" ∈ gtbl := gtbl_of (tb4 (List.mem_of_getElem? (i := 2) rfl)) rfl
theorem wf_X7_19 : Cond.fieldLink RX7 19 "WingDeskModel" "on" "[I" ∈ gtbl := gtbl_of (tb4 (List.mem_of_getElem? (i := 3) rfl)) rfl
theorem wf_X7_22 : Cond.fieldLink RX7 22 "WingDeskModel" "off" "[I" ∈ gtbl := gtbl_of (tb4 (List.mem_of_getElem? (i := 4) rfl)) rfl
theorem wf_X7_25 : Cond.fieldLink RX7 25 "WingDeskModel" "name" "[I" ∈ gtbl := gtbl_of (tb4 (List.mem_of_getElem? (i := 5) rfl)) rfl
theorem wf_X7_28 : Cond.fieldLink RX7 28 "WingDeskModel" "size" "[I" ∈ gtbl := gtbl_of (tb4 (List.mem_of_getElem? (i := 6) rfl)) rfl
theorem wf_X7_31 : Cond.fieldLink RX7 31 "WingDeskModel" "span" "[I" ∈ gtbl := gtbl_of (tb4 (List.mem_of_getElem? (i := 7) rfl)) rfl
theorem wf_X7_34 : Cond.fieldLink RX7 34 "WingDeskModel" "where" "[I" ∈ gtbl := gtbl_of (tb4 (List.mem_of_getElem? (i := 8) rfl)) rfl
theorem wf_X7_37 : Cond.fieldLink RX7 37 "WingDeskModel" "until" "[I" ∈ gtbl := gtbl_of (tb4 (List.mem_of_getElem? (i := 9) rfl)) rfl
theorem wf_X7_40 : Cond.fieldLink RX7 40 "WingDeskModel" "lookSize" "[I" ∈ gtbl := gtbl_of (tb4 (List.mem_of_getElem? (i := 10) rfl)) rfl
theorem wf_X7_43 : Cond.fieldLink RX7 43 "WingDeskModel" "look" "[I" ∈ gtbl := gtbl_of (tb4 (List.mem_of_getElem? (i := 11) rfl)) rfl
theorem wf_X7_46 : Cond.fieldLink RX7 46 "WingDeskModel" "limit" "I" ∈ gtbl := gtbl_of (tb4 (List.mem_of_getElem? (i := 12) rfl)) rfl
theorem wf_X7_166 : Cond.fieldLink RX7 166 "WingDeskModel" "shifts" "I" ∈ gtbl := gtbl_of (tb4 (List.mem_of_getElem? (i := 13) rfl)) rfl
theorem wf_X7_50 : Cond.fieldLink RX7 50 "WingDeskModel" "shiftA" "[I" ∈ gtbl := gtbl_of (tb4 (List.mem_of_getElem? (i := 14) rfl)) rfl
theorem wf_X7_53 : Cond.fieldLink RX7 53 "WingDeskModel" "shiftB" "[I" ∈ gtbl := gtbl_of (tb4 (List.mem_of_getElem? (i := 15) rfl)) rfl
theorem wf_X7_56 : Cond.fieldLink RX7 56 "WingDeskModel" "door" "[I" ∈ gtbl := gtbl_of (tb4 (List.mem_of_getElem? (i := 16) rfl)) rfl
theorem wf_X7_59 : Cond.fieldLink RX7 59 "WingDeskModel" "from" "[I" ∈ gtbl := gtbl_of (tb4 (List.mem_of_getElem? (i := 17) rfl)) rfl
theorem wf_X7_62 : Cond.fieldLink RX7 62 "WingDeskModel" "upTo" "[I" ∈ gtbl := gtbl_of (tb4 (List.mem_of_getElem? (i := 18) rfl)) rfl
theorem wf_X7_65 : Cond.fieldLink RX7 65 "WingDeskModel" "hands" "[I" ∈ gtbl := gtbl_of (tb4 (List.mem_of_getElem? (i := 19) rfl)) rfl
theorem wf_X7_68 : Cond.fieldLink RX7 68 "WingDeskModel" "way" "[I" ∈ gtbl := gtbl_of (tb4 (List.mem_of_getElem? (i := 20) rfl)) rfl
theorem wf_X7_182 : Cond.fieldLink RX7 182 "WingDeskModel" "hour" "I" ∈ gtbl := gtbl_of (tb4 (List.mem_of_getElem? (i := 21) rfl)) rfl
theorem wf_X7_195 : Cond.fieldLink RX7 195 "WingDeskModel" "waits" "I" ∈ gtbl := gtbl_of (tb4 (List.mem_of_getElem? (i := 22) rfl)) rfl
theorem wf_X7_71 : Cond.fieldLink RX7 71 "WingDeskModel" "waiting" "[I" ∈ gtbl := gtbl_of (tb4 (List.mem_of_getElem? (i := 23) rfl)) rfl
theorem wf_X7_74 : Cond.fieldLink RX7 74 "WingDeskModel" "found" "[I" ∈ gtbl := gtbl_of (tb4 (List.mem_of_getElem? (i := 24) rfl)) rfl
theorem wf_X7_133 : Cond.fieldLink RX7 133 "WingDeskModel" "offSet" "I" ∈ gtbl := gtbl_of (tb4 (List.mem_of_getElem? (i := 25) rfl)) rfl
theorem wf_X7_143 : Cond.fieldLink RX7 143 "WingDeskModel" "onSet" "I" ∈ gtbl := gtbl_of (tb4 (List.mem_of_getElem? (i := 26) rfl)) rfl
theorem wf_X7_156 : Cond.fieldLink RX7 156 "WingDeskModel" "bestSet" "I" ∈ gtbl := gtbl_of (tb4 (List.mem_of_getElem? (i := 27) rfl)) rfl
theorem wf_X7_77 : Cond.fieldLink RX7 77 "WingDeskModel" "shiftOf" "[I" ∈ gtbl := gtbl_of (tb4 (List.mem_of_getElem? (i := 28) rfl)) rfl
theorem wf_X7_169 : Cond.fieldLink RX7 169 "WingDeskModel" "units" "I" ∈ gtbl := gtbl_of (tb4 (List.mem_of_getElem? (i := 29) rfl)) rfl
theorem wf_X7_80 : Cond.fieldLink RX7 80 "WingDeskModel" "cameFrom" "[I" ∈ gtbl := gtbl_of (tb4 (List.mem_of_getElem? (i := 30) rfl)) rfl
theorem wf_X7_83 : Cond.fieldLink RX7 83 "WingDeskModel" "isMet" "[Z" ∈ gtbl := gtbl_of (tb4 (List.mem_of_getElem? (i := 31) rfl)) rfl
theorem wf_X7_87 : Cond.fieldLink RX7 87 "WingDeskModel" "trail" "[I" ∈ gtbl := gtbl_of (tb4 (List.mem_of_getElem? (i := 32) rfl)) rfl
theorem wf_X7_90 : Cond.fieldLink RX7 90 "WingDeskModel" "tried" "[I" ∈ gtbl := gtbl_of (tb4 (List.mem_of_getElem? (i := 33) rfl)) rfl
theorem wf_X7_93 : Cond.fieldLink RX7 93 "WingDeskModel" "body" "[I" ∈ gtbl := gtbl_of (tb4 (List.mem_of_getElem? (i := 34) rfl)) rfl
theorem wf_X7_198 : Cond.fieldLink RX7 198 "WingDeskModel" "bodySize" "I" ∈ gtbl := gtbl_of (tb4 (List.mem_of_getElem? (i := 35) rfl)) rfl
theorem wm_L_9 : Cond.methodLink RL 9 yX6_init ∈ gtbl := gtbl_of (tb1 (List.mem_of_getElem? (i := 14) rfl)) rfl
theorem wm_X6_1 : Cond.methodLink RX6 1 objectInit ∈ gtbl := gtbl_of (tb1 (List.mem_of_getElem? (i := 17) rfl)) rfl
theorem wm_X5_3 : Cond.methodLink RX5 3 objectInit ∈ gtbl := gtbl_of (tb1 (List.mem_of_getElem? (i := 25) rfl)) rfl
theorem wm_X2_3 : Cond.methodLink RX2 3 objectInit ∈ gtbl := gtbl_of (tb1 (List.mem_of_getElem? (i := 44) rfl)) rfl
theorem wm_X6_25 : Cond.methodLink RX6 25 yX1_init ∈ gtbl := gtbl_of (tb1 (List.mem_of_getElem? (i := 57) rfl)) rfl
theorem wm_X1_3 : Cond.methodLink RX1 3 objectInit ∈ gtbl := gtbl_of (tb1 (List.mem_of_getElem? (i := 60) rfl)) rfl
theorem wm_X4_3 : Cond.methodLink RX4 3 objectInit ∈ gtbl := gtbl_of (tb1 (List.mem_of_getElem? (i := 125) rfl)) rfl
theorem wm_X6_41 : Cond.methodLink RX6 41 yX3_init ∈ gtbl := gtbl_of (tb1 (List.mem_of_getElem? (i := 148) rfl)) rfl
theorem wm_X3_3 : Cond.methodLink RX3 3 objectInit ∈ gtbl := gtbl_of (tb1 (List.mem_of_getElem? (i := 151) rfl)) rfl
theorem wm_X6_50 : Cond.methodLink RX6 50 yX0_init ∈ gtbl := gtbl_of (tb1 (List.mem_of_getElem? (i := 176) rfl)) rfl
theorem wm_X0_3 : Cond.methodLink RX0 3 objectInit ∈ gtbl := gtbl_of (tb1 (List.mem_of_getElem? (i := 179) rfl)) rfl
theorem wm_L_13 : Cond.methodLink RL 13 yX6_piece ∈ gtbl := gtbl_of (tb1 (List.mem_of_getElem? (i := 221) rfl)) rfl
theorem wm_X6_68 : Cond.methodLink RX6 68 yX6_isPieceTold ∈ gtbl := gtbl_of (tb1 (List.mem_of_getElem? (i := 225) rfl)) rfl
theorem wm_X6_212 : Cond.methodLink RX6 212 yX6_nameIn ∈ gtbl := gtbl_of (tb1 (List.mem_of_getElem? (i := 228) rfl)) rfl
theorem wm_X6_88 : Cond.methodLink RX6 88 yX6_isWithin ∈ gtbl := gtbl_of (tb1 (List.mem_of_getElem? (i := 231) rfl)) rfl
theorem wm_X6_215 : Cond.methodLink RX6 215 yX6_placeIn ∈ gtbl := gtbl_of (tb1 (List.mem_of_getElem? (i := 234) rfl)) rfl
theorem wm_X6_218 : Cond.methodLink RX6 218 yX6_thickIn ∈ gtbl := gtbl_of (tb1 (List.mem_of_getElem? (i := 237) rfl)) rfl
theorem wm_X6_221 : Cond.methodLink RX6 221 yX6_kindIn ∈ gtbl := gtbl_of (tb2 (List.mem_of_getElem? (i := 0) rfl)) rfl
theorem wm_X6_224 : Cond.methodLink RX6 224 yX6_onIn ∈ gtbl := gtbl_of (tb2 (List.mem_of_getElem? (i := 3) rfl)) rfl
theorem wm_X6_227 : Cond.methodLink RX6 227 yX6_offIn ∈ gtbl := gtbl_of (tb2 (List.mem_of_getElem? (i := 6) rfl)) rfl
theorem wm_X6_230 : Cond.methodLink RX6 230 yX6_sizeIn ∈ gtbl := gtbl_of (tb2 (List.mem_of_getElem? (i := 9) rfl)) rfl
theorem wm_X6_233 : Cond.methodLink RX6 233 yX6_spanIn ∈ gtbl := gtbl_of (tb2 (List.mem_of_getElem? (i := 12) rfl)) rfl
theorem wm_X6_72 : Cond.methodLink RX6 72 yX6_finding ∈ gtbl := gtbl_of (tb2 (List.mem_of_getElem? (i := 15) rfl)) rfl
theorem wm_X6_76 : Cond.methodLink RX6 76 yX5_isFull ∈ gtbl := gtbl_of (tb2 (List.mem_of_getElem? (i := 20) rfl)) rfl
theorem wm_X6_80 : Cond.methodLink RX6 80 yX5_add ∈ gtbl := gtbl_of (tb2 (List.mem_of_getElem? (i := 24) rfl)) rfl
theorem wm_X5_27 : Cond.methodLink RX5 27 yX5_setFact ∈ gtbl := gtbl_of (tb2 (List.mem_of_getElem? (i := 29) rfl)) rfl
theorem wm_X5_19 : Cond.methodLink RX5 19 yX5_has ∈ gtbl := gtbl_of (tb2 (List.mem_of_getElem? (i := 33) rfl)) rfl
theorem wm_X5_52 : Cond.methodLink RX5 52 yX5_place ∈ gtbl := gtbl_of (tb2 (List.mem_of_getElem? (i := 44) rfl)) rfl
theorem wm_L_18 : Cond.methodLink RL 18 yX6_as ∈ gtbl := gtbl_of (tb2 (List.mem_of_getElem? (i := 48) rfl)) rfl
theorem wm_X6_84 : Cond.methodLink RX6 84 yX5_has ∈ gtbl := gtbl_of (tb2 (List.mem_of_getElem? (i := 52) rfl)) rfl
theorem wm_X6_91 : Cond.methodLink RX6 91 yX5_fact ∈ gtbl := gtbl_of (tb2 (List.mem_of_getElem? (i := 53) rfl)) rfl
theorem wm_L_23 : Cond.methodLink RL 23 yX6_about ∈ gtbl := gtbl_of (tb2 (List.mem_of_getElem? (i := 57) rfl)) rfl
theorem wm_L_27 : Cond.methodLink RL 27 yX6_wear ∈ gtbl := gtbl_of (tb2 (List.mem_of_getElem? (i := 61) rfl)) rfl
theorem wm_X6_95 : Cond.methodLink RX6 95 yX2_has ∈ gtbl := gtbl_of (tb2 (List.mem_of_getElem? (i := 65) rfl)) rfl
theorem wm_X6_96 : Cond.methodLink RX6 96 yX2_indexOf ∈ gtbl := gtbl_of (tb2 (List.mem_of_getElem? (i := 69) rfl)) rfl
theorem wm_X2_25 : Cond.methodLink RX2 25 yX2_sizeOf ∈ gtbl := gtbl_of (tb2 (List.mem_of_getElem? (i := 73) rfl)) rfl
theorem wm_X2_21 : Cond.methodLink RX2 21 yX2_has ∈ gtbl := gtbl_of (tb2 (List.mem_of_getElem? (i := 77) rfl)) rfl
theorem wm_X2_29 : Cond.methodLink RX2 29 yX2_at ∈ gtbl := gtbl_of (tb2 (List.mem_of_getElem? (i := 78) rfl)) rfl
theorem wm_X6_99 : Cond.methodLink RX6 99 yX2_sizeOf ∈ gtbl := gtbl_of (tb2 (List.mem_of_getElem? (i := 82) rfl)) rfl
theorem wm_X6_102 : Cond.methodLink RX6 102 yX2_append ∈ gtbl := gtbl_of (tb2 (List.mem_of_getElem? (i := 83) rfl)) rfl
theorem wm_X2_37 : Cond.methodLink RX2 37 yX2_noteLooksWith ∈ gtbl := gtbl_of (tb2 (List.mem_of_getElem? (i := 87) rfl)) rfl
theorem wm_L_31 : Cond.methodLink RL 31 yX6_bare ∈ gtbl := gtbl_of (tb2 (List.mem_of_getElem? (i := 92) rfl)) rfl
theorem wm_X6_105 : Cond.methodLink RX6 105 yX2_clear ∈ gtbl := gtbl_of (tb2 (List.mem_of_getElem? (i := 96) rfl)) rfl
theorem wm_L_36 : Cond.methodLink RL 36 yX6_look ∈ gtbl := gtbl_of (tb2 (List.mem_of_getElem? (i := 100) rfl)) rfl
theorem wm_X6_108 : Cond.methodLink RX6 108 yX2_at ∈ gtbl := gtbl_of (tb2 (List.mem_of_getElem? (i := 104) rfl)) rfl
theorem wm_L_40 : Cond.methodLink RL 40 yX6_limit ∈ gtbl := gtbl_of (tb2 (List.mem_of_getElem? (i := 105) rfl)) rfl
theorem wm_L_44 : Cond.methodLink RL 44 yX6_allowed ∈ gtbl := gtbl_of (tb2 (List.mem_of_getElem? (i := 109) rfl)) rfl
theorem wm_X6_111 : Cond.methodLink RX6 111 yX6_isChange ∈ gtbl := gtbl_of (tb2 (List.mem_of_getElem? (i := 113) rfl)) rfl
theorem wm_X6_245 : Cond.methodLink RX6 245 yX2_hasBits ∈ gtbl := gtbl_of (tb2 (List.mem_of_getElem? (i := 117) rfl)) rfl
theorem wm_X6_114 : Cond.methodLink RX6 114 yX6_isAllowed ∈ gtbl := gtbl_of (tb2 (List.mem_of_getElem? (i := 121) rfl)) rfl
theorem wm_X6_249 : Cond.methodLink RX6 249 yX1_prepare ∈ gtbl := gtbl_of (tb2 (List.mem_of_getElem? (i := 125) rfl)) rfl
theorem wm_X1_41 : Cond.methodLink RX1 41 yX2_sizeOf ∈ gtbl := gtbl_of (tb2 (List.mem_of_getElem? (i := 129) rfl)) rfl
theorem wm_X1_47 : Cond.methodLink RX1 47 yJ9_min_7cf53 ∈ gtbl := gtbl_of (tb2 (List.mem_of_getElem? (i := 130) rfl)) rfl
theorem wm_X1_60 : Cond.methodLink RX1 60 yX1_wigsOf ∈ gtbl := gtbl_of (tb2 (List.mem_of_getElem? (i := 133) rfl)) rfl
theorem wm_X1_79 : Cond.methodLink RX1 79 yX2_at ∈ gtbl := gtbl_of (tb2 (List.mem_of_getElem? (i := 137) rfl)) rfl
theorem wm_X1_82 : Cond.methodLink RX1 82 yX5_fact ∈ gtbl := gtbl_of (tb2 (List.mem_of_getElem? (i := 138) rfl)) rfl
theorem wm_X1_72 : Cond.methodLink RX1 72 yX1_prepareWorn ∈ gtbl := gtbl_of (tb2 (List.mem_of_getElem? (i := 139) rfl)) rfl
theorem wm_X1_87 : Cond.methodLink RX1 87 yX2_indexOf ∈ gtbl := gtbl_of (tb2 (List.mem_of_getElem? (i := 143) rfl)) rfl
theorem wm_X1_90 : Cond.methodLink RX1 90 yX1_aheadAtPlace ∈ gtbl := gtbl_of (tb2 (List.mem_of_getElem? (i := 144) rfl)) rfl
theorem wm_X1_105 : Cond.methodLink RX1 105 yX5_haveOnePlace ∈ gtbl := gtbl_of (tb2 (List.mem_of_getElem? (i := 148) rfl)) rfl
theorem wm_X5_55 : Cond.methodLink RX5 55 yX5_fact ∈ gtbl := gtbl_of (tb2 (List.mem_of_getElem? (i := 152) rfl)) rfl
theorem wm_X1_93 : Cond.methodLink RX1 93 yX1_isWantedUnder ∈ gtbl := gtbl_of (tb2 (List.mem_of_getElem? (i := 153) rfl)) rfl
theorem wm_X1_76 : Cond.methodLink RX1 76 yX1_prepareWanted ∈ gtbl := gtbl_of (tb2 (List.mem_of_getElem? (i := 160) rfl)) rfl
theorem wm_X1_101 : Cond.methodLink RX1 101 yX1_thickBefore ∈ gtbl := gtbl_of (tb2 (List.mem_of_getElem? (i := 164) rfl)) rfl
theorem wm_X6_253 : Cond.methodLink RX6 253 yX1_mayLieBeneath ∈ gtbl := gtbl_of (tb2 (List.mem_of_getElem? (i := 168) rfl)) rfl
theorem wm_L_48 : Cond.methodLink RL 48 yX6_told ∈ gtbl := gtbl_of (tb2 (List.mem_of_getElem? (i := 172) rfl)) rfl
theorem wm_X6_117 : Cond.methodLink RX6 117 yX1_handle ∈ gtbl := gtbl_of (tb2 (List.mem_of_getElem? (i := 176) rfl)) rfl
theorem wm_X1_111 : Cond.methodLink RX1 111 yX1_missing ∈ gtbl := gtbl_of (tb2 (List.mem_of_getElem? (i := 180) rfl)) rfl
theorem wm_X1_117 : Cond.methodLink RX1 117 yX1_forcedOff ∈ gtbl := gtbl_of (tb2 (List.mem_of_getElem? (i := 184) rfl)) rfl
theorem wm_X1_121 : Cond.methodLink RX1 121 yX1_mustComeOff ∈ gtbl := gtbl_of (tb2 (List.mem_of_getElem? (i := 188) rfl)) rfl
theorem wm_X6_127 : Cond.methodLink RX6 127 yJ6_bitCount_0f7a4 ∈ gtbl := gtbl_of (tb2 (List.mem_of_getElem? (i := 192) rfl)) rfl
theorem wm_L_53 : Cond.methodLink RL 53 yX6_seconds ∈ gtbl := gtbl_of (tb2 (List.mem_of_getElem? (i := 198) rfl)) rfl
theorem wm_X6_132 : Cond.methodLink RX6 132 yX1_secondsWith ∈ gtbl := gtbl_of (tb2 (List.mem_of_getElem? (i := 202) rfl)) rfl
theorem wm_X1_129 : Cond.methodLink RX1 129 yX1_sumOf ∈ gtbl := gtbl_of (tb2 (List.mem_of_getElem? (i := 208) rfl)) rfl
theorem wm_X1_133 : Cond.methodLink RX1 133 yX1_mostOf ∈ gtbl := gtbl_of (tb2 (List.mem_of_getElem? (i := 211) rfl)) rfl
theorem wm_X1_136 : Cond.methodLink RX1 136 yJ9_max_7cf53 ∈ gtbl := gtbl_of (tb2 (List.mem_of_getElem? (i := 214) rfl)) rfl
theorem wm_L_57 : Cond.methodLink RL 57 yX6_best ∈ gtbl := gtbl_of (tb2 (List.mem_of_getElem? (i := 218) rfl)) rfl
theorem wm_X6_136 : Cond.methodLink RX6 136 yX1_findBest ∈ gtbl := gtbl_of (tb2 (List.mem_of_getElem? (i := 222) rfl)) rfl
theorem wm_X1_139 : Cond.methodLink RX1 139 yX1_prepare ∈ gtbl := gtbl_of (tb2 (List.mem_of_getElem? (i := 226) rfl)) rfl
theorem wm_X1_149 : Cond.methodLink RX1 149 yX1_mayLieBeneath ∈ gtbl := gtbl_of (tb2 (List.mem_of_getElem? (i := 227) rfl)) rfl
theorem wm_X1_152 : Cond.methodLink RX1 152 yX1_handle ∈ gtbl := gtbl_of (tb2 (List.mem_of_getElem? (i := 228) rfl)) rfl
theorem wm_X1_156 : Cond.methodLink RX1 156 yX1_secondsWith ∈ gtbl := gtbl_of (tb2 (List.mem_of_getElem? (i := 229) rfl)) rfl
theorem wm_X1_159 : Cond.methodLink RX1 159 yX1_keepIfBetter ∈ gtbl := gtbl_of (tb2 (List.mem_of_getElem? (i := 230) rfl)) rfl
theorem wm_X1_162 : Cond.methodLink RX1 162 yJ6_bitCount_0f7a4 ∈ gtbl := gtbl_of (tb2 (List.mem_of_getElem? (i := 234) rfl)) rfl
theorem wm_L_61 : Cond.methodLink RL 61 yX6_shift ∈ gtbl := gtbl_of (tb2 (List.mem_of_getElem? (i := 235) rfl)) rfl
theorem wm_X6_146 : Cond.methodLink RX6 146 yX6_isShiftTold ∈ gtbl := gtbl_of (tb2 (List.mem_of_getElem? (i := 239) rfl)) rfl
theorem wm_X6_236 : Cond.methodLink RX6 236 yX6_beforeIn ∈ gtbl := gtbl_of (tb3 (List.mem_of_getElem? (i := 2) rfl)) rfl
theorem wm_X6_239 : Cond.methodLink RX6 239 yX6_afterIn ∈ gtbl := gtbl_of (tb3 (List.mem_of_getElem? (i := 5) rfl)) rfl
theorem wm_X6_242 : Cond.methodLink RX6 242 yX6_doorIn ∈ gtbl := gtbl_of (tb3 (List.mem_of_getElem? (i := 8) rfl)) rfl
theorem wm_X6_149 : Cond.methodLink RX6 149 yX4_isFull ∈ gtbl := gtbl_of (tb3 (List.mem_of_getElem? (i := 11) rfl)) rfl
theorem wm_X6_150 : Cond.methodLink RX6 150 yX4_add ∈ gtbl := gtbl_of (tb3 (List.mem_of_getElem? (i := 15) rfl)) rfl
theorem wm_L_65 : Cond.methodLink RL 65 yX6_less ∈ gtbl := gtbl_of (tb3 (List.mem_of_getElem? (i := 19) rfl)) rfl
theorem wm_X6_156 : Cond.methodLink RX6 156 yX4_dropLatest ∈ gtbl := gtbl_of (tb3 (List.mem_of_getElem? (i := 23) rfl)) rfl
theorem wm_X4_31 : Cond.methodLink RX4 31 yJ9_max_7cf53 ∈ gtbl := gtbl_of (tb3 (List.mem_of_getElem? (i := 27) rfl)) rfl
theorem wm_L_70 : Cond.methodLink RL 70 yX6_way ∈ gtbl := gtbl_of (tb3 (List.mem_of_getElem? (i := 28) rfl)) rfl
theorem wm_X6_160 : Cond.methodLink RX6 160 yX4_setWay ∈ gtbl := gtbl_of (tb3 (List.mem_of_getElem? (i := 32) rfl)) rfl
theorem wm_X4_48 : Cond.methodLink RX4 48 yX4_wayBetween ∈ gtbl := gtbl_of (tb3 (List.mem_of_getElem? (i := 36) rfl)) rfl
theorem wm_L_74 : Cond.methodLink RL 74 yX6_fits ∈ gtbl := gtbl_of (tb3 (List.mem_of_getElem? (i := 41) rfl)) rfl
theorem wm_X6_163 : Cond.methodLink RX6 163 yX4_has ∈ gtbl := gtbl_of (tb3 (List.mem_of_getElem? (i := 45) rfl)) rfl
theorem wm_X6_164 : Cond.methodLink RX6 164 yX4_lookBefore ∈ gtbl := gtbl_of (tb3 (List.mem_of_getElem? (i := 49) rfl)) rfl
theorem wm_X4_37 : Cond.methodLink RX4 37 yX4_has ∈ gtbl := gtbl_of (tb3 (List.mem_of_getElem? (i := 53) rfl)) rfl
theorem wm_X6_167 : Cond.methodLink RX6 167 yX4_lookAfter ∈ gtbl := gtbl_of (tb3 (List.mem_of_getElem? (i := 55) rfl)) rfl
theorem wm_X6_170 : Cond.methodLink RX6 170 yX4_handsOf ∈ gtbl := gtbl_of (tb3 (List.mem_of_getElem? (i := 60) rfl)) rfl
theorem wm_X6_173 : Cond.methodLink RX6 173 yX4_lengthOf ∈ gtbl := gtbl_of (tb3 (List.mem_of_getElem? (i := 64) rfl)) rfl
theorem wm_L_78 : Cond.methodLink RL 78 yX6_dressers ∈ gtbl := gtbl_of (tb3 (List.mem_of_getElem? (i := 68) rfl)) rfl
theorem wm_X6_176 : Cond.methodLink RX6 176 yX3_fewest ∈ gtbl := gtbl_of (tb3 (List.mem_of_getElem? (i := 72) rfl)) rfl
theorem wm_X3_31 : Cond.methodLink RX3 31 yJ7_fill_53178 ∈ gtbl := gtbl_of (tb3 (List.mem_of_getElem? (i := 76) rfl)) rfl
theorem wm_X3_37 : Cond.methodLink RX3 37 yX4_handsOf ∈ gtbl := gtbl_of (tb3 (List.mem_of_getElem? (i := 79) rfl)) rfl
theorem wm_X3_43 : Cond.methodLink RX3 43 yX3_sendOn ∈ gtbl := gtbl_of (tb3 (List.mem_of_getElem? (i := 80) rfl)) rfl
theorem wm_X3_46 : Cond.methodLink RX3 46 yX3_search ∈ gtbl := gtbl_of (tb3 (List.mem_of_getElem? (i := 84) rfl)) rfl
theorem wm_X3_57 : Cond.methodLink RX3 57 yX3_enqueue ∈ gtbl := gtbl_of (tb3 (List.mem_of_getElem? (i := 88) rfl)) rfl
theorem wm_X3_60 : Cond.methodLink RX3 60 yX4_mayGo ∈ gtbl := gtbl_of (tb3 (List.mem_of_getElem? (i := 93) rfl)) rfl
theorem wm_X3_64 : Cond.methodLink RX3 64 yX3_enqueueThoseGoingTo ∈ gtbl := gtbl_of (tb3 (List.mem_of_getElem? (i := 98) rfl)) rfl
theorem wm_X3_68 : Cond.methodLink RX3 68 yX3_goingBetween ∈ gtbl := gtbl_of (tb3 (List.mem_of_getElem? (i := 102) rfl)) rfl
theorem wm_X3_49 : Cond.methodLink RX3 49 yX3_settle ∈ gtbl := gtbl_of (tb3 (List.mem_of_getElem? (i := 106) rfl)) rfl
theorem wm_X3_76 : Cond.methodLink RX3 76 yX3_noteGoing ∈ gtbl := gtbl_of (tb3 (List.mem_of_getElem? (i := 110) rfl)) rfl
theorem wm_L_82 : Cond.methodLink RL 82 yX6_worn ∈ gtbl := gtbl_of (tb3 (List.mem_of_getElem? (i := 114) rfl)) rfl
theorem wm_X6_179 : Cond.methodLink RX6 179 yX5_place ∈ gtbl := gtbl_of (tb3 (List.mem_of_getElem? (i := 118) rfl)) rfl
theorem wm_L_86 : Cond.methodLink RL 86 yX6_wash ∈ gtbl := gtbl_of (tb3 (List.mem_of_getElem? (i := 119) rfl)) rfl
theorem wm_X6_183 : Cond.methodLink RX6 183 yX5_countInWash ∈ gtbl := gtbl_of (tb3 (List.mem_of_getElem? (i := 123) rfl)) rfl
theorem wm_X6_186 : Cond.methodLink RX6 186 yX5_soak ∈ gtbl := gtbl_of (tb3 (List.mem_of_getElem? (i := 127) rfl)) rfl
theorem wm_L_90 : Cond.methodLink RL 90 yX6_hours ∈ gtbl := gtbl_of (tb3 (List.mem_of_getElem? (i := 131) rfl)) rfl
theorem wm_X6_193 : Cond.methodLink RX6 193 yX5_passHours ∈ gtbl := gtbl_of (tb3 (List.mem_of_getElem? (i := 136) rfl)) rfl
theorem wm_X5_71 : Cond.methodLink RX5 71 yX5_dries ∈ gtbl := gtbl_of (tb3 (List.mem_of_getElem? (i := 140) rfl)) rfl
theorem wm_L_94 : Cond.methodLink RL 94 yX6_tonight ∈ gtbl := gtbl_of (tb3 (List.mem_of_getElem? (i := 144) rfl)) rfl
theorem wm_X6_196 : Cond.methodLink RX6 196 yX6_costTonight ∈ gtbl := gtbl_of (tb3 (List.mem_of_getElem? (i := 148) rfl)) rfl
theorem wm_X6_256 : Cond.methodLink RX6 256 yX5_sizesAway ∈ gtbl := gtbl_of (tb3 (List.mem_of_getElem? (i := 152) rfl)) rfl
theorem wm_X5_63 : Cond.methodLink RX5 63 yJ9_max_7cf53 ∈ gtbl := gtbl_of (tb3 (List.mem_of_getElem? (i := 156) rfl)) rfl
theorem wm_X6_259 : Cond.methodLink RX6 259 yX6_countAheadForSwap ∈ gtbl := gtbl_of (tb3 (List.mem_of_getElem? (i := 157) rfl)) rfl
theorem wm_X6_265 : Cond.methodLink RX6 265 yX5_areAlike ∈ gtbl := gtbl_of (tb3 (List.mem_of_getElem? (i := 161) rfl)) rfl
theorem wm_X5_59 : Cond.methodLink RX5 59 yX5_haveOnePlace ∈ gtbl := gtbl_of (tb3 (List.mem_of_getElem? (i := 165) rfl)) rfl
theorem wm_X6_262 : Cond.methodLink RX6 262 yX6_countSpares ∈ gtbl := gtbl_of (tb3 (List.mem_of_getElem? (i := 166) rfl)) rfl
theorem wm_X6_268 : Cond.methodLink RX6 268 yX2_isInNone ∈ gtbl := gtbl_of (tb3 (List.mem_of_getElem? (i := 170) rfl)) rfl
theorem wm_L_98 : Cond.methodLink RL 98 yX6_tell ∈ gtbl := gtbl_of (tb3 (List.mem_of_getElem? (i := 174) rfl)) rfl
theorem wm_L_102 : Cond.methodLink RL 102 yX6_check ∈ gtbl := gtbl_of (tb3 (List.mem_of_getElem? (i := 178) rfl)) rfl
theorem wm_X6_202 : Cond.methodLink RX6 202 yX6_dressForChange ∈ gtbl := gtbl_of (tb3 (List.mem_of_getElem? (i := 182) rfl)) rfl
theorem wm_X6_271 : Cond.methodLink RX6 271 yX0_undress ∈ gtbl := gtbl_of (tb3 (List.mem_of_getElem? (i := 186) rfl)) rfl
theorem wm_X0_19 : Cond.methodLink RX0 19 yJ7_fill_53178 ∈ gtbl := gtbl_of (tb3 (List.mem_of_getElem? (i := 190) rfl)) rfl
theorem wm_X6_274 : Cond.methodLink RX6 274 yX6_hasBit ∈ gtbl := gtbl_of (tb3 (List.mem_of_getElem? (i := 191) rfl)) rfl
theorem wm_X6_277 : Cond.methodLink RX6 277 yX0_putOn ∈ gtbl := gtbl_of (tb3 (List.mem_of_getElem? (i := 192) rfl)) rfl
theorem wm_X0_29 : Cond.methodLink RX0 29 yX5_has ∈ gtbl := gtbl_of (tb3 (List.mem_of_getElem? (i := 196) rfl)) rfl
theorem wm_X0_35 : Cond.methodLink RX0 35 yX0_hasOn ∈ gtbl := gtbl_of (tb3 (List.mem_of_getElem? (i := 197) rfl)) rfl
theorem wm_X6_205 : Cond.methodLink RX6 205 yX0_handle ∈ gtbl := gtbl_of (tb3 (List.mem_of_getElem? (i := 201) rfl)) rfl
theorem wm_X0_42 : Cond.methodLink RX0 42 yX0_putOn ∈ gtbl := gtbl_of (tb3 (List.mem_of_getElem? (i := 205) rfl)) rfl
theorem wm_X0_45 : Cond.methodLink RX0 45 yX0_takeOff ∈ gtbl := gtbl_of (tb3 (List.mem_of_getElem? (i := 206) rfl)) rfl
theorem wm_X0_48 : Cond.methodLink RX0 48 yX0_liesOver ∈ gtbl := gtbl_of (tb3 (List.mem_of_getElem? (i := 210) rfl)) rfl
theorem wm_X0_38 : Cond.methodLink RX0 38 yX5_haveOnePlace ∈ gtbl := gtbl_of (tb3 (List.mem_of_getElem? (i := 214) rfl)) rfl
theorem wm_X6_207 : Cond.methodLink RX6 207 yX6_isJustWorn ∈ gtbl := gtbl_of (tb3 (List.mem_of_getElem? (i := 215) rfl)) rfl
theorem wm_X6_280 : Cond.methodLink RX6 280 yX0_countWorn ∈ gtbl := gtbl_of (tb3 (List.mem_of_getElem? (i := 219) rfl)) rfl
theorem wm_X6_283 : Cond.methodLink RX6 283 yX0_hasOn ∈ gtbl := gtbl_of (tb3 (List.mem_of_getElem? (i := 223) rfl)) rfl
theorem wm_X6_286 : Cond.methodLink RX6 286 yX0_liesOver ∈ gtbl := gtbl_of (tb3 (List.mem_of_getElem? (i := 224) rfl)) rfl
theorem wm_L_106 : Cond.methodLink RL 106 yX6_count ∈ gtbl := gtbl_of (tb3 (List.mem_of_getElem? (i := 225) rfl)) rfl
theorem wm_L_110 : Cond.methodLink RL 110 yX6_found ∈ gtbl := gtbl_of (tb3 (List.mem_of_getElem? (i := 229) rfl)) rfl
theorem wm_L_12 : Cond.methodLink RL 12 yX7_init ∈ gtbl := gtbl_of (tb3 (List.mem_of_getElem? (i := 235) rfl)) rfl
theorem wm_X7_1 : Cond.methodLink RX7 1 objectInit ∈ gtbl := gtbl_of (tb3 (List.mem_of_getElem? (i := 238) rfl)) rfl
theorem wm_L_17 : Cond.methodLink RL 17 yX7_piece ∈ gtbl := gtbl_of (tb4 (List.mem_of_getElem? (i := 112) rfl)) rfl
theorem wm_X7_100 : Cond.methodLink RX7 100 yX7_isIn ∈ gtbl := gtbl_of (tb4 (List.mem_of_getElem? (i := 116) rfl)) rfl
theorem wm_X7_104 : Cond.methodLink RX7 104 yX7_finding ∈ gtbl := gtbl_of (tb4 (List.mem_of_getElem? (i := 119) rfl)) rfl
theorem wm_L_22 : Cond.methodLink RL 22 yX7_as ∈ gtbl := gtbl_of (tb4 (List.mem_of_getElem? (i := 124) rfl)) rfl
theorem wm_X7_108 : Cond.methodLink RX7 108 yX7_isPiece ∈ gtbl := gtbl_of (tb4 (List.mem_of_getElem? (i := 128) rfl)) rfl
theorem wm_L_26 : Cond.methodLink RL 26 yX7_about ∈ gtbl := gtbl_of (tb4 (List.mem_of_getElem? (i := 132) rfl)) rfl
theorem wm_L_30 : Cond.methodLink RL 30 yX7_wear ∈ gtbl := gtbl_of (tb4 (List.mem_of_getElem? (i := 136) rfl)) rfl
theorem wm_X7_112 : Cond.methodLink RX7 112 yX7_isLook ∈ gtbl := gtbl_of (tb4 (List.mem_of_getElem? (i := 140) rfl)) rfl
theorem wm_X7_115 : Cond.methodLink RX7 115 yX7_rowOf ∈ gtbl := gtbl_of (tb4 (List.mem_of_getElem? (i := 143) rfl)) rfl
theorem wm_L_35 : Cond.methodLink RL 35 yX7_bare ∈ gtbl := gtbl_of (tb4 (List.mem_of_getElem? (i := 147) rfl)) rfl
theorem wm_L_39 : Cond.methodLink RL 39 yX7_look ∈ gtbl := gtbl_of (tb4 (List.mem_of_getElem? (i := 151) rfl)) rfl
theorem wm_L_43 : Cond.methodLink RL 43 yX7_limit ∈ gtbl := gtbl_of (tb4 (List.mem_of_getElem? (i := 155) rfl)) rfl
theorem wm_L_47 : Cond.methodLink RL 47 yX7_allowed ∈ gtbl := gtbl_of (tb4 (List.mem_of_getElem? (i := 159) rfl)) rfl
theorem wm_X7_127 : Cond.methodLink RX7 127 yX7_isChange ∈ gtbl := gtbl_of (tb4 (List.mem_of_getElem? (i := 163) rfl)) rfl
theorem wm_X7_130 : Cond.methodLink RX7 130 yX7_isAllowed ∈ gtbl := gtbl_of (tb4 (List.mem_of_getElem? (i := 167) rfl)) rfl
theorem wm_X7_119 : Cond.methodLink RX7 119 yX7_has ∈ gtbl := gtbl_of (tb4 (List.mem_of_getElem? (i := 171) rfl)) rfl
theorem wm_X7_123 : Cond.methodLink RX7 123 yX7_thickAt ∈ gtbl := gtbl_of (tb4 (List.mem_of_getElem? (i := 174) rfl)) rfl
theorem wm_L_52 : Cond.methodLink RL 52 yX7_told ∈ gtbl := gtbl_of (tb4 (List.mem_of_getElem? (i := 178) rfl)) rfl
theorem wm_X7_146 : Cond.methodLink RX7 146 yX7_tell ∈ gtbl := gtbl_of (tb4 (List.mem_of_getElem? (i := 182) rfl)) rfl
theorem wm_X7_139 : Cond.methodLink RX7 139 yX7_mustOff ∈ gtbl := gtbl_of (tb4 (List.mem_of_getElem? (i := 186) rfl)) rfl
theorem wm_X7_136 : Cond.methodLink RX7 136 yX7_isOff ∈ gtbl := gtbl_of (tb4 (List.mem_of_getElem? (i := 190) rfl)) rfl
theorem wm_X7_150 : Cond.methodLink RX7 150 yX7_countOf ∈ gtbl := gtbl_of (tb4 (List.mem_of_getElem? (i := 194) rfl)) rfl
theorem wm_L_56 : Cond.methodLink RL 56 yX7_seconds ∈ gtbl := gtbl_of (tb4 (List.mem_of_getElem? (i := 197) rfl)) rfl
theorem wm_X7_153 : Cond.methodLink RX7 153 yX7_secondsOf ∈ gtbl := gtbl_of (tb4 (List.mem_of_getElem? (i := 201) rfl)) rfl
theorem wm_L_60 : Cond.methodLink RL 60 yX7_best ∈ gtbl := gtbl_of (tb4 (List.mem_of_getElem? (i := 205) rfl)) rfl
theorem wm_X7_159 : Cond.methodLink RX7 159 yX7_bestOf ∈ gtbl := gtbl_of (tb4 (List.mem_of_getElem? (i := 209) rfl)) rfl
theorem wm_L_64 : Cond.methodLink RL 64 yX7_shift ∈ gtbl := gtbl_of (tb4 (List.mem_of_getElem? (i := 213) rfl)) rfl
theorem wm_X7_163 : Cond.methodLink RX7 163 yX7_isDoor ∈ gtbl := gtbl_of (tb4 (List.mem_of_getElem? (i := 217) rfl)) rfl
theorem wm_L_69 : Cond.methodLink RL 69 yX7_less ∈ gtbl := gtbl_of (tb4 (List.mem_of_getElem? (i := 220) rfl)) rfl
theorem wm_L_73 : Cond.methodLink RL 73 yX7_way ∈ gtbl := gtbl_of (tb4 (List.mem_of_getElem? (i := 224) rfl)) rfl
theorem wm_L_77 : Cond.methodLink RL 77 yX7_fits ∈ gtbl := gtbl_of (tb4 (List.mem_of_getElem? (i := 228) rfl)) rfl
theorem wm_L_81 : Cond.methodLink RL 81 yX7_dressers ∈ gtbl := gtbl_of (tb4 (List.mem_of_getElem? (i := 232) rfl)) rfl
theorem wm_X7_175 : Cond.methodLink RX7 175 yX7_finds ∈ gtbl := gtbl_of (tb4 (List.mem_of_getElem? (i := 236) rfl)) rfl
theorem wm_X7_172 : Cond.methodLink RX7 172 yX7_canGo ∈ gtbl := gtbl_of (tb5 (List.mem_of_getElem? (i := 0) rfl)) rfl
theorem wm_L_85 : Cond.methodLink RL 85 yX7_worn ∈ gtbl := gtbl_of (tb5 (List.mem_of_getElem? (i := 4) rfl)) rfl
theorem wm_L_89 : Cond.methodLink RL 89 yX7_wash ∈ gtbl := gtbl_of (tb5 (List.mem_of_getElem? (i := 8) rfl)) rfl
theorem wm_X7_178 : Cond.methodLink RX7 178 yX7_washing ∈ gtbl := gtbl_of (tb5 (List.mem_of_getElem? (i := 12) rfl)) rfl
theorem wm_L_93 : Cond.methodLink RL 93 yX7_hours ∈ gtbl := gtbl_of (tb5 (List.mem_of_getElem? (i := 16) rfl)) rfl
theorem wm_L_97 : Cond.methodLink RL 97 yX7_tonight ∈ gtbl := gtbl_of (tb5 (List.mem_of_getElem? (i := 21) rfl)) rfl
theorem wm_X7_186 : Cond.methodLink RX7 186 yX7_away ∈ gtbl := gtbl_of (tb5 (List.mem_of_getElem? (i := 25) rfl)) rfl
theorem wm_X7_192 : Cond.methodLink RX7 192 yX7_isFor ∈ gtbl := gtbl_of (tb5 (List.mem_of_getElem? (i := 29) rfl)) rfl
theorem wm_X7_189 : Cond.methodLink RX7 189 yX7_isInLook ∈ gtbl := gtbl_of (tb5 (List.mem_of_getElem? (i := 33) rfl)) rfl
theorem wm_L_101 : Cond.methodLink RL 101 yX7_tell_ ∈ gtbl := gtbl_of (tb5 (List.mem_of_getElem? (i := 37) rfl)) rfl
theorem wm_L_105 : Cond.methodLink RL 105 yX7_check ∈ gtbl := gtbl_of (tb5 (List.mem_of_getElem? (i := 41) rfl)) rfl
theorem wm_X7_204 : Cond.methodLink RX7 204 yX7_handles ∈ gtbl := gtbl_of (tb5 (List.mem_of_getElem? (i := 45) rfl)) rfl
theorem wm_X7_201 : Cond.methodLink RX7 201 yX7_bodyPlace ∈ gtbl := gtbl_of (tb5 (List.mem_of_getElem? (i := 49) rfl)) rfl
theorem wm_X7_207 : Cond.methodLink RX7 207 yX7_isWorn ∈ gtbl := gtbl_of (tb5 (List.mem_of_getElem? (i := 53) rfl)) rfl
theorem wm_L_109 : Cond.methodLink RL 109 yX7_count ∈ gtbl := gtbl_of (tb5 (List.mem_of_getElem? (i := 57) rfl)) rfl
theorem wm_L_113 : Cond.methodLink RL 113 yX7_found ∈ gtbl := gtbl_of (tb5 (List.mem_of_getElem? (i := 61) rfl)) rfl
theorem wc_X6_211 : Cond.constant RX6 211 (-1000000) ∈ gtbl := gtbl_of (tb2 (List.mem_of_getElem? (i := 19) rfl)) rfl
theorem wc_J6_265 : Cond.constant RJ6 265 (1431655765) ∈ gtbl := gtbl_of (tb2 (List.mem_of_getElem? (i := 195) rfl)) rfl
theorem wc_J6_266 : Cond.constant RJ6 266 (858993459) ∈ gtbl := gtbl_of (tb2 (List.mem_of_getElem? (i := 196) rfl)) rfl
theorem wc_J6_267 : Cond.constant RJ6 267 (252645135) ∈ gtbl := gtbl_of (tb2 (List.mem_of_getElem? (i := 197) rfl)) rfl
theorem wc_X1_128 : Cond.constant RX1 128 (1000000) ∈ gtbl := gtbl_of (tb2 (List.mem_of_getElem? (i := 207) rfl)) rfl
theorem wc_X6_135 : Cond.constant RX6 135 (1000000) ∈ gtbl := gtbl_of (tb2 (List.mem_of_getElem? (i := 217) rfl)) rfl
theorem wc_X6_192 : Cond.constant RX6 192 (100000) ∈ gtbl := gtbl_of (tb3 (List.mem_of_getElem? (i := 135) rfl)) rfl
theorem wc_X7_96 : Cond.constant RX7 96 (-1000000) ∈ gtbl := gtbl_of (tb4 (List.mem_of_getElem? (i := 123) rfl)) rfl
theorem wc_X7_185 : Cond.constant RX7 185 (100000) ∈ gtbl := gtbl_of (tb5 (List.mem_of_getElem? (i := 20) rfl)) rfl
def CalV (y : MethodName) (bytes : ByteArray) (maxL : Nat) (ret : Option FieldType) (n : Nat) : Prop := Cond.code y bytes maxL ret ∈ gtbl ∧ Cond.instanceMethod y ∈ gtbl ∧ Cond.selects y.cls y y ∈ gtbl ∧ Cond.initialized y.cls ∈ gtbl ∧ (y.cls ≠ "java/lang/invoke/MethodHandle" ∧ y.cls ≠ "java/lang/invoke/VarHandle" ∧ (parseMethodDescriptor y.desc).map (fun d => d.parameters.length) = some n)
def CalS (y : MethodName) (bytes : ByteArray) (maxL : Nat) (ret : Option FieldType) (n : Nat) : Prop := Cond.code y bytes maxL ret ∈ gtbl ∧ Cond.static y ∈ gtbl ∧ Cond.initialized y.cls ∈ gtbl ∧ (y.cls ≠ "java/lang/invoke/MethodHandle" ∧ y.cls ≠ "java/lang/invoke/VarHandle" ∧ (parseMethodDescriptor y.desc).map (fun d => d.parameters.length) = some n)
theorem wk_X6_init : Cond.code yX6_init cX6_init 1 none ∈ gtbl := gtbl_of (tb1 (List.mem_of_getElem? (i := 16) rfl)) rfl
theorem wn_X6_init : Cond.instanceMethod yX6_init ∈ gtbl := gtbl_of (tb1 (List.mem_of_getElem? (i := 15) rfl)) rfl
theorem wk_X5_init : Cond.code yX5_init cX5_init 1 none ∈ gtbl := gtbl_of (tb1 (List.mem_of_getElem? (i := 24) rfl)) rfl
theorem wn_X5_init : Cond.instanceMethod yX5_init ∈ gtbl := gtbl_of (tb1 (List.mem_of_getElem? (i := 23) rfl)) rfl
theorem wk_X2_init : Cond.code yX2_init cX2_init 1 none ∈ gtbl := gtbl_of (tb1 (List.mem_of_getElem? (i := 43) rfl)) rfl
theorem wn_X2_init : Cond.instanceMethod yX2_init ∈ gtbl := gtbl_of (tb1 (List.mem_of_getElem? (i := 42) rfl)) rfl
theorem wk_X1_init : Cond.code yX1_init cX1_init 3 none ∈ gtbl := gtbl_of (tb1 (List.mem_of_getElem? (i := 59) rfl)) rfl
theorem wn_X1_init : Cond.instanceMethod yX1_init ∈ gtbl := gtbl_of (tb1 (List.mem_of_getElem? (i := 58) rfl)) rfl
theorem wk_X4_init : Cond.code yX4_init cX4_init 1 none ∈ gtbl := gtbl_of (tb1 (List.mem_of_getElem? (i := 124) rfl)) rfl
theorem wn_X4_init : Cond.instanceMethod yX4_init ∈ gtbl := gtbl_of (tb1 (List.mem_of_getElem? (i := 123) rfl)) rfl
theorem wk_X3_init : Cond.code yX3_init cX3_init 2 none ∈ gtbl := gtbl_of (tb1 (List.mem_of_getElem? (i := 150) rfl)) rfl
theorem wn_X3_init : Cond.instanceMethod yX3_init ∈ gtbl := gtbl_of (tb1 (List.mem_of_getElem? (i := 149) rfl)) rfl
theorem wk_X0_init : Cond.code yX0_init cX0_init 2 none ∈ gtbl := gtbl_of (tb1 (List.mem_of_getElem? (i := 178) rfl)) rfl
theorem wn_X0_init : Cond.instanceMethod yX0_init ∈ gtbl := gtbl_of (tb1 (List.mem_of_getElem? (i := 177) rfl)) rfl
theorem wk_X6_piece : Cond.code yX6_piece cX6_piece 4 (some .int) ∈ gtbl := gtbl_of (tb1 (List.mem_of_getElem? (i := 224) rfl)) rfl
theorem wn_X6_piece : Cond.instanceMethod yX6_piece ∈ gtbl := gtbl_of (tb1 (List.mem_of_getElem? (i := 222) rfl)) rfl
theorem wl_X6_piece : Cond.selects RX6 yX6_piece yX6_piece ∈ gtbl := gtbl_of (tb1 (List.mem_of_getElem? (i := 223) rfl)) rfl
theorem cv_X6_piece : CalV yX6_piece cX6_piece 4 (some .int) 3 := ⟨wk_X6_piece, wn_X6_piece, wl_X6_piece, wi_X6, ⟨by decide +kernel, by decide +kernel, by decide +kernel⟩⟩
theorem wk_X6_isPieceTold : Cond.code yX6_isPieceTold cX6_isPieceTold 3 (some .boolean) ∈ gtbl := gtbl_of (tb1 (List.mem_of_getElem? (i := 227) rfl)) rfl
theorem ws_X6_isPieceTold : Cond.static yX6_isPieceTold ∈ gtbl := gtbl_of (tb1 (List.mem_of_getElem? (i := 226) rfl)) rfl
theorem cs_X6_isPieceTold : CalS yX6_isPieceTold cX6_isPieceTold 3 (some .boolean) 3 := ⟨wk_X6_isPieceTold, ws_X6_isPieceTold, wi_X6, ⟨by decide +kernel, by decide +kernel, by decide +kernel⟩⟩
theorem wk_X6_nameIn : Cond.code yX6_nameIn cX6_nameIn 1 (some .int) ∈ gtbl := gtbl_of (tb1 (List.mem_of_getElem? (i := 230) rfl)) rfl
theorem ws_X6_nameIn : Cond.static yX6_nameIn ∈ gtbl := gtbl_of (tb1 (List.mem_of_getElem? (i := 229) rfl)) rfl
theorem cs_X6_nameIn : CalS yX6_nameIn cX6_nameIn 1 (some .int) 1 := ⟨wk_X6_nameIn, ws_X6_nameIn, wi_X6, ⟨by decide +kernel, by decide +kernel, by decide +kernel⟩⟩
theorem wk_X6_isWithin : Cond.code yX6_isWithin cX6_isWithin 3 (some .boolean) ∈ gtbl := gtbl_of (tb1 (List.mem_of_getElem? (i := 233) rfl)) rfl
theorem ws_X6_isWithin : Cond.static yX6_isWithin ∈ gtbl := gtbl_of (tb1 (List.mem_of_getElem? (i := 232) rfl)) rfl
theorem cs_X6_isWithin : CalS yX6_isWithin cX6_isWithin 3 (some .boolean) 3 := ⟨wk_X6_isWithin, ws_X6_isWithin, wi_X6, ⟨by decide +kernel, by decide +kernel, by decide +kernel⟩⟩
theorem wk_X6_placeIn : Cond.code yX6_placeIn cX6_placeIn 1 (some .int) ∈ gtbl := gtbl_of (tb1 (List.mem_of_getElem? (i := 236) rfl)) rfl
theorem ws_X6_placeIn : Cond.static yX6_placeIn ∈ gtbl := gtbl_of (tb1 (List.mem_of_getElem? (i := 235) rfl)) rfl
theorem cs_X6_placeIn : CalS yX6_placeIn cX6_placeIn 1 (some .int) 1 := ⟨wk_X6_placeIn, ws_X6_placeIn, wi_X6, ⟨by decide +kernel, by decide +kernel, by decide +kernel⟩⟩
theorem wk_X6_thickIn : Cond.code yX6_thickIn cX6_thickIn 1 (some .int) ∈ gtbl := gtbl_of (tb1 (List.mem_of_getElem? (i := 239) rfl)) rfl
theorem ws_X6_thickIn : Cond.static yX6_thickIn ∈ gtbl := gtbl_of (tb1 (List.mem_of_getElem? (i := 238) rfl)) rfl
theorem cs_X6_thickIn : CalS yX6_thickIn cX6_thickIn 1 (some .int) 1 := ⟨wk_X6_thickIn, ws_X6_thickIn, wi_X6, ⟨by decide +kernel, by decide +kernel, by decide +kernel⟩⟩
theorem wk_X6_kindIn : Cond.code yX6_kindIn cX6_kindIn 1 (some .int) ∈ gtbl := gtbl_of (tb2 (List.mem_of_getElem? (i := 2) rfl)) rfl
theorem ws_X6_kindIn : Cond.static yX6_kindIn ∈ gtbl := gtbl_of (tb2 (List.mem_of_getElem? (i := 1) rfl)) rfl
theorem cs_X6_kindIn : CalS yX6_kindIn cX6_kindIn 1 (some .int) 1 := ⟨wk_X6_kindIn, ws_X6_kindIn, wi_X6, ⟨by decide +kernel, by decide +kernel, by decide +kernel⟩⟩
theorem wk_X6_onIn : Cond.code yX6_onIn cX6_onIn 1 (some .int) ∈ gtbl := gtbl_of (tb2 (List.mem_of_getElem? (i := 5) rfl)) rfl
theorem ws_X6_onIn : Cond.static yX6_onIn ∈ gtbl := gtbl_of (tb2 (List.mem_of_getElem? (i := 4) rfl)) rfl
theorem cs_X6_onIn : CalS yX6_onIn cX6_onIn 1 (some .int) 1 := ⟨wk_X6_onIn, ws_X6_onIn, wi_X6, ⟨by decide +kernel, by decide +kernel, by decide +kernel⟩⟩
theorem wk_X6_offIn : Cond.code yX6_offIn cX6_offIn 1 (some .int) ∈ gtbl := gtbl_of (tb2 (List.mem_of_getElem? (i := 8) rfl)) rfl
theorem ws_X6_offIn : Cond.static yX6_offIn ∈ gtbl := gtbl_of (tb2 (List.mem_of_getElem? (i := 7) rfl)) rfl
theorem cs_X6_offIn : CalS yX6_offIn cX6_offIn 1 (some .int) 1 := ⟨wk_X6_offIn, ws_X6_offIn, wi_X6, ⟨by decide +kernel, by decide +kernel, by decide +kernel⟩⟩
theorem wk_X6_sizeIn : Cond.code yX6_sizeIn cX6_sizeIn 1 (some .int) ∈ gtbl := gtbl_of (tb2 (List.mem_of_getElem? (i := 11) rfl)) rfl
theorem ws_X6_sizeIn : Cond.static yX6_sizeIn ∈ gtbl := gtbl_of (tb2 (List.mem_of_getElem? (i := 10) rfl)) rfl
theorem cs_X6_sizeIn : CalS yX6_sizeIn cX6_sizeIn 1 (some .int) 1 := ⟨wk_X6_sizeIn, ws_X6_sizeIn, wi_X6, ⟨by decide +kernel, by decide +kernel, by decide +kernel⟩⟩
theorem wk_X6_spanIn : Cond.code yX6_spanIn cX6_spanIn 1 (some .int) ∈ gtbl := gtbl_of (tb2 (List.mem_of_getElem? (i := 14) rfl)) rfl
theorem ws_X6_spanIn : Cond.static yX6_spanIn ∈ gtbl := gtbl_of (tb2 (List.mem_of_getElem? (i := 13) rfl)) rfl
theorem cs_X6_spanIn : CalS yX6_spanIn cX6_spanIn 1 (some .int) 1 := ⟨wk_X6_spanIn, ws_X6_spanIn, wi_X6, ⟨by decide +kernel, by decide +kernel, by decide +kernel⟩⟩
theorem wk_X6_finding : Cond.code yX6_finding cX6_finding 2 (some .int) ∈ gtbl := gtbl_of (tb2 (List.mem_of_getElem? (i := 18) rfl)) rfl
theorem wn_X6_finding : Cond.instanceMethod yX6_finding ∈ gtbl := gtbl_of (tb2 (List.mem_of_getElem? (i := 17) rfl)) rfl
theorem wl_X6_finding : Cond.selects RX6 yX6_finding yX6_finding ∈ gtbl := gtbl_of (tbp (List.mem_of_getElem? (i := 0) rfl)) rfl
theorem cv_X6_finding : CalV yX6_finding cX6_finding 2 (some .int) 1 := ⟨wk_X6_finding, wn_X6_finding, wl_X6_finding, wi_X6, ⟨by decide +kernel, by decide +kernel, by decide +kernel⟩⟩
theorem wk_X5_isFull : Cond.code yX5_isFull cX5_isFull 1 (some .boolean) ∈ gtbl := gtbl_of (tb2 (List.mem_of_getElem? (i := 23) rfl)) rfl
theorem wn_X5_isFull : Cond.instanceMethod yX5_isFull ∈ gtbl := gtbl_of (tb2 (List.mem_of_getElem? (i := 21) rfl)) rfl
theorem wl_X5_isFull : Cond.selects RX5 yX5_isFull yX5_isFull ∈ gtbl := gtbl_of (tb2 (List.mem_of_getElem? (i := 22) rfl)) rfl
theorem cv_X5_isFull : CalV yX5_isFull cX5_isFull 1 (some .boolean) 0 := ⟨wk_X5_isFull, wn_X5_isFull, wl_X5_isFull, wi_X5, ⟨by decide +kernel, by decide +kernel, by decide +kernel⟩⟩
theorem wk_X5_add : Cond.code yX5_add cX5_add 5 (some .int) ∈ gtbl := gtbl_of (tb2 (List.mem_of_getElem? (i := 27) rfl)) rfl
theorem wn_X5_add : Cond.instanceMethod yX5_add ∈ gtbl := gtbl_of (tb2 (List.mem_of_getElem? (i := 25) rfl)) rfl
theorem wl_X5_add : Cond.selects RX5 yX5_add yX5_add ∈ gtbl := gtbl_of (tb2 (List.mem_of_getElem? (i := 26) rfl)) rfl
theorem cv_X5_add : CalV yX5_add cX5_add 5 (some .int) 3 := ⟨wk_X5_add, wn_X5_add, wl_X5_add, wi_X5, ⟨by decide +kernel, by decide +kernel, by decide +kernel⟩⟩
theorem wk_X5_setFact : Cond.code yX5_setFact cX5_setFact 4 none ∈ gtbl := gtbl_of (tb2 (List.mem_of_getElem? (i := 32) rfl)) rfl
theorem wn_X5_setFact : Cond.instanceMethod yX5_setFact ∈ gtbl := gtbl_of (tb2 (List.mem_of_getElem? (i := 31) rfl)) rfl
theorem wl_X5_setFact : Cond.selects RX5 yX5_setFact yX5_setFact ∈ gtbl := gtbl_of (tbp (List.mem_of_getElem? (i := 1) rfl)) rfl
theorem cv_X5_setFact : CalV yX5_setFact cX5_setFact 4 none 3 := ⟨wk_X5_setFact, wn_X5_setFact, wl_X5_setFact, wi_X5, ⟨by decide +kernel, by decide +kernel, by decide +kernel⟩⟩
theorem wk_X5_has : Cond.code yX5_has cX5_has 2 (some .boolean) ∈ gtbl := gtbl_of (tb2 (List.mem_of_getElem? (i := 36) rfl)) rfl
theorem wn_X5_has : Cond.instanceMethod yX5_has ∈ gtbl := gtbl_of (tb2 (List.mem_of_getElem? (i := 34) rfl)) rfl
theorem wl_X5_has : Cond.selects RX5 yX5_has yX5_has ∈ gtbl := gtbl_of (tb2 (List.mem_of_getElem? (i := 35) rfl)) rfl
theorem cv_X5_has : CalV yX5_has cX5_has 2 (some .boolean) 1 := ⟨wk_X5_has, wn_X5_has, wl_X5_has, wi_X5, ⟨by decide +kernel, by decide +kernel, by decide +kernel⟩⟩
theorem wk_X5_place : Cond.code yX5_place cX5_place 4 none ∈ gtbl := gtbl_of (tb2 (List.mem_of_getElem? (i := 47) rfl)) rfl
theorem wn_X5_place : Cond.instanceMethod yX5_place ∈ gtbl := gtbl_of (tb2 (List.mem_of_getElem? (i := 45) rfl)) rfl
theorem wl_X5_place : Cond.selects RX5 yX5_place yX5_place ∈ gtbl := gtbl_of (tb2 (List.mem_of_getElem? (i := 46) rfl)) rfl
theorem cv_X5_place : CalV yX5_place cX5_place 4 none 3 := ⟨wk_X5_place, wn_X5_place, wl_X5_place, wi_X5, ⟨by decide +kernel, by decide +kernel, by decide +kernel⟩⟩
theorem wk_X6_as : Cond.code yX6_as cX6_as 3 (some .int) ∈ gtbl := gtbl_of (tb2 (List.mem_of_getElem? (i := 51) rfl)) rfl
theorem wn_X6_as : Cond.instanceMethod yX6_as ∈ gtbl := gtbl_of (tb2 (List.mem_of_getElem? (i := 49) rfl)) rfl
theorem wl_X6_as : Cond.selects RX6 yX6_as yX6_as ∈ gtbl := gtbl_of (tb2 (List.mem_of_getElem? (i := 50) rfl)) rfl
theorem cv_X6_as : CalV yX6_as cX6_as 3 (some .int) 2 := ⟨wk_X6_as, wn_X6_as, wl_X6_as, wi_X6, ⟨by decide +kernel, by decide +kernel, by decide +kernel⟩⟩
theorem wk_X5_fact : Cond.code yX5_fact cX5_fact 3 (some .int) ∈ gtbl := gtbl_of (tb2 (List.mem_of_getElem? (i := 56) rfl)) rfl
theorem wn_X5_fact : Cond.instanceMethod yX5_fact ∈ gtbl := gtbl_of (tb2 (List.mem_of_getElem? (i := 54) rfl)) rfl
theorem wl_X5_fact : Cond.selects RX5 yX5_fact yX5_fact ∈ gtbl := gtbl_of (tb2 (List.mem_of_getElem? (i := 55) rfl)) rfl
theorem cv_X5_fact : CalV yX5_fact cX5_fact 3 (some .int) 2 := ⟨wk_X5_fact, wn_X5_fact, wl_X5_fact, wi_X5, ⟨by decide +kernel, by decide +kernel, by decide +kernel⟩⟩
theorem wk_X6_about : Cond.code yX6_about cX6_about 3 (some .int) ∈ gtbl := gtbl_of (tb2 (List.mem_of_getElem? (i := 60) rfl)) rfl
theorem wn_X6_about : Cond.instanceMethod yX6_about ∈ gtbl := gtbl_of (tb2 (List.mem_of_getElem? (i := 58) rfl)) rfl
theorem wl_X6_about : Cond.selects RX6 yX6_about yX6_about ∈ gtbl := gtbl_of (tb2 (List.mem_of_getElem? (i := 59) rfl)) rfl
theorem cv_X6_about : CalV yX6_about cX6_about 3 (some .int) 2 := ⟨wk_X6_about, wn_X6_about, wl_X6_about, wi_X6, ⟨by decide +kernel, by decide +kernel, by decide +kernel⟩⟩
theorem wk_X6_wear : Cond.code yX6_wear cX6_wear 3 (some .int) ∈ gtbl := gtbl_of (tb2 (List.mem_of_getElem? (i := 64) rfl)) rfl
theorem wn_X6_wear : Cond.instanceMethod yX6_wear ∈ gtbl := gtbl_of (tb2 (List.mem_of_getElem? (i := 62) rfl)) rfl
theorem wl_X6_wear : Cond.selects RX6 yX6_wear yX6_wear ∈ gtbl := gtbl_of (tb2 (List.mem_of_getElem? (i := 63) rfl)) rfl
theorem cv_X6_wear : CalV yX6_wear cX6_wear 3 (some .int) 2 := ⟨wk_X6_wear, wn_X6_wear, wl_X6_wear, wi_X6, ⟨by decide +kernel, by decide +kernel, by decide +kernel⟩⟩
theorem wk_X2_has : Cond.code yX2_has cX2_has 2 (some .boolean) ∈ gtbl := gtbl_of (tb2 (List.mem_of_getElem? (i := 68) rfl)) rfl
theorem wn_X2_has : Cond.instanceMethod yX2_has ∈ gtbl := gtbl_of (tb2 (List.mem_of_getElem? (i := 66) rfl)) rfl
theorem wl_X2_has : Cond.selects RX2 yX2_has yX2_has ∈ gtbl := gtbl_of (tb2 (List.mem_of_getElem? (i := 67) rfl)) rfl
theorem cv_X2_has : CalV yX2_has cX2_has 2 (some .boolean) 1 := ⟨wk_X2_has, wn_X2_has, wl_X2_has, wi_X2, ⟨by decide +kernel, by decide +kernel, by decide +kernel⟩⟩
theorem wk_X2_indexOf : Cond.code yX2_indexOf cX2_indexOf 5 (some .int) ∈ gtbl := gtbl_of (tb2 (List.mem_of_getElem? (i := 72) rfl)) rfl
theorem wn_X2_indexOf : Cond.instanceMethod yX2_indexOf ∈ gtbl := gtbl_of (tb2 (List.mem_of_getElem? (i := 70) rfl)) rfl
theorem wl_X2_indexOf : Cond.selects RX2 yX2_indexOf yX2_indexOf ∈ gtbl := gtbl_of (tb2 (List.mem_of_getElem? (i := 71) rfl)) rfl
theorem cv_X2_indexOf : CalV yX2_indexOf cX2_indexOf 5 (some .int) 2 := ⟨wk_X2_indexOf, wn_X2_indexOf, wl_X2_indexOf, wi_X2, ⟨by decide +kernel, by decide +kernel, by decide +kernel⟩⟩
theorem wk_X2_sizeOf : Cond.code yX2_sizeOf cX2_sizeOf 2 (some .int) ∈ gtbl := gtbl_of (tb2 (List.mem_of_getElem? (i := 76) rfl)) rfl
theorem wn_X2_sizeOf : Cond.instanceMethod yX2_sizeOf ∈ gtbl := gtbl_of (tb2 (List.mem_of_getElem? (i := 74) rfl)) rfl
theorem wl_X2_sizeOf : Cond.selects RX2 yX2_sizeOf yX2_sizeOf ∈ gtbl := gtbl_of (tb2 (List.mem_of_getElem? (i := 75) rfl)) rfl
theorem cv_X2_sizeOf : CalV yX2_sizeOf cX2_sizeOf 2 (some .int) 1 := ⟨wk_X2_sizeOf, wn_X2_sizeOf, wl_X2_sizeOf, wi_X2, ⟨by decide +kernel, by decide +kernel, by decide +kernel⟩⟩
theorem wk_X2_at : Cond.code yX2_at cX2_at 3 (some .int) ∈ gtbl := gtbl_of (tb2 (List.mem_of_getElem? (i := 81) rfl)) rfl
theorem wn_X2_at : Cond.instanceMethod yX2_at ∈ gtbl := gtbl_of (tb2 (List.mem_of_getElem? (i := 79) rfl)) rfl
theorem wl_X2_at : Cond.selects RX2 yX2_at yX2_at ∈ gtbl := gtbl_of (tb2 (List.mem_of_getElem? (i := 80) rfl)) rfl
theorem cv_X2_at : CalV yX2_at cX2_at 3 (some .int) 2 := ⟨wk_X2_at, wn_X2_at, wl_X2_at, wi_X2, ⟨by decide +kernel, by decide +kernel, by decide +kernel⟩⟩
theorem wk_X2_append : Cond.code yX2_append cX2_append 3 (some .int) ∈ gtbl := gtbl_of (tb2 (List.mem_of_getElem? (i := 86) rfl)) rfl
theorem wn_X2_append : Cond.instanceMethod yX2_append ∈ gtbl := gtbl_of (tb2 (List.mem_of_getElem? (i := 84) rfl)) rfl
theorem wl_X2_append : Cond.selects RX2 yX2_append yX2_append ∈ gtbl := gtbl_of (tb2 (List.mem_of_getElem? (i := 85) rfl)) rfl
theorem cv_X2_append : CalV yX2_append cX2_append 3 (some .int) 2 := ⟨wk_X2_append, wn_X2_append, wl_X2_append, wi_X2, ⟨by decide +kernel, by decide +kernel, by decide +kernel⟩⟩
theorem wk_X2_noteLooksWith : Cond.code yX2_noteLooksWith cX2_noteLooksWith 3 none ∈ gtbl := gtbl_of (tb2 (List.mem_of_getElem? (i := 90) rfl)) rfl
theorem wn_X2_noteLooksWith : Cond.instanceMethod yX2_noteLooksWith ∈ gtbl := gtbl_of (tb2 (List.mem_of_getElem? (i := 89) rfl)) rfl
theorem wl_X2_noteLooksWith : Cond.selects RX2 yX2_noteLooksWith yX2_noteLooksWith ∈ gtbl := gtbl_of (tbp (List.mem_of_getElem? (i := 2) rfl)) rfl
theorem cv_X2_noteLooksWith : CalV yX2_noteLooksWith cX2_noteLooksWith 3 none 2 := ⟨wk_X2_noteLooksWith, wn_X2_noteLooksWith, wl_X2_noteLooksWith, wi_X2, ⟨by decide +kernel, by decide +kernel, by decide +kernel⟩⟩
theorem wk_X6_bare : Cond.code yX6_bare cX6_bare 2 (some .int) ∈ gtbl := gtbl_of (tb2 (List.mem_of_getElem? (i := 95) rfl)) rfl
theorem wn_X6_bare : Cond.instanceMethod yX6_bare ∈ gtbl := gtbl_of (tb2 (List.mem_of_getElem? (i := 93) rfl)) rfl
theorem wl_X6_bare : Cond.selects RX6 yX6_bare yX6_bare ∈ gtbl := gtbl_of (tb2 (List.mem_of_getElem? (i := 94) rfl)) rfl
theorem cv_X6_bare : CalV yX6_bare cX6_bare 2 (some .int) 1 := ⟨wk_X6_bare, wn_X6_bare, wl_X6_bare, wi_X6, ⟨by decide +kernel, by decide +kernel, by decide +kernel⟩⟩
theorem wk_X2_clear : Cond.code yX2_clear cX2_clear 4 (some .int) ∈ gtbl := gtbl_of (tb2 (List.mem_of_getElem? (i := 99) rfl)) rfl
theorem wn_X2_clear : Cond.instanceMethod yX2_clear ∈ gtbl := gtbl_of (tb2 (List.mem_of_getElem? (i := 97) rfl)) rfl
theorem wl_X2_clear : Cond.selects RX2 yX2_clear yX2_clear ∈ gtbl := gtbl_of (tb2 (List.mem_of_getElem? (i := 98) rfl)) rfl
theorem cv_X2_clear : CalV yX2_clear cX2_clear 4 (some .int) 1 := ⟨wk_X2_clear, wn_X2_clear, wl_X2_clear, wi_X2, ⟨by decide +kernel, by decide +kernel, by decide +kernel⟩⟩
theorem wk_X6_look : Cond.code yX6_look cX6_look 4 (some .int) ∈ gtbl := gtbl_of (tb2 (List.mem_of_getElem? (i := 103) rfl)) rfl
theorem wn_X6_look : Cond.instanceMethod yX6_look ∈ gtbl := gtbl_of (tb2 (List.mem_of_getElem? (i := 101) rfl)) rfl
theorem wl_X6_look : Cond.selects RX6 yX6_look yX6_look ∈ gtbl := gtbl_of (tb2 (List.mem_of_getElem? (i := 102) rfl)) rfl
theorem cv_X6_look : CalV yX6_look cX6_look 4 (some .int) 2 := ⟨wk_X6_look, wn_X6_look, wl_X6_look, wi_X6, ⟨by decide +kernel, by decide +kernel, by decide +kernel⟩⟩
theorem wk_X6_limit : Cond.code yX6_limit cX6_limit 3 (some .int) ∈ gtbl := gtbl_of (tb2 (List.mem_of_getElem? (i := 108) rfl)) rfl
theorem wn_X6_limit : Cond.instanceMethod yX6_limit ∈ gtbl := gtbl_of (tb2 (List.mem_of_getElem? (i := 106) rfl)) rfl
theorem wl_X6_limit : Cond.selects RX6 yX6_limit yX6_limit ∈ gtbl := gtbl_of (tb2 (List.mem_of_getElem? (i := 107) rfl)) rfl
theorem cv_X6_limit : CalV yX6_limit cX6_limit 3 (some .int) 1 := ⟨wk_X6_limit, wn_X6_limit, wl_X6_limit, wi_X6, ⟨by decide +kernel, by decide +kernel, by decide +kernel⟩⟩
theorem wk_X6_allowed : Cond.code yX6_allowed cX6_allowed 4 (some .int) ∈ gtbl := gtbl_of (tb2 (List.mem_of_getElem? (i := 112) rfl)) rfl
theorem wn_X6_allowed : Cond.instanceMethod yX6_allowed ∈ gtbl := gtbl_of (tb2 (List.mem_of_getElem? (i := 110) rfl)) rfl
theorem wl_X6_allowed : Cond.selects RX6 yX6_allowed yX6_allowed ∈ gtbl := gtbl_of (tb2 (List.mem_of_getElem? (i := 111) rfl)) rfl
theorem cv_X6_allowed : CalV yX6_allowed cX6_allowed 4 (some .int) 3 := ⟨wk_X6_allowed, wn_X6_allowed, wl_X6_allowed, wi_X6, ⟨by decide +kernel, by decide +kernel, by decide +kernel⟩⟩
theorem wk_X6_isChange : Cond.code yX6_isChange cX6_isChange 4 (some .boolean) ∈ gtbl := gtbl_of (tb2 (List.mem_of_getElem? (i := 116) rfl)) rfl
theorem wn_X6_isChange : Cond.instanceMethod yX6_isChange ∈ gtbl := gtbl_of (tb2 (List.mem_of_getElem? (i := 115) rfl)) rfl
theorem wl_X6_isChange : Cond.selects RX6 yX6_isChange yX6_isChange ∈ gtbl := gtbl_of (tbp (List.mem_of_getElem? (i := 3) rfl)) rfl
theorem cv_X6_isChange : CalV yX6_isChange cX6_isChange 4 (some .boolean) 3 := ⟨wk_X6_isChange, wn_X6_isChange, wl_X6_isChange, wi_X6, ⟨by decide +kernel, by decide +kernel, by decide +kernel⟩⟩
theorem wk_X2_hasBits : Cond.code yX2_hasBits cX2_hasBits 3 (some .boolean) ∈ gtbl := gtbl_of (tb2 (List.mem_of_getElem? (i := 120) rfl)) rfl
theorem wn_X2_hasBits : Cond.instanceMethod yX2_hasBits ∈ gtbl := gtbl_of (tb2 (List.mem_of_getElem? (i := 118) rfl)) rfl
theorem wl_X2_hasBits : Cond.selects RX2 yX2_hasBits yX2_hasBits ∈ gtbl := gtbl_of (tb2 (List.mem_of_getElem? (i := 119) rfl)) rfl
theorem cv_X2_hasBits : CalV yX2_hasBits cX2_hasBits 3 (some .boolean) 2 := ⟨wk_X2_hasBits, wn_X2_hasBits, wl_X2_hasBits, wi_X2, ⟨by decide +kernel, by decide +kernel, by decide +kernel⟩⟩
theorem wk_X6_isAllowed : Cond.code yX6_isAllowed cX6_isAllowed 4 (some .boolean) ∈ gtbl := gtbl_of (tb2 (List.mem_of_getElem? (i := 124) rfl)) rfl
theorem wn_X6_isAllowed : Cond.instanceMethod yX6_isAllowed ∈ gtbl := gtbl_of (tb2 (List.mem_of_getElem? (i := 123) rfl)) rfl
theorem wl_X6_isAllowed : Cond.selects RX6 yX6_isAllowed yX6_isAllowed ∈ gtbl := gtbl_of (tbp (List.mem_of_getElem? (i := 4) rfl)) rfl
theorem cv_X6_isAllowed : CalV yX6_isAllowed cX6_isAllowed 4 (some .boolean) 3 := ⟨wk_X6_isAllowed, wn_X6_isAllowed, wl_X6_isAllowed, wi_X6, ⟨by decide +kernel, by decide +kernel, by decide +kernel⟩⟩
theorem wk_X1_prepare : Cond.code yX1_prepare cX1_prepare 4 none ∈ gtbl := gtbl_of (tb2 (List.mem_of_getElem? (i := 128) rfl)) rfl
theorem wn_X1_prepare : Cond.instanceMethod yX1_prepare ∈ gtbl := gtbl_of (tb2 (List.mem_of_getElem? (i := 126) rfl)) rfl
theorem wl_X1_prepare : Cond.selects RX1 yX1_prepare yX1_prepare ∈ gtbl := gtbl_of (tb2 (List.mem_of_getElem? (i := 127) rfl)) rfl
theorem cv_X1_prepare : CalV yX1_prepare cX1_prepare 4 none 2 := ⟨wk_X1_prepare, wn_X1_prepare, wl_X1_prepare, wi_X1, ⟨by decide +kernel, by decide +kernel, by decide +kernel⟩⟩
theorem wk_J9_min_7cf53 : Cond.code yJ9_min_7cf53 cJ9_min_7cf53 2 (some .int) ∈ gtbl := gtbl_of (tb2 (List.mem_of_getElem? (i := 132) rfl)) rfl
theorem ws_J9_min_7cf53 : Cond.static yJ9_min_7cf53 ∈ gtbl := gtbl_of (tb2 (List.mem_of_getElem? (i := 131) rfl)) rfl
theorem cs_J9_min_7cf53 : CalS yJ9_min_7cf53 cJ9_min_7cf53 2 (some .int) 2 := ⟨wk_J9_min_7cf53, ws_J9_min_7cf53, wi_J9, ⟨by decide +kernel, by decide +kernel, by decide +kernel⟩⟩
theorem wk_X1_wigsOf : Cond.code yX1_wigsOf cX1_wigsOf 5 (some .int) ∈ gtbl := gtbl_of (tb2 (List.mem_of_getElem? (i := 136) rfl)) rfl
theorem wn_X1_wigsOf : Cond.instanceMethod yX1_wigsOf ∈ gtbl := gtbl_of (tb2 (List.mem_of_getElem? (i := 135) rfl)) rfl
theorem wl_X1_wigsOf : Cond.selects RX1 yX1_wigsOf yX1_wigsOf ∈ gtbl := gtbl_of (tbp (List.mem_of_getElem? (i := 5) rfl)) rfl
theorem cv_X1_wigsOf : CalV yX1_wigsOf cX1_wigsOf 5 (some .int) 1 := ⟨wk_X1_wigsOf, wn_X1_wigsOf, wl_X1_wigsOf, wi_X1, ⟨by decide +kernel, by decide +kernel, by decide +kernel⟩⟩
theorem wk_X1_prepareWorn : Cond.code yX1_prepareWorn cX1_prepareWorn 5 none ∈ gtbl := gtbl_of (tb2 (List.mem_of_getElem? (i := 142) rfl)) rfl
theorem wn_X1_prepareWorn : Cond.instanceMethod yX1_prepareWorn ∈ gtbl := gtbl_of (tb2 (List.mem_of_getElem? (i := 141) rfl)) rfl
theorem wl_X1_prepareWorn : Cond.selects RX1 yX1_prepareWorn yX1_prepareWorn ∈ gtbl := gtbl_of (tbp (List.mem_of_getElem? (i := 6) rfl)) rfl
theorem cv_X1_prepareWorn : CalV yX1_prepareWorn cX1_prepareWorn 5 none 3 := ⟨wk_X1_prepareWorn, wn_X1_prepareWorn, wl_X1_prepareWorn, wi_X1, ⟨by decide +kernel, by decide +kernel, by decide +kernel⟩⟩
theorem wk_X1_aheadAtPlace : Cond.code yX1_aheadAtPlace cX1_aheadAtPlace 6 (some .int) ∈ gtbl := gtbl_of (tb2 (List.mem_of_getElem? (i := 147) rfl)) rfl
theorem wn_X1_aheadAtPlace : Cond.instanceMethod yX1_aheadAtPlace ∈ gtbl := gtbl_of (tb2 (List.mem_of_getElem? (i := 146) rfl)) rfl
theorem wl_X1_aheadAtPlace : Cond.selects RX1 yX1_aheadAtPlace yX1_aheadAtPlace ∈ gtbl := gtbl_of (tbp (List.mem_of_getElem? (i := 7) rfl)) rfl
theorem cv_X1_aheadAtPlace : CalV yX1_aheadAtPlace cX1_aheadAtPlace 6 (some .int) 2 := ⟨wk_X1_aheadAtPlace, wn_X1_aheadAtPlace, wl_X1_aheadAtPlace, wi_X1, ⟨by decide +kernel, by decide +kernel, by decide +kernel⟩⟩
theorem wk_X5_haveOnePlace : Cond.code yX5_haveOnePlace cX5_haveOnePlace 3 (some .boolean) ∈ gtbl := gtbl_of (tb2 (List.mem_of_getElem? (i := 151) rfl)) rfl
theorem wn_X5_haveOnePlace : Cond.instanceMethod yX5_haveOnePlace ∈ gtbl := gtbl_of (tb2 (List.mem_of_getElem? (i := 149) rfl)) rfl
theorem wl_X5_haveOnePlace : Cond.selects RX5 yX5_haveOnePlace yX5_haveOnePlace ∈ gtbl := gtbl_of (tb2 (List.mem_of_getElem? (i := 150) rfl)) rfl
theorem cv_X5_haveOnePlace : CalV yX5_haveOnePlace cX5_haveOnePlace 3 (some .boolean) 2 := ⟨wk_X5_haveOnePlace, wn_X5_haveOnePlace, wl_X5_haveOnePlace, wi_X5, ⟨by decide +kernel, by decide +kernel, by decide +kernel⟩⟩
theorem wk_X1_isWantedUnder : Cond.code yX1_isWantedUnder cX1_isWantedUnder 3 (some .boolean) ∈ gtbl := gtbl_of (tb2 (List.mem_of_getElem? (i := 156) rfl)) rfl
theorem wn_X1_isWantedUnder : Cond.instanceMethod yX1_isWantedUnder ∈ gtbl := gtbl_of (tb2 (List.mem_of_getElem? (i := 155) rfl)) rfl
theorem wl_X1_isWantedUnder : Cond.selects RX1 yX1_isWantedUnder yX1_isWantedUnder ∈ gtbl := gtbl_of (tbp (List.mem_of_getElem? (i := 8) rfl)) rfl
theorem cv_X1_isWantedUnder : CalV yX1_isWantedUnder cX1_isWantedUnder 3 (some .boolean) 1 := ⟨wk_X1_isWantedUnder, wn_X1_isWantedUnder, wl_X1_isWantedUnder, wi_X1, ⟨by decide +kernel, by decide +kernel, by decide +kernel⟩⟩
theorem wk_X6_hasBit : Cond.code yX6_hasBit cX6_hasBit 2 (some .boolean) ∈ gtbl := gtbl_of (tb2 (List.mem_of_getElem? (i := 159) rfl)) rfl
theorem ws_X6_hasBit : Cond.static yX6_hasBit ∈ gtbl := gtbl_of (tb2 (List.mem_of_getElem? (i := 158) rfl)) rfl
theorem cs_X6_hasBit : CalS yX6_hasBit cX6_hasBit 2 (some .boolean) 2 := ⟨wk_X6_hasBit, ws_X6_hasBit, wi_X6, ⟨by decide +kernel, by decide +kernel, by decide +kernel⟩⟩
theorem wk_X1_prepareWanted : Cond.code yX1_prepareWanted cX1_prepareWanted 5 none ∈ gtbl := gtbl_of (tb2 (List.mem_of_getElem? (i := 163) rfl)) rfl
theorem wn_X1_prepareWanted : Cond.instanceMethod yX1_prepareWanted ∈ gtbl := gtbl_of (tb2 (List.mem_of_getElem? (i := 162) rfl)) rfl
theorem wl_X1_prepareWanted : Cond.selects RX1 yX1_prepareWanted yX1_prepareWanted ∈ gtbl := gtbl_of (tbp (List.mem_of_getElem? (i := 9) rfl)) rfl
theorem cv_X1_prepareWanted : CalV yX1_prepareWanted cX1_prepareWanted 5 none 3 := ⟨wk_X1_prepareWanted, wn_X1_prepareWanted, wl_X1_prepareWanted, wi_X1, ⟨by decide +kernel, by decide +kernel, by decide +kernel⟩⟩
theorem wk_X1_thickBefore : Cond.code yX1_thickBefore cX1_thickBefore 7 (some .int) ∈ gtbl := gtbl_of (tb2 (List.mem_of_getElem? (i := 167) rfl)) rfl
theorem wn_X1_thickBefore : Cond.instanceMethod yX1_thickBefore ∈ gtbl := gtbl_of (tb2 (List.mem_of_getElem? (i := 166) rfl)) rfl
theorem wl_X1_thickBefore : Cond.selects RX1 yX1_thickBefore yX1_thickBefore ∈ gtbl := gtbl_of (tbp (List.mem_of_getElem? (i := 10) rfl)) rfl
theorem cv_X1_thickBefore : CalV yX1_thickBefore cX1_thickBefore 7 (some .int) 3 := ⟨wk_X1_thickBefore, wn_X1_thickBefore, wl_X1_thickBefore, wi_X1, ⟨by decide +kernel, by decide +kernel, by decide +kernel⟩⟩
theorem wk_X1_mayLieBeneath : Cond.code yX1_mayLieBeneath cX1_mayLieBeneath 4 (some .boolean) ∈ gtbl := gtbl_of (tb2 (List.mem_of_getElem? (i := 171) rfl)) rfl
theorem wn_X1_mayLieBeneath : Cond.instanceMethod yX1_mayLieBeneath ∈ gtbl := gtbl_of (tb2 (List.mem_of_getElem? (i := 169) rfl)) rfl
theorem wl_X1_mayLieBeneath : Cond.selects RX1 yX1_mayLieBeneath yX1_mayLieBeneath ∈ gtbl := gtbl_of (tb2 (List.mem_of_getElem? (i := 170) rfl)) rfl
theorem cv_X1_mayLieBeneath : CalV yX1_mayLieBeneath cX1_mayLieBeneath 4 (some .boolean) 2 := ⟨wk_X1_mayLieBeneath, wn_X1_mayLieBeneath, wl_X1_mayLieBeneath, wi_X1, ⟨by decide +kernel, by decide +kernel, by decide +kernel⟩⟩
theorem wk_X6_told : Cond.code yX6_told cX6_told 6 (some .int) ∈ gtbl := gtbl_of (tb2 (List.mem_of_getElem? (i := 175) rfl)) rfl
theorem wn_X6_told : Cond.instanceMethod yX6_told ∈ gtbl := gtbl_of (tb2 (List.mem_of_getElem? (i := 173) rfl)) rfl
theorem wl_X6_told : Cond.selects RX6 yX6_told yX6_told ∈ gtbl := gtbl_of (tb2 (List.mem_of_getElem? (i := 174) rfl)) rfl
theorem cv_X6_told : CalV yX6_told cX6_told 6 (some .int) 4 := ⟨wk_X6_told, wn_X6_told, wl_X6_told, wi_X6, ⟨by decide +kernel, by decide +kernel, by decide +kernel⟩⟩
theorem wk_X1_handle : Cond.code yX1_handle cX1_handle 4 none ∈ gtbl := gtbl_of (tb2 (List.mem_of_getElem? (i := 179) rfl)) rfl
theorem wn_X1_handle : Cond.instanceMethod yX1_handle ∈ gtbl := gtbl_of (tb2 (List.mem_of_getElem? (i := 177) rfl)) rfl
theorem wl_X1_handle : Cond.selects RX1 yX1_handle yX1_handle ∈ gtbl := gtbl_of (tb2 (List.mem_of_getElem? (i := 178) rfl)) rfl
theorem cv_X1_handle : CalV yX1_handle cX1_handle 4 none 1 := ⟨wk_X1_handle, wn_X1_handle, wl_X1_handle, wi_X1, ⟨by decide +kernel, by decide +kernel, by decide +kernel⟩⟩
theorem wk_X1_missing : Cond.code yX1_missing cX1_missing 4 (some .int) ∈ gtbl := gtbl_of (tb2 (List.mem_of_getElem? (i := 183) rfl)) rfl
theorem wn_X1_missing : Cond.instanceMethod yX1_missing ∈ gtbl := gtbl_of (tb2 (List.mem_of_getElem? (i := 182) rfl)) rfl
theorem wl_X1_missing : Cond.selects RX1 yX1_missing yX1_missing ∈ gtbl := gtbl_of (tbp (List.mem_of_getElem? (i := 11) rfl)) rfl
theorem cv_X1_missing : CalV yX1_missing cX1_missing 4 (some .int) 1 := ⟨wk_X1_missing, wn_X1_missing, wl_X1_missing, wi_X1, ⟨by decide +kernel, by decide +kernel, by decide +kernel⟩⟩
theorem wk_X1_forcedOff : Cond.code yX1_forcedOff cX1_forcedOff 3 (some .int) ∈ gtbl := gtbl_of (tb2 (List.mem_of_getElem? (i := 187) rfl)) rfl
theorem wn_X1_forcedOff : Cond.instanceMethod yX1_forcedOff ∈ gtbl := gtbl_of (tb2 (List.mem_of_getElem? (i := 186) rfl)) rfl
theorem wl_X1_forcedOff : Cond.selects RX1 yX1_forcedOff yX1_forcedOff ∈ gtbl := gtbl_of (tbp (List.mem_of_getElem? (i := 12) rfl)) rfl
theorem cv_X1_forcedOff : CalV yX1_forcedOff cX1_forcedOff 3 (some .int) 0 := ⟨wk_X1_forcedOff, wn_X1_forcedOff, wl_X1_forcedOff, wi_X1, ⟨by decide +kernel, by decide +kernel, by decide +kernel⟩⟩
theorem wk_X1_mustComeOff : Cond.code yX1_mustComeOff cX1_mustComeOff 3 (some .boolean) ∈ gtbl := gtbl_of (tb2 (List.mem_of_getElem? (i := 191) rfl)) rfl
theorem wn_X1_mustComeOff : Cond.instanceMethod yX1_mustComeOff ∈ gtbl := gtbl_of (tb2 (List.mem_of_getElem? (i := 190) rfl)) rfl
theorem wl_X1_mustComeOff : Cond.selects RX1 yX1_mustComeOff yX1_mustComeOff ∈ gtbl := gtbl_of (tbp (List.mem_of_getElem? (i := 13) rfl)) rfl
theorem cv_X1_mustComeOff : CalV yX1_mustComeOff cX1_mustComeOff 3 (some .boolean) 1 := ⟨wk_X1_mustComeOff, wn_X1_mustComeOff, wl_X1_mustComeOff, wi_X1, ⟨by decide +kernel, by decide +kernel, by decide +kernel⟩⟩
theorem wk_J6_bitCount_0f7a4 : Cond.code yJ6_bitCount_0f7a4 cJ6_bitCount_0f7a4 1 (some .int) ∈ gtbl := gtbl_of (tb2 (List.mem_of_getElem? (i := 194) rfl)) rfl
theorem ws_J6_bitCount_0f7a4 : Cond.static yJ6_bitCount_0f7a4 ∈ gtbl := gtbl_of (tb2 (List.mem_of_getElem? (i := 193) rfl)) rfl
theorem cs_J6_bitCount_0f7a4 : CalS yJ6_bitCount_0f7a4 cJ6_bitCount_0f7a4 1 (some .int) 1 := ⟨wk_J6_bitCount_0f7a4, ws_J6_bitCount_0f7a4, wi_J6, ⟨by decide +kernel, by decide +kernel, by decide +kernel⟩⟩
theorem wk_X6_seconds : Cond.code yX6_seconds cX6_seconds 6 (some .int) ∈ gtbl := gtbl_of (tb2 (List.mem_of_getElem? (i := 201) rfl)) rfl
theorem wn_X6_seconds : Cond.instanceMethod yX6_seconds ∈ gtbl := gtbl_of (tb2 (List.mem_of_getElem? (i := 199) rfl)) rfl
theorem wl_X6_seconds : Cond.selects RX6 yX6_seconds yX6_seconds ∈ gtbl := gtbl_of (tb2 (List.mem_of_getElem? (i := 200) rfl)) rfl
theorem cv_X6_seconds : CalV yX6_seconds cX6_seconds 6 (some .int) 4 := ⟨wk_X6_seconds, wn_X6_seconds, wl_X6_seconds, wi_X6, ⟨by decide +kernel, by decide +kernel, by decide +kernel⟩⟩
theorem wk_X1_secondsWith : Cond.code yX1_secondsWith cX1_secondsWith 5 (some .int) ∈ gtbl := gtbl_of (tb2 (List.mem_of_getElem? (i := 205) rfl)) rfl
theorem wn_X1_secondsWith : Cond.instanceMethod yX1_secondsWith ∈ gtbl := gtbl_of (tb2 (List.mem_of_getElem? (i := 203) rfl)) rfl
theorem wl_X1_secondsWith : Cond.selects RX1 yX1_secondsWith yX1_secondsWith ∈ gtbl := gtbl_of (tb2 (List.mem_of_getElem? (i := 204) rfl)) rfl
theorem cv_X1_secondsWith : CalV yX1_secondsWith cX1_secondsWith 5 (some .int) 1 := ⟨wk_X1_secondsWith, wn_X1_secondsWith, wl_X1_secondsWith, wi_X1, ⟨by decide +kernel, by decide +kernel, by decide +kernel⟩⟩
theorem wk_X1_sumOf : Cond.code yX1_sumOf cX1_sumOf 5 (some .int) ∈ gtbl := gtbl_of (tb2 (List.mem_of_getElem? (i := 210) rfl)) rfl
theorem ws_X1_sumOf : Cond.static yX1_sumOf ∈ gtbl := gtbl_of (tb2 (List.mem_of_getElem? (i := 209) rfl)) rfl
theorem cs_X1_sumOf : CalS yX1_sumOf cX1_sumOf 5 (some .int) 3 := ⟨wk_X1_sumOf, ws_X1_sumOf, wi_X1, ⟨by decide +kernel, by decide +kernel, by decide +kernel⟩⟩
theorem wk_X1_mostOf : Cond.code yX1_mostOf cX1_mostOf 5 (some .int) ∈ gtbl := gtbl_of (tb2 (List.mem_of_getElem? (i := 213) rfl)) rfl
theorem ws_X1_mostOf : Cond.static yX1_mostOf ∈ gtbl := gtbl_of (tb2 (List.mem_of_getElem? (i := 212) rfl)) rfl
theorem cs_X1_mostOf : CalS yX1_mostOf cX1_mostOf 5 (some .int) 3 := ⟨wk_X1_mostOf, ws_X1_mostOf, wi_X1, ⟨by decide +kernel, by decide +kernel, by decide +kernel⟩⟩
theorem wk_J9_max_7cf53 : Cond.code yJ9_max_7cf53 cJ9_max_7cf53 2 (some .int) ∈ gtbl := gtbl_of (tb2 (List.mem_of_getElem? (i := 216) rfl)) rfl
theorem ws_J9_max_7cf53 : Cond.static yJ9_max_7cf53 ∈ gtbl := gtbl_of (tb2 (List.mem_of_getElem? (i := 215) rfl)) rfl
theorem cs_J9_max_7cf53 : CalS yJ9_max_7cf53 cJ9_max_7cf53 2 (some .int) 2 := ⟨wk_J9_max_7cf53, ws_J9_max_7cf53, wi_J9, ⟨by decide +kernel, by decide +kernel, by decide +kernel⟩⟩
theorem wk_X6_best : Cond.code yX6_best cX6_best 5 (some .int) ∈ gtbl := gtbl_of (tb2 (List.mem_of_getElem? (i := 221) rfl)) rfl
theorem wn_X6_best : Cond.instanceMethod yX6_best ∈ gtbl := gtbl_of (tb2 (List.mem_of_getElem? (i := 219) rfl)) rfl
theorem wl_X6_best : Cond.selects RX6 yX6_best yX6_best ∈ gtbl := gtbl_of (tb2 (List.mem_of_getElem? (i := 220) rfl)) rfl
theorem cv_X6_best : CalV yX6_best cX6_best 5 (some .int) 4 := ⟨wk_X6_best, wn_X6_best, wl_X6_best, wi_X6, ⟨by decide +kernel, by decide +kernel, by decide +kernel⟩⟩
theorem wk_X1_findBest : Cond.code yX1_findBest cX1_findBest 6 none ∈ gtbl := gtbl_of (tb2 (List.mem_of_getElem? (i := 225) rfl)) rfl
theorem wn_X1_findBest : Cond.instanceMethod yX1_findBest ∈ gtbl := gtbl_of (tb2 (List.mem_of_getElem? (i := 223) rfl)) rfl
theorem wl_X1_findBest : Cond.selects RX1 yX1_findBest yX1_findBest ∈ gtbl := gtbl_of (tb2 (List.mem_of_getElem? (i := 224) rfl)) rfl
theorem cv_X1_findBest : CalV yX1_findBest cX1_findBest 6 none 4 := ⟨wk_X1_findBest, wn_X1_findBest, wl_X1_findBest, wi_X1, ⟨by decide +kernel, by decide +kernel, by decide +kernel⟩⟩
theorem wk_X1_keepIfBetter : Cond.code yX1_keepIfBetter cX1_keepIfBetter 3 none ∈ gtbl := gtbl_of (tb2 (List.mem_of_getElem? (i := 233) rfl)) rfl
theorem wn_X1_keepIfBetter : Cond.instanceMethod yX1_keepIfBetter ∈ gtbl := gtbl_of (tb2 (List.mem_of_getElem? (i := 232) rfl)) rfl
theorem wl_X1_keepIfBetter : Cond.selects RX1 yX1_keepIfBetter yX1_keepIfBetter ∈ gtbl := gtbl_of (tbp (List.mem_of_getElem? (i := 14) rfl)) rfl
theorem cv_X1_keepIfBetter : CalV yX1_keepIfBetter cX1_keepIfBetter 3 none 2 := ⟨wk_X1_keepIfBetter, wn_X1_keepIfBetter, wl_X1_keepIfBetter, wi_X1, ⟨by decide +kernel, by decide +kernel, by decide +kernel⟩⟩
theorem wk_X6_shift : Cond.code yX6_shift cX6_shift 5 (some .int) ∈ gtbl := gtbl_of (tb2 (List.mem_of_getElem? (i := 238) rfl)) rfl
theorem wn_X6_shift : Cond.instanceMethod yX6_shift ∈ gtbl := gtbl_of (tb2 (List.mem_of_getElem? (i := 236) rfl)) rfl
theorem wl_X6_shift : Cond.selects RX6 yX6_shift yX6_shift ∈ gtbl := gtbl_of (tb2 (List.mem_of_getElem? (i := 237) rfl)) rfl
theorem cv_X6_shift : CalV yX6_shift cX6_shift 5 (some .int) 4 := ⟨wk_X6_shift, wn_X6_shift, wl_X6_shift, wi_X6, ⟨by decide +kernel, by decide +kernel, by decide +kernel⟩⟩
theorem wk_X6_isShiftTold : Cond.code yX6_isShiftTold cX6_isShiftTold 1 (some .boolean) ∈ gtbl := gtbl_of (tb3 (List.mem_of_getElem? (i := 1) rfl)) rfl
theorem ws_X6_isShiftTold : Cond.static yX6_isShiftTold ∈ gtbl := gtbl_of (tb3 (List.mem_of_getElem? (i := 0) rfl)) rfl
theorem cs_X6_isShiftTold : CalS yX6_isShiftTold cX6_isShiftTold 1 (some .boolean) 1 := ⟨wk_X6_isShiftTold, ws_X6_isShiftTold, wi_X6, ⟨by decide +kernel, by decide +kernel, by decide +kernel⟩⟩
theorem wk_X6_beforeIn : Cond.code yX6_beforeIn cX6_beforeIn 1 (some .int) ∈ gtbl := gtbl_of (tb3 (List.mem_of_getElem? (i := 4) rfl)) rfl
theorem ws_X6_beforeIn : Cond.static yX6_beforeIn ∈ gtbl := gtbl_of (tb3 (List.mem_of_getElem? (i := 3) rfl)) rfl
theorem cs_X6_beforeIn : CalS yX6_beforeIn cX6_beforeIn 1 (some .int) 1 := ⟨wk_X6_beforeIn, ws_X6_beforeIn, wi_X6, ⟨by decide +kernel, by decide +kernel, by decide +kernel⟩⟩
theorem wk_X6_afterIn : Cond.code yX6_afterIn cX6_afterIn 1 (some .int) ∈ gtbl := gtbl_of (tb3 (List.mem_of_getElem? (i := 7) rfl)) rfl
theorem ws_X6_afterIn : Cond.static yX6_afterIn ∈ gtbl := gtbl_of (tb3 (List.mem_of_getElem? (i := 6) rfl)) rfl
theorem cs_X6_afterIn : CalS yX6_afterIn cX6_afterIn 1 (some .int) 1 := ⟨wk_X6_afterIn, ws_X6_afterIn, wi_X6, ⟨by decide +kernel, by decide +kernel, by decide +kernel⟩⟩
theorem wk_X6_doorIn : Cond.code yX6_doorIn cX6_doorIn 1 (some .int) ∈ gtbl := gtbl_of (tb3 (List.mem_of_getElem? (i := 10) rfl)) rfl
theorem ws_X6_doorIn : Cond.static yX6_doorIn ∈ gtbl := gtbl_of (tb3 (List.mem_of_getElem? (i := 9) rfl)) rfl
theorem cs_X6_doorIn : CalS yX6_doorIn cX6_doorIn 1 (some .int) 1 := ⟨wk_X6_doorIn, ws_X6_doorIn, wi_X6, ⟨by decide +kernel, by decide +kernel, by decide +kernel⟩⟩
theorem wk_X4_isFull : Cond.code yX4_isFull cX4_isFull 1 (some .boolean) ∈ gtbl := gtbl_of (tb3 (List.mem_of_getElem? (i := 14) rfl)) rfl
theorem wn_X4_isFull : Cond.instanceMethod yX4_isFull ∈ gtbl := gtbl_of (tb3 (List.mem_of_getElem? (i := 12) rfl)) rfl
theorem wl_X4_isFull : Cond.selects RX4 yX4_isFull yX4_isFull ∈ gtbl := gtbl_of (tb3 (List.mem_of_getElem? (i := 13) rfl)) rfl
theorem cv_X4_isFull : CalV yX4_isFull cX4_isFull 1 (some .boolean) 0 := ⟨wk_X4_isFull, wn_X4_isFull, wl_X4_isFull, wi_X4, ⟨by decide +kernel, by decide +kernel, by decide +kernel⟩⟩
theorem wk_X4_add : Cond.code yX4_add cX4_add 6 (some .int) ∈ gtbl := gtbl_of (tb3 (List.mem_of_getElem? (i := 18) rfl)) rfl
theorem wn_X4_add : Cond.instanceMethod yX4_add ∈ gtbl := gtbl_of (tb3 (List.mem_of_getElem? (i := 16) rfl)) rfl
theorem wl_X4_add : Cond.selects RX4 yX4_add yX4_add ∈ gtbl := gtbl_of (tb3 (List.mem_of_getElem? (i := 17) rfl)) rfl
theorem cv_X4_add : CalV yX4_add cX4_add 6 (some .int) 4 := ⟨wk_X4_add, wn_X4_add, wl_X4_add, wi_X4, ⟨by decide +kernel, by decide +kernel, by decide +kernel⟩⟩
theorem wk_X6_less : Cond.code yX6_less cX6_less 1 (some .int) ∈ gtbl := gtbl_of (tb3 (List.mem_of_getElem? (i := 22) rfl)) rfl
theorem wn_X6_less : Cond.instanceMethod yX6_less ∈ gtbl := gtbl_of (tb3 (List.mem_of_getElem? (i := 20) rfl)) rfl
theorem wl_X6_less : Cond.selects RX6 yX6_less yX6_less ∈ gtbl := gtbl_of (tb3 (List.mem_of_getElem? (i := 21) rfl)) rfl
theorem cv_X6_less : CalV yX6_less cX6_less 1 (some .int) 0 := ⟨wk_X6_less, wn_X6_less, wl_X6_less, wi_X6, ⟨by decide +kernel, by decide +kernel, by decide +kernel⟩⟩
theorem wk_X4_dropLatest : Cond.code yX4_dropLatest cX4_dropLatest 1 (some .int) ∈ gtbl := gtbl_of (tb3 (List.mem_of_getElem? (i := 26) rfl)) rfl
theorem wn_X4_dropLatest : Cond.instanceMethod yX4_dropLatest ∈ gtbl := gtbl_of (tb3 (List.mem_of_getElem? (i := 24) rfl)) rfl
theorem wl_X4_dropLatest : Cond.selects RX4 yX4_dropLatest yX4_dropLatest ∈ gtbl := gtbl_of (tb3 (List.mem_of_getElem? (i := 25) rfl)) rfl
theorem cv_X4_dropLatest : CalV yX4_dropLatest cX4_dropLatest 1 (some .int) 0 := ⟨wk_X4_dropLatest, wn_X4_dropLatest, wl_X4_dropLatest, wi_X4, ⟨by decide +kernel, by decide +kernel, by decide +kernel⟩⟩
theorem wk_X6_way : Cond.code yX6_way cX6_way 4 (some .int) ∈ gtbl := gtbl_of (tb3 (List.mem_of_getElem? (i := 31) rfl)) rfl
theorem wn_X6_way : Cond.instanceMethod yX6_way ∈ gtbl := gtbl_of (tb3 (List.mem_of_getElem? (i := 29) rfl)) rfl
theorem wl_X6_way : Cond.selects RX6 yX6_way yX6_way ∈ gtbl := gtbl_of (tb3 (List.mem_of_getElem? (i := 30) rfl)) rfl
theorem cv_X6_way : CalV yX6_way cX6_way 4 (some .int) 3 := ⟨wk_X6_way, wn_X6_way, wl_X6_way, wi_X6, ⟨by decide +kernel, by decide +kernel, by decide +kernel⟩⟩
theorem wk_X4_setWay : Cond.code yX4_setWay cX4_setWay 5 (some .int) ∈ gtbl := gtbl_of (tb3 (List.mem_of_getElem? (i := 35) rfl)) rfl
theorem wn_X4_setWay : Cond.instanceMethod yX4_setWay ∈ gtbl := gtbl_of (tb3 (List.mem_of_getElem? (i := 33) rfl)) rfl
theorem wl_X4_setWay : Cond.selects RX4 yX4_setWay yX4_setWay ∈ gtbl := gtbl_of (tb3 (List.mem_of_getElem? (i := 34) rfl)) rfl
theorem cv_X4_setWay : CalV yX4_setWay cX4_setWay 5 (some .int) 3 := ⟨wk_X4_setWay, wn_X4_setWay, wl_X4_setWay, wi_X4, ⟨by decide +kernel, by decide +kernel, by decide +kernel⟩⟩
theorem wk_X4_wayBetween : Cond.code yX4_wayBetween cX4_wayBetween 3 (some .int) ∈ gtbl := gtbl_of (tb3 (List.mem_of_getElem? (i := 39) rfl)) rfl
theorem wn_X4_wayBetween : Cond.instanceMethod yX4_wayBetween ∈ gtbl := gtbl_of (tb3 (List.mem_of_getElem? (i := 38) rfl)) rfl
theorem wl_X4_wayBetween : Cond.selects RX4 yX4_wayBetween yX4_wayBetween ∈ gtbl := gtbl_of (tbp (List.mem_of_getElem? (i := 15) rfl)) rfl
theorem cv_X4_wayBetween : CalV yX4_wayBetween cX4_wayBetween 3 (some .int) 2 := ⟨wk_X4_wayBetween, wn_X4_wayBetween, wl_X4_wayBetween, wi_X4, ⟨by decide +kernel, by decide +kernel, by decide +kernel⟩⟩
theorem wk_X6_fits : Cond.code yX6_fits cX6_fits 2 (some .int) ∈ gtbl := gtbl_of (tb3 (List.mem_of_getElem? (i := 44) rfl)) rfl
theorem wn_X6_fits : Cond.instanceMethod yX6_fits ∈ gtbl := gtbl_of (tb3 (List.mem_of_getElem? (i := 42) rfl)) rfl
theorem wl_X6_fits : Cond.selects RX6 yX6_fits yX6_fits ∈ gtbl := gtbl_of (tb3 (List.mem_of_getElem? (i := 43) rfl)) rfl
theorem cv_X6_fits : CalV yX6_fits cX6_fits 2 (some .int) 1 := ⟨wk_X6_fits, wn_X6_fits, wl_X6_fits, wi_X6, ⟨by decide +kernel, by decide +kernel, by decide +kernel⟩⟩
theorem wk_X4_has : Cond.code yX4_has cX4_has 2 (some .boolean) ∈ gtbl := gtbl_of (tb3 (List.mem_of_getElem? (i := 48) rfl)) rfl
theorem wn_X4_has : Cond.instanceMethod yX4_has ∈ gtbl := gtbl_of (tb3 (List.mem_of_getElem? (i := 46) rfl)) rfl
theorem wl_X4_has : Cond.selects RX4 yX4_has yX4_has ∈ gtbl := gtbl_of (tb3 (List.mem_of_getElem? (i := 47) rfl)) rfl
theorem cv_X4_has : CalV yX4_has cX4_has 2 (some .boolean) 1 := ⟨wk_X4_has, wn_X4_has, wl_X4_has, wi_X4, ⟨by decide +kernel, by decide +kernel, by decide +kernel⟩⟩
theorem wk_X4_lookBefore : Cond.code yX4_lookBefore cX4_lookBefore 2 (some .int) ∈ gtbl := gtbl_of (tb3 (List.mem_of_getElem? (i := 52) rfl)) rfl
theorem wn_X4_lookBefore : Cond.instanceMethod yX4_lookBefore ∈ gtbl := gtbl_of (tb3 (List.mem_of_getElem? (i := 50) rfl)) rfl
theorem wl_X4_lookBefore : Cond.selects RX4 yX4_lookBefore yX4_lookBefore ∈ gtbl := gtbl_of (tb3 (List.mem_of_getElem? (i := 51) rfl)) rfl
theorem cv_X4_lookBefore : CalV yX4_lookBefore cX4_lookBefore 2 (some .int) 1 := ⟨wk_X4_lookBefore, wn_X4_lookBefore, wl_X4_lookBefore, wi_X4, ⟨by decide +kernel, by decide +kernel, by decide +kernel⟩⟩
theorem wk_X4_lookAfter : Cond.code yX4_lookAfter cX4_lookAfter 2 (some .int) ∈ gtbl := gtbl_of (tb3 (List.mem_of_getElem? (i := 58) rfl)) rfl
theorem wn_X4_lookAfter : Cond.instanceMethod yX4_lookAfter ∈ gtbl := gtbl_of (tb3 (List.mem_of_getElem? (i := 56) rfl)) rfl
theorem wl_X4_lookAfter : Cond.selects RX4 yX4_lookAfter yX4_lookAfter ∈ gtbl := gtbl_of (tb3 (List.mem_of_getElem? (i := 57) rfl)) rfl
theorem cv_X4_lookAfter : CalV yX4_lookAfter cX4_lookAfter 2 (some .int) 1 := ⟨wk_X4_lookAfter, wn_X4_lookAfter, wl_X4_lookAfter, wi_X4, ⟨by decide +kernel, by decide +kernel, by decide +kernel⟩⟩
theorem wk_X4_handsOf : Cond.code yX4_handsOf cX4_handsOf 2 (some .int) ∈ gtbl := gtbl_of (tb3 (List.mem_of_getElem? (i := 63) rfl)) rfl
theorem wn_X4_handsOf : Cond.instanceMethod yX4_handsOf ∈ gtbl := gtbl_of (tb3 (List.mem_of_getElem? (i := 61) rfl)) rfl
theorem wl_X4_handsOf : Cond.selects RX4 yX4_handsOf yX4_handsOf ∈ gtbl := gtbl_of (tb3 (List.mem_of_getElem? (i := 62) rfl)) rfl
theorem cv_X4_handsOf : CalV yX4_handsOf cX4_handsOf 2 (some .int) 1 := ⟨wk_X4_handsOf, wn_X4_handsOf, wl_X4_handsOf, wi_X4, ⟨by decide +kernel, by decide +kernel, by decide +kernel⟩⟩
theorem wk_X4_lengthOf : Cond.code yX4_lengthOf cX4_lengthOf 2 (some .int) ∈ gtbl := gtbl_of (tb3 (List.mem_of_getElem? (i := 67) rfl)) rfl
theorem wn_X4_lengthOf : Cond.instanceMethod yX4_lengthOf ∈ gtbl := gtbl_of (tb3 (List.mem_of_getElem? (i := 65) rfl)) rfl
theorem wl_X4_lengthOf : Cond.selects RX4 yX4_lengthOf yX4_lengthOf ∈ gtbl := gtbl_of (tb3 (List.mem_of_getElem? (i := 66) rfl)) rfl
theorem cv_X4_lengthOf : CalV yX4_lengthOf cX4_lengthOf 2 (some .int) 1 := ⟨wk_X4_lengthOf, wn_X4_lengthOf, wl_X4_lengthOf, wi_X4, ⟨by decide +kernel, by decide +kernel, by decide +kernel⟩⟩
theorem wk_X6_dressers : Cond.code yX6_dressers cX6_dressers 1 (some .int) ∈ gtbl := gtbl_of (tb3 (List.mem_of_getElem? (i := 71) rfl)) rfl
theorem wn_X6_dressers : Cond.instanceMethod yX6_dressers ∈ gtbl := gtbl_of (tb3 (List.mem_of_getElem? (i := 69) rfl)) rfl
theorem wl_X6_dressers : Cond.selects RX6 yX6_dressers yX6_dressers ∈ gtbl := gtbl_of (tb3 (List.mem_of_getElem? (i := 70) rfl)) rfl
theorem cv_X6_dressers : CalV yX6_dressers cX6_dressers 1 (some .int) 0 := ⟨wk_X6_dressers, wn_X6_dressers, wl_X6_dressers, wi_X6, ⟨by decide +kernel, by decide +kernel, by decide +kernel⟩⟩
theorem wk_X3_fewest : Cond.code yX3_fewest cX3_fewest 3 (some .int) ∈ gtbl := gtbl_of (tb3 (List.mem_of_getElem? (i := 75) rfl)) rfl
theorem wn_X3_fewest : Cond.instanceMethod yX3_fewest ∈ gtbl := gtbl_of (tb3 (List.mem_of_getElem? (i := 73) rfl)) rfl
theorem wl_X3_fewest : Cond.selects RX3 yX3_fewest yX3_fewest ∈ gtbl := gtbl_of (tb3 (List.mem_of_getElem? (i := 74) rfl)) rfl
theorem cv_X3_fewest : CalV yX3_fewest cX3_fewest 3 (some .int) 0 := ⟨wk_X3_fewest, wn_X3_fewest, wl_X3_fewest, wi_X3, ⟨by decide +kernel, by decide +kernel, by decide +kernel⟩⟩
theorem wk_J7_fill_53178 : Cond.code yJ7_fill_53178 cJ7_fill_53178 4 none ∈ gtbl := gtbl_of (tb3 (List.mem_of_getElem? (i := 78) rfl)) rfl
theorem ws_J7_fill_53178 : Cond.static yJ7_fill_53178 ∈ gtbl := gtbl_of (tb3 (List.mem_of_getElem? (i := 77) rfl)) rfl
theorem cs_J7_fill_53178 : CalS yJ7_fill_53178 cJ7_fill_53178 4 none 2 := ⟨wk_J7_fill_53178, ws_J7_fill_53178, wi_J7, ⟨by decide +kernel, by decide +kernel, by decide +kernel⟩⟩
theorem wk_X3_sendOn : Cond.code yX3_sendOn cX3_sendOn 6 (some .int) ∈ gtbl := gtbl_of (tb3 (List.mem_of_getElem? (i := 83) rfl)) rfl
theorem wn_X3_sendOn : Cond.instanceMethod yX3_sendOn ∈ gtbl := gtbl_of (tb3 (List.mem_of_getElem? (i := 82) rfl)) rfl
theorem wl_X3_sendOn : Cond.selects RX3 yX3_sendOn yX3_sendOn ∈ gtbl := gtbl_of (tbp (List.mem_of_getElem? (i := 16) rfl)) rfl
theorem cv_X3_sendOn : CalV yX3_sendOn cX3_sendOn 6 (some .int) 1 := ⟨wk_X3_sendOn, wn_X3_sendOn, wl_X3_sendOn, wi_X3, ⟨by decide +kernel, by decide +kernel, by decide +kernel⟩⟩
theorem wk_X3_search : Cond.code yX3_search cX3_search 5 (some .int) ∈ gtbl := gtbl_of (tb3 (List.mem_of_getElem? (i := 87) rfl)) rfl
theorem wn_X3_search : Cond.instanceMethod yX3_search ∈ gtbl := gtbl_of (tb3 (List.mem_of_getElem? (i := 86) rfl)) rfl
theorem wl_X3_search : Cond.selects RX3 yX3_search yX3_search ∈ gtbl := gtbl_of (tbp (List.mem_of_getElem? (i := 17) rfl)) rfl
theorem cv_X3_search : CalV yX3_search cX3_search 5 (some .int) 1 := ⟨wk_X3_search, wn_X3_search, wl_X3_search, wi_X3, ⟨by decide +kernel, by decide +kernel, by decide +kernel⟩⟩
theorem wk_X3_enqueue : Cond.code yX3_enqueue cX3_enqueue 3 none ∈ gtbl := gtbl_of (tb3 (List.mem_of_getElem? (i := 91) rfl)) rfl
theorem wn_X3_enqueue : Cond.instanceMethod yX3_enqueue ∈ gtbl := gtbl_of (tb3 (List.mem_of_getElem? (i := 90) rfl)) rfl
theorem wl_X3_enqueue : Cond.selects RX3 yX3_enqueue yX3_enqueue ∈ gtbl := gtbl_of (tbp (List.mem_of_getElem? (i := 18) rfl)) rfl
theorem cv_X3_enqueue : CalV yX3_enqueue cX3_enqueue 3 none 2 := ⟨wk_X3_enqueue, wn_X3_enqueue, wl_X3_enqueue, wi_X3, ⟨by decide +kernel, by decide +kernel, by decide +kernel⟩⟩
theorem wk_X4_mayGo : Cond.code yX4_mayGo cX4_mayGo 3 (some .boolean) ∈ gtbl := gtbl_of (tb3 (List.mem_of_getElem? (i := 96) rfl)) rfl
theorem wn_X4_mayGo : Cond.instanceMethod yX4_mayGo ∈ gtbl := gtbl_of (tb3 (List.mem_of_getElem? (i := 94) rfl)) rfl
theorem wl_X4_mayGo : Cond.selects RX4 yX4_mayGo yX4_mayGo ∈ gtbl := gtbl_of (tb3 (List.mem_of_getElem? (i := 95) rfl)) rfl
theorem cv_X4_mayGo : CalV yX4_mayGo cX4_mayGo 3 (some .boolean) 2 := ⟨wk_X4_mayGo, wn_X4_mayGo, wl_X4_mayGo, wi_X4, ⟨by decide +kernel, by decide +kernel, by decide +kernel⟩⟩
theorem wk_X3_enqueueThoseGoingTo : Cond.code yX3_enqueueThoseGoingTo cX3_enqueueThoseGoingTo 3 none ∈ gtbl := gtbl_of (tb3 (List.mem_of_getElem? (i := 101) rfl)) rfl
theorem wn_X3_enqueueThoseGoingTo : Cond.instanceMethod yX3_enqueueThoseGoingTo ∈ gtbl := gtbl_of (tb3 (List.mem_of_getElem? (i := 100) rfl)) rfl
theorem wl_X3_enqueueThoseGoingTo : Cond.selects RX3 yX3_enqueueThoseGoingTo yX3_enqueueThoseGoingTo ∈ gtbl := gtbl_of (tbp (List.mem_of_getElem? (i := 19) rfl)) rfl
theorem cv_X3_enqueueThoseGoingTo : CalV yX3_enqueueThoseGoingTo cX3_enqueueThoseGoingTo 3 none 1 := ⟨wk_X3_enqueueThoseGoingTo, wn_X3_enqueueThoseGoingTo, wl_X3_enqueueThoseGoingTo, wi_X3, ⟨by decide +kernel, by decide +kernel, by decide +kernel⟩⟩
theorem wk_X3_goingBetween : Cond.code yX3_goingBetween cX3_goingBetween 3 (some .int) ∈ gtbl := gtbl_of (tb3 (List.mem_of_getElem? (i := 105) rfl)) rfl
theorem wn_X3_goingBetween : Cond.instanceMethod yX3_goingBetween ∈ gtbl := gtbl_of (tb3 (List.mem_of_getElem? (i := 104) rfl)) rfl
theorem wl_X3_goingBetween : Cond.selects RX3 yX3_goingBetween yX3_goingBetween ∈ gtbl := gtbl_of (tbp (List.mem_of_getElem? (i := 20) rfl)) rfl
theorem cv_X3_goingBetween : CalV yX3_goingBetween cX3_goingBetween 3 (some .int) 2 := ⟨wk_X3_goingBetween, wn_X3_goingBetween, wl_X3_goingBetween, wi_X3, ⟨by decide +kernel, by decide +kernel, by decide +kernel⟩⟩
theorem wk_X3_settle : Cond.code yX3_settle cX3_settle 6 none ∈ gtbl := gtbl_of (tb3 (List.mem_of_getElem? (i := 109) rfl)) rfl
theorem wn_X3_settle : Cond.instanceMethod yX3_settle ∈ gtbl := gtbl_of (tb3 (List.mem_of_getElem? (i := 108) rfl)) rfl
theorem wl_X3_settle : Cond.selects RX3 yX3_settle yX3_settle ∈ gtbl := gtbl_of (tbp (List.mem_of_getElem? (i := 21) rfl)) rfl
theorem cv_X3_settle : CalV yX3_settle cX3_settle 6 none 2 := ⟨wk_X3_settle, wn_X3_settle, wl_X3_settle, wi_X3, ⟨by decide +kernel, by decide +kernel, by decide +kernel⟩⟩
theorem wk_X3_noteGoing : Cond.code yX3_noteGoing cX3_noteGoing 4 none ∈ gtbl := gtbl_of (tb3 (List.mem_of_getElem? (i := 113) rfl)) rfl
theorem wn_X3_noteGoing : Cond.instanceMethod yX3_noteGoing ∈ gtbl := gtbl_of (tb3 (List.mem_of_getElem? (i := 112) rfl)) rfl
theorem wl_X3_noteGoing : Cond.selects RX3 yX3_noteGoing yX3_noteGoing ∈ gtbl := gtbl_of (tbp (List.mem_of_getElem? (i := 22) rfl)) rfl
theorem cv_X3_noteGoing : CalV yX3_noteGoing cX3_noteGoing 4 none 3 := ⟨wk_X3_noteGoing, wn_X3_noteGoing, wl_X3_noteGoing, wi_X3, ⟨by decide +kernel, by decide +kernel, by decide +kernel⟩⟩
theorem wk_X6_worn : Cond.code yX6_worn cX6_worn 2 (some .int) ∈ gtbl := gtbl_of (tb3 (List.mem_of_getElem? (i := 117) rfl)) rfl
theorem wn_X6_worn : Cond.instanceMethod yX6_worn ∈ gtbl := gtbl_of (tb3 (List.mem_of_getElem? (i := 115) rfl)) rfl
theorem wl_X6_worn : Cond.selects RX6 yX6_worn yX6_worn ∈ gtbl := gtbl_of (tb3 (List.mem_of_getElem? (i := 116) rfl)) rfl
theorem cv_X6_worn : CalV yX6_worn cX6_worn 2 (some .int) 1 := ⟨wk_X6_worn, wn_X6_worn, wl_X6_worn, wi_X6, ⟨by decide +kernel, by decide +kernel, by decide +kernel⟩⟩
theorem wk_X6_wash : Cond.code yX6_wash cX6_wash 2 (some .int) ∈ gtbl := gtbl_of (tb3 (List.mem_of_getElem? (i := 122) rfl)) rfl
theorem wn_X6_wash : Cond.instanceMethod yX6_wash ∈ gtbl := gtbl_of (tb3 (List.mem_of_getElem? (i := 120) rfl)) rfl
theorem wl_X6_wash : Cond.selects RX6 yX6_wash yX6_wash ∈ gtbl := gtbl_of (tb3 (List.mem_of_getElem? (i := 121) rfl)) rfl
theorem cv_X6_wash : CalV yX6_wash cX6_wash 2 (some .int) 1 := ⟨wk_X6_wash, wn_X6_wash, wl_X6_wash, wi_X6, ⟨by decide +kernel, by decide +kernel, by decide +kernel⟩⟩
theorem wk_X5_countInWash : Cond.code yX5_countInWash cX5_countInWash 3 (some .int) ∈ gtbl := gtbl_of (tb3 (List.mem_of_getElem? (i := 126) rfl)) rfl
theorem wn_X5_countInWash : Cond.instanceMethod yX5_countInWash ∈ gtbl := gtbl_of (tb3 (List.mem_of_getElem? (i := 124) rfl)) rfl
theorem wl_X5_countInWash : Cond.selects RX5 yX5_countInWash yX5_countInWash ∈ gtbl := gtbl_of (tb3 (List.mem_of_getElem? (i := 125) rfl)) rfl
theorem cv_X5_countInWash : CalV yX5_countInWash cX5_countInWash 3 (some .int) 0 := ⟨wk_X5_countInWash, wn_X5_countInWash, wl_X5_countInWash, wi_X5, ⟨by decide +kernel, by decide +kernel, by decide +kernel⟩⟩
theorem wk_X5_soak : Cond.code yX5_soak cX5_soak 3 (some .int) ∈ gtbl := gtbl_of (tb3 (List.mem_of_getElem? (i := 130) rfl)) rfl
theorem wn_X5_soak : Cond.instanceMethod yX5_soak ∈ gtbl := gtbl_of (tb3 (List.mem_of_getElem? (i := 128) rfl)) rfl
theorem wl_X5_soak : Cond.selects RX5 yX5_soak yX5_soak ∈ gtbl := gtbl_of (tb3 (List.mem_of_getElem? (i := 129) rfl)) rfl
theorem cv_X5_soak : CalV yX5_soak cX5_soak 3 (some .int) 1 := ⟨wk_X5_soak, wn_X5_soak, wl_X5_soak, wi_X5, ⟨by decide +kernel, by decide +kernel, by decide +kernel⟩⟩
theorem wk_X6_hours : Cond.code yX6_hours cX6_hours 2 (some .int) ∈ gtbl := gtbl_of (tb3 (List.mem_of_getElem? (i := 134) rfl)) rfl
theorem wn_X6_hours : Cond.instanceMethod yX6_hours ∈ gtbl := gtbl_of (tb3 (List.mem_of_getElem? (i := 132) rfl)) rfl
theorem wl_X6_hours : Cond.selects RX6 yX6_hours yX6_hours ∈ gtbl := gtbl_of (tb3 (List.mem_of_getElem? (i := 133) rfl)) rfl
theorem cv_X6_hours : CalV yX6_hours cX6_hours 2 (some .int) 1 := ⟨wk_X6_hours, wn_X6_hours, wl_X6_hours, wi_X6, ⟨by decide +kernel, by decide +kernel, by decide +kernel⟩⟩
theorem wk_X5_passHours : Cond.code yX5_passHours cX5_passHours 4 (some .int) ∈ gtbl := gtbl_of (tb3 (List.mem_of_getElem? (i := 139) rfl)) rfl
theorem wn_X5_passHours : Cond.instanceMethod yX5_passHours ∈ gtbl := gtbl_of (tb3 (List.mem_of_getElem? (i := 137) rfl)) rfl
theorem wl_X5_passHours : Cond.selects RX5 yX5_passHours yX5_passHours ∈ gtbl := gtbl_of (tb3 (List.mem_of_getElem? (i := 138) rfl)) rfl
theorem cv_X5_passHours : CalV yX5_passHours cX5_passHours 4 (some .int) 1 := ⟨wk_X5_passHours, wn_X5_passHours, wl_X5_passHours, wi_X5, ⟨by decide +kernel, by decide +kernel, by decide +kernel⟩⟩
theorem wk_X5_dries : Cond.code yX5_dries cX5_dries 2 (some .boolean) ∈ gtbl := gtbl_of (tb3 (List.mem_of_getElem? (i := 143) rfl)) rfl
theorem wn_X5_dries : Cond.instanceMethod yX5_dries ∈ gtbl := gtbl_of (tb3 (List.mem_of_getElem? (i := 142) rfl)) rfl
theorem wl_X5_dries : Cond.selects RX5 yX5_dries yX5_dries ∈ gtbl := gtbl_of (tbp (List.mem_of_getElem? (i := 23) rfl)) rfl
theorem cv_X5_dries : CalV yX5_dries cX5_dries 2 (some .boolean) 1 := ⟨wk_X5_dries, wn_X5_dries, wl_X5_dries, wi_X5, ⟨by decide +kernel, by decide +kernel, by decide +kernel⟩⟩
theorem wk_X6_tonight : Cond.code yX6_tonight cX6_tonight 6 (some .int) ∈ gtbl := gtbl_of (tb3 (List.mem_of_getElem? (i := 147) rfl)) rfl
theorem wn_X6_tonight : Cond.instanceMethod yX6_tonight ∈ gtbl := gtbl_of (tb3 (List.mem_of_getElem? (i := 145) rfl)) rfl
theorem wl_X6_tonight : Cond.selects RX6 yX6_tonight yX6_tonight ∈ gtbl := gtbl_of (tb3 (List.mem_of_getElem? (i := 146) rfl)) rfl
theorem cv_X6_tonight : CalV yX6_tonight cX6_tonight 6 (some .int) 2 := ⟨wk_X6_tonight, wn_X6_tonight, wl_X6_tonight, wi_X6, ⟨by decide +kernel, by decide +kernel, by decide +kernel⟩⟩
theorem wk_X6_costTonight : Cond.code yX6_costTonight cX6_costTonight 6 (some .int) ∈ gtbl := gtbl_of (tb3 (List.mem_of_getElem? (i := 151) rfl)) rfl
theorem wn_X6_costTonight : Cond.instanceMethod yX6_costTonight ∈ gtbl := gtbl_of (tb3 (List.mem_of_getElem? (i := 150) rfl)) rfl
theorem wl_X6_costTonight : Cond.selects RX6 yX6_costTonight yX6_costTonight ∈ gtbl := gtbl_of (tbp (List.mem_of_getElem? (i := 24) rfl)) rfl
theorem cv_X6_costTonight : CalV yX6_costTonight cX6_costTonight 6 (some .int) 3 := ⟨wk_X6_costTonight, wn_X6_costTonight, wl_X6_costTonight, wi_X6, ⟨by decide +kernel, by decide +kernel, by decide +kernel⟩⟩
theorem wk_X5_sizesAway : Cond.code yX5_sizesAway cX5_sizesAway 5 (some .int) ∈ gtbl := gtbl_of (tb3 (List.mem_of_getElem? (i := 155) rfl)) rfl
theorem wn_X5_sizesAway : Cond.instanceMethod yX5_sizesAway ∈ gtbl := gtbl_of (tb3 (List.mem_of_getElem? (i := 153) rfl)) rfl
theorem wl_X5_sizesAway : Cond.selects RX5 yX5_sizesAway yX5_sizesAway ∈ gtbl := gtbl_of (tb3 (List.mem_of_getElem? (i := 154) rfl)) rfl
theorem cv_X5_sizesAway : CalV yX5_sizesAway cX5_sizesAway 5 (some .int) 2 := ⟨wk_X5_sizesAway, wn_X5_sizesAway, wl_X5_sizesAway, wi_X5, ⟨by decide +kernel, by decide +kernel, by decide +kernel⟩⟩
theorem wk_X6_countAheadForSwap : Cond.code yX6_countAheadForSwap cX6_countAheadForSwap 11 (some .int) ∈ gtbl := gtbl_of (tb3 (List.mem_of_getElem? (i := 160) rfl)) rfl
theorem wn_X6_countAheadForSwap : Cond.instanceMethod yX6_countAheadForSwap ∈ gtbl := gtbl_of (tb3 (List.mem_of_getElem? (i := 159) rfl)) rfl
theorem wl_X6_countAheadForSwap : Cond.selects RX6 yX6_countAheadForSwap yX6_countAheadForSwap ∈ gtbl := gtbl_of (tbp (List.mem_of_getElem? (i := 25) rfl)) rfl
theorem cv_X6_countAheadForSwap : CalV yX6_countAheadForSwap cX6_countAheadForSwap 11 (some .int) 3 := ⟨wk_X6_countAheadForSwap, wn_X6_countAheadForSwap, wl_X6_countAheadForSwap, wi_X6, ⟨by decide +kernel, by decide +kernel, by decide +kernel⟩⟩
theorem wk_X5_areAlike : Cond.code yX5_areAlike cX5_areAlike 3 (some .boolean) ∈ gtbl := gtbl_of (tb3 (List.mem_of_getElem? (i := 164) rfl)) rfl
theorem wn_X5_areAlike : Cond.instanceMethod yX5_areAlike ∈ gtbl := gtbl_of (tb3 (List.mem_of_getElem? (i := 162) rfl)) rfl
theorem wl_X5_areAlike : Cond.selects RX5 yX5_areAlike yX5_areAlike ∈ gtbl := gtbl_of (tb3 (List.mem_of_getElem? (i := 163) rfl)) rfl
theorem cv_X5_areAlike : CalV yX5_areAlike cX5_areAlike 3 (some .boolean) 2 := ⟨wk_X5_areAlike, wn_X5_areAlike, wl_X5_areAlike, wi_X5, ⟨by decide +kernel, by decide +kernel, by decide +kernel⟩⟩
theorem wk_X6_countSpares : Cond.code yX6_countSpares cX6_countSpares 5 (some .int) ∈ gtbl := gtbl_of (tb3 (List.mem_of_getElem? (i := 169) rfl)) rfl
theorem wn_X6_countSpares : Cond.instanceMethod yX6_countSpares ∈ gtbl := gtbl_of (tb3 (List.mem_of_getElem? (i := 168) rfl)) rfl
theorem wl_X6_countSpares : Cond.selects RX6 yX6_countSpares yX6_countSpares ∈ gtbl := gtbl_of (tbp (List.mem_of_getElem? (i := 26) rfl)) rfl
theorem cv_X6_countSpares : CalV yX6_countSpares cX6_countSpares 5 (some .int) 2 := ⟨wk_X6_countSpares, wn_X6_countSpares, wl_X6_countSpares, wi_X6, ⟨by decide +kernel, by decide +kernel, by decide +kernel⟩⟩
theorem wk_X2_isInNone : Cond.code yX2_isInNone cX2_isInNone 2 (some .boolean) ∈ gtbl := gtbl_of (tb3 (List.mem_of_getElem? (i := 173) rfl)) rfl
theorem wn_X2_isInNone : Cond.instanceMethod yX2_isInNone ∈ gtbl := gtbl_of (tb3 (List.mem_of_getElem? (i := 171) rfl)) rfl
theorem wl_X2_isInNone : Cond.selects RX2 yX2_isInNone yX2_isInNone ∈ gtbl := gtbl_of (tb3 (List.mem_of_getElem? (i := 172) rfl)) rfl
theorem cv_X2_isInNone : CalV yX2_isInNone cX2_isInNone 2 (some .boolean) 1 := ⟨wk_X2_isInNone, wn_X2_isInNone, wl_X2_isInNone, wi_X2, ⟨by decide +kernel, by decide +kernel, by decide +kernel⟩⟩
theorem wk_X6_tell : Cond.code yX6_tell cX6_tell 2 (some .int) ∈ gtbl := gtbl_of (tb3 (List.mem_of_getElem? (i := 177) rfl)) rfl
theorem wn_X6_tell : Cond.instanceMethod yX6_tell ∈ gtbl := gtbl_of (tb3 (List.mem_of_getElem? (i := 175) rfl)) rfl
theorem wl_X6_tell : Cond.selects RX6 yX6_tell yX6_tell ∈ gtbl := gtbl_of (tb3 (List.mem_of_getElem? (i := 176) rfl)) rfl
theorem cv_X6_tell : CalV yX6_tell cX6_tell 2 (some .int) 1 := ⟨wk_X6_tell, wn_X6_tell, wl_X6_tell, wi_X6, ⟨by decide +kernel, by decide +kernel, by decide +kernel⟩⟩
theorem wk_X6_check : Cond.code yX6_check cX6_check 6 (some .int) ∈ gtbl := gtbl_of (tb3 (List.mem_of_getElem? (i := 181) rfl)) rfl
theorem wn_X6_check : Cond.instanceMethod yX6_check ∈ gtbl := gtbl_of (tb3 (List.mem_of_getElem? (i := 179) rfl)) rfl
theorem wl_X6_check : Cond.selects RX6 yX6_check yX6_check ∈ gtbl := gtbl_of (tb3 (List.mem_of_getElem? (i := 180) rfl)) rfl
theorem cv_X6_check : CalV yX6_check cX6_check 6 (some .int) 3 := ⟨wk_X6_check, wn_X6_check, wl_X6_check, wi_X6, ⟨by decide +kernel, by decide +kernel, by decide +kernel⟩⟩
theorem wk_X6_dressForChange : Cond.code yX6_dressForChange cX6_dressForChange 7 none ∈ gtbl := gtbl_of (tb3 (List.mem_of_getElem? (i := 185) rfl)) rfl
theorem wn_X6_dressForChange : Cond.instanceMethod yX6_dressForChange ∈ gtbl := gtbl_of (tb3 (List.mem_of_getElem? (i := 184) rfl)) rfl
theorem wl_X6_dressForChange : Cond.selects RX6 yX6_dressForChange yX6_dressForChange ∈ gtbl := gtbl_of (tbp (List.mem_of_getElem? (i := 27) rfl)) rfl
theorem cv_X6_dressForChange : CalV yX6_dressForChange cX6_dressForChange 7 none 3 := ⟨wk_X6_dressForChange, wn_X6_dressForChange, wl_X6_dressForChange, wi_X6, ⟨by decide +kernel, by decide +kernel, by decide +kernel⟩⟩
theorem wk_X0_undress : Cond.code yX0_undress cX0_undress 1 none ∈ gtbl := gtbl_of (tb3 (List.mem_of_getElem? (i := 189) rfl)) rfl
theorem wn_X0_undress : Cond.instanceMethod yX0_undress ∈ gtbl := gtbl_of (tb3 (List.mem_of_getElem? (i := 187) rfl)) rfl
theorem wl_X0_undress : Cond.selects RX0 yX0_undress yX0_undress ∈ gtbl := gtbl_of (tb3 (List.mem_of_getElem? (i := 188) rfl)) rfl
theorem cv_X0_undress : CalV yX0_undress cX0_undress 1 none 0 := ⟨wk_X0_undress, wn_X0_undress, wl_X0_undress, wi_X0, ⟨by decide +kernel, by decide +kernel, by decide +kernel⟩⟩
theorem wk_X0_putOn : Cond.code yX0_putOn cX0_putOn 2 (some .boolean) ∈ gtbl := gtbl_of (tb3 (List.mem_of_getElem? (i := 195) rfl)) rfl
theorem wn_X0_putOn : Cond.instanceMethod yX0_putOn ∈ gtbl := gtbl_of (tb3 (List.mem_of_getElem? (i := 193) rfl)) rfl
theorem wl_X0_putOn : Cond.selects RX0 yX0_putOn yX0_putOn ∈ gtbl := gtbl_of (tb3 (List.mem_of_getElem? (i := 194) rfl)) rfl
theorem cv_X0_putOn : CalV yX0_putOn cX0_putOn 2 (some .boolean) 1 := ⟨wk_X0_putOn, wn_X0_putOn, wl_X0_putOn, wi_X0, ⟨by decide +kernel, by decide +kernel, by decide +kernel⟩⟩
theorem wk_X0_hasOn : Cond.code yX0_hasOn cX0_hasOn 2 (some .boolean) ∈ gtbl := gtbl_of (tb3 (List.mem_of_getElem? (i := 200) rfl)) rfl
theorem wn_X0_hasOn : Cond.instanceMethod yX0_hasOn ∈ gtbl := gtbl_of (tb3 (List.mem_of_getElem? (i := 198) rfl)) rfl
theorem wl_X0_hasOn : Cond.selects RX0 yX0_hasOn yX0_hasOn ∈ gtbl := gtbl_of (tb3 (List.mem_of_getElem? (i := 199) rfl)) rfl
theorem cv_X0_hasOn : CalV yX0_hasOn cX0_hasOn 2 (some .boolean) 1 := ⟨wk_X0_hasOn, wn_X0_hasOn, wl_X0_hasOn, wi_X0, ⟨by decide +kernel, by decide +kernel, by decide +kernel⟩⟩
theorem wk_X0_handle : Cond.code yX0_handle cX0_handle 2 (some .boolean) ∈ gtbl := gtbl_of (tb3 (List.mem_of_getElem? (i := 204) rfl)) rfl
theorem wn_X0_handle : Cond.instanceMethod yX0_handle ∈ gtbl := gtbl_of (tb3 (List.mem_of_getElem? (i := 202) rfl)) rfl
theorem wl_X0_handle : Cond.selects RX0 yX0_handle yX0_handle ∈ gtbl := gtbl_of (tb3 (List.mem_of_getElem? (i := 203) rfl)) rfl
theorem cv_X0_handle : CalV yX0_handle cX0_handle 2 (some .boolean) 1 := ⟨wk_X0_handle, wn_X0_handle, wl_X0_handle, wi_X0, ⟨by decide +kernel, by decide +kernel, by decide +kernel⟩⟩
theorem wk_X0_takeOff : Cond.code yX0_takeOff cX0_takeOff 3 (some .boolean) ∈ gtbl := gtbl_of (tb3 (List.mem_of_getElem? (i := 209) rfl)) rfl
theorem wn_X0_takeOff : Cond.instanceMethod yX0_takeOff ∈ gtbl := gtbl_of (tb3 (List.mem_of_getElem? (i := 208) rfl)) rfl
theorem wl_X0_takeOff : Cond.selects RX0 yX0_takeOff yX0_takeOff ∈ gtbl := gtbl_of (tbp (List.mem_of_getElem? (i := 28) rfl)) rfl
theorem cv_X0_takeOff : CalV yX0_takeOff cX0_takeOff 3 (some .boolean) 1 := ⟨wk_X0_takeOff, wn_X0_takeOff, wl_X0_takeOff, wi_X0, ⟨by decide +kernel, by decide +kernel, by decide +kernel⟩⟩
theorem wk_X0_liesOver : Cond.code yX0_liesOver cX0_liesOver 3 (some .boolean) ∈ gtbl := gtbl_of (tb3 (List.mem_of_getElem? (i := 213) rfl)) rfl
theorem wn_X0_liesOver : Cond.instanceMethod yX0_liesOver ∈ gtbl := gtbl_of (tb3 (List.mem_of_getElem? (i := 211) rfl)) rfl
theorem wl_X0_liesOver : Cond.selects RX0 yX0_liesOver yX0_liesOver ∈ gtbl := gtbl_of (tb3 (List.mem_of_getElem? (i := 212) rfl)) rfl
theorem cv_X0_liesOver : CalV yX0_liesOver cX0_liesOver 3 (some .boolean) 2 := ⟨wk_X0_liesOver, wn_X0_liesOver, wl_X0_liesOver, wi_X0, ⟨by decide +kernel, by decide +kernel, by decide +kernel⟩⟩
theorem wk_X6_isJustWorn : Cond.code yX6_isJustWorn cX6_isJustWorn 6 (some .boolean) ∈ gtbl := gtbl_of (tb3 (List.mem_of_getElem? (i := 218) rfl)) rfl
theorem wn_X6_isJustWorn : Cond.instanceMethod yX6_isJustWorn ∈ gtbl := gtbl_of (tb3 (List.mem_of_getElem? (i := 217) rfl)) rfl
theorem wl_X6_isJustWorn : Cond.selects RX6 yX6_isJustWorn yX6_isJustWorn ∈ gtbl := gtbl_of (tbp (List.mem_of_getElem? (i := 29) rfl)) rfl
theorem cv_X6_isJustWorn : CalV yX6_isJustWorn cX6_isJustWorn 6 (some .boolean) 1 := ⟨wk_X6_isJustWorn, wn_X6_isJustWorn, wl_X6_isJustWorn, wi_X6, ⟨by decide +kernel, by decide +kernel, by decide +kernel⟩⟩
theorem wk_X0_countWorn : Cond.code yX0_countWorn cX0_countWorn 3 (some .int) ∈ gtbl := gtbl_of (tb3 (List.mem_of_getElem? (i := 222) rfl)) rfl
theorem wn_X0_countWorn : Cond.instanceMethod yX0_countWorn ∈ gtbl := gtbl_of (tb3 (List.mem_of_getElem? (i := 220) rfl)) rfl
theorem wl_X0_countWorn : Cond.selects RX0 yX0_countWorn yX0_countWorn ∈ gtbl := gtbl_of (tb3 (List.mem_of_getElem? (i := 221) rfl)) rfl
theorem cv_X0_countWorn : CalV yX0_countWorn cX0_countWorn 3 (some .int) 0 := ⟨wk_X0_countWorn, wn_X0_countWorn, wl_X0_countWorn, wi_X0, ⟨by decide +kernel, by decide +kernel, by decide +kernel⟩⟩
theorem wk_X6_count : Cond.code yX6_count cX6_count 2 (some .int) ∈ gtbl := gtbl_of (tb3 (List.mem_of_getElem? (i := 228) rfl)) rfl
theorem wn_X6_count : Cond.instanceMethod yX6_count ∈ gtbl := gtbl_of (tb3 (List.mem_of_getElem? (i := 226) rfl)) rfl
theorem wl_X6_count : Cond.selects RX6 yX6_count yX6_count ∈ gtbl := gtbl_of (tb3 (List.mem_of_getElem? (i := 227) rfl)) rfl
theorem cv_X6_count : CalV yX6_count cX6_count 2 (some .int) 1 := ⟨wk_X6_count, wn_X6_count, wl_X6_count, wi_X6, ⟨by decide +kernel, by decide +kernel, by decide +kernel⟩⟩
theorem wk_X6_found : Cond.code yX6_found cX6_found 2 (some .int) ∈ gtbl := gtbl_of (tb3 (List.mem_of_getElem? (i := 232) rfl)) rfl
theorem wn_X6_found : Cond.instanceMethod yX6_found ∈ gtbl := gtbl_of (tb3 (List.mem_of_getElem? (i := 230) rfl)) rfl
theorem wl_X6_found : Cond.selects RX6 yX6_found yX6_found ∈ gtbl := gtbl_of (tb3 (List.mem_of_getElem? (i := 231) rfl)) rfl
theorem cv_X6_found : CalV yX6_found cX6_found 2 (some .int) 1 := ⟨wk_X6_found, wn_X6_found, wl_X6_found, wi_X6, ⟨by decide +kernel, by decide +kernel, by decide +kernel⟩⟩
theorem wk_X7_init : Cond.code yX7_init cX7_init 1 none ∈ gtbl := gtbl_of (tb3 (List.mem_of_getElem? (i := 237) rfl)) rfl
theorem wn_X7_init : Cond.instanceMethod yX7_init ∈ gtbl := gtbl_of (tb3 (List.mem_of_getElem? (i := 236) rfl)) rfl
theorem wk_X7_piece : Cond.code yX7_piece cX7_piece 5 (some .int) ∈ gtbl := gtbl_of (tb4 (List.mem_of_getElem? (i := 115) rfl)) rfl
theorem wn_X7_piece : Cond.instanceMethod yX7_piece ∈ gtbl := gtbl_of (tb4 (List.mem_of_getElem? (i := 113) rfl)) rfl
theorem wl_X7_piece : Cond.selects RX7 yX7_piece yX7_piece ∈ gtbl := gtbl_of (tb4 (List.mem_of_getElem? (i := 114) rfl)) rfl
theorem cv_X7_piece : CalV yX7_piece cX7_piece 5 (some .int) 3 := ⟨wk_X7_piece, wn_X7_piece, wl_X7_piece, wi_X7, ⟨by decide +kernel, by decide +kernel, by decide +kernel⟩⟩
theorem wk_X7_isIn : Cond.code yX7_isIn cX7_isIn 3 (some .boolean) ∈ gtbl := gtbl_of (tb4 (List.mem_of_getElem? (i := 118) rfl)) rfl
theorem ws_X7_isIn : Cond.static yX7_isIn ∈ gtbl := gtbl_of (tb4 (List.mem_of_getElem? (i := 117) rfl)) rfl
theorem cs_X7_isIn : CalS yX7_isIn cX7_isIn 3 (some .boolean) 3 := ⟨wk_X7_isIn, ws_X7_isIn, wi_X7, ⟨by decide +kernel, by decide +kernel, by decide +kernel⟩⟩
theorem wk_X7_finding : Cond.code yX7_finding cX7_finding 2 (some .int) ∈ gtbl := gtbl_of (tb4 (List.mem_of_getElem? (i := 122) rfl)) rfl
theorem wn_X7_finding : Cond.instanceMethod yX7_finding ∈ gtbl := gtbl_of (tb4 (List.mem_of_getElem? (i := 121) rfl)) rfl
theorem wl_X7_finding : Cond.selects RX7 yX7_finding yX7_finding ∈ gtbl := gtbl_of (tbp (List.mem_of_getElem? (i := 30) rfl)) rfl
theorem cv_X7_finding : CalV yX7_finding cX7_finding 2 (some .int) 1 := ⟨wk_X7_finding, wn_X7_finding, wl_X7_finding, wi_X7, ⟨by decide +kernel, by decide +kernel, by decide +kernel⟩⟩
theorem wk_X7_as : Cond.code yX7_as cX7_as 3 (some .int) ∈ gtbl := gtbl_of (tb4 (List.mem_of_getElem? (i := 127) rfl)) rfl
theorem wn_X7_as : Cond.instanceMethod yX7_as ∈ gtbl := gtbl_of (tb4 (List.mem_of_getElem? (i := 125) rfl)) rfl
theorem wl_X7_as : Cond.selects RX7 yX7_as yX7_as ∈ gtbl := gtbl_of (tb4 (List.mem_of_getElem? (i := 126) rfl)) rfl
theorem cv_X7_as : CalV yX7_as cX7_as 3 (some .int) 2 := ⟨wk_X7_as, wn_X7_as, wl_X7_as, wi_X7, ⟨by decide +kernel, by decide +kernel, by decide +kernel⟩⟩
theorem wk_X7_isPiece : Cond.code yX7_isPiece cX7_isPiece 2 (some .boolean) ∈ gtbl := gtbl_of (tb4 (List.mem_of_getElem? (i := 131) rfl)) rfl
theorem wn_X7_isPiece : Cond.instanceMethod yX7_isPiece ∈ gtbl := gtbl_of (tb4 (List.mem_of_getElem? (i := 130) rfl)) rfl
theorem wl_X7_isPiece : Cond.selects RX7 yX7_isPiece yX7_isPiece ∈ gtbl := gtbl_of (tbp (List.mem_of_getElem? (i := 31) rfl)) rfl
theorem cv_X7_isPiece : CalV yX7_isPiece cX7_isPiece 2 (some .boolean) 1 := ⟨wk_X7_isPiece, wn_X7_isPiece, wl_X7_isPiece, wi_X7, ⟨by decide +kernel, by decide +kernel, by decide +kernel⟩⟩
theorem wk_X7_about : Cond.code yX7_about cX7_about 3 (some .int) ∈ gtbl := gtbl_of (tb4 (List.mem_of_getElem? (i := 135) rfl)) rfl
theorem wn_X7_about : Cond.instanceMethod yX7_about ∈ gtbl := gtbl_of (tb4 (List.mem_of_getElem? (i := 133) rfl)) rfl
theorem wl_X7_about : Cond.selects RX7 yX7_about yX7_about ∈ gtbl := gtbl_of (tb4 (List.mem_of_getElem? (i := 134) rfl)) rfl
theorem cv_X7_about : CalV yX7_about cX7_about 3 (some .int) 2 := ⟨wk_X7_about, wn_X7_about, wl_X7_about, wi_X7, ⟨by decide +kernel, by decide +kernel, by decide +kernel⟩⟩
theorem wk_X7_wear : Cond.code yX7_wear cX7_wear 3 (some .int) ∈ gtbl := gtbl_of (tb4 (List.mem_of_getElem? (i := 139) rfl)) rfl
theorem wn_X7_wear : Cond.instanceMethod yX7_wear ∈ gtbl := gtbl_of (tb4 (List.mem_of_getElem? (i := 137) rfl)) rfl
theorem wl_X7_wear : Cond.selects RX7 yX7_wear yX7_wear ∈ gtbl := gtbl_of (tb4 (List.mem_of_getElem? (i := 138) rfl)) rfl
theorem cv_X7_wear : CalV yX7_wear cX7_wear 3 (some .int) 2 := ⟨wk_X7_wear, wn_X7_wear, wl_X7_wear, wi_X7, ⟨by decide +kernel, by decide +kernel, by decide +kernel⟩⟩
theorem wk_X7_isLook : Cond.code yX7_isLook cX7_isLook 1 (some .boolean) ∈ gtbl := gtbl_of (tb4 (List.mem_of_getElem? (i := 142) rfl)) rfl
theorem ws_X7_isLook : Cond.static yX7_isLook ∈ gtbl := gtbl_of (tb4 (List.mem_of_getElem? (i := 141) rfl)) rfl
theorem cs_X7_isLook : CalS yX7_isLook cX7_isLook 1 (some .boolean) 1 := ⟨wk_X7_isLook, ws_X7_isLook, wi_X7, ⟨by decide +kernel, by decide +kernel, by decide +kernel⟩⟩
theorem wk_X7_rowOf : Cond.code yX7_rowOf cX7_rowOf 5 (some .int) ∈ gtbl := gtbl_of (tb4 (List.mem_of_getElem? (i := 146) rfl)) rfl
theorem wn_X7_rowOf : Cond.instanceMethod yX7_rowOf ∈ gtbl := gtbl_of (tb4 (List.mem_of_getElem? (i := 145) rfl)) rfl
theorem wl_X7_rowOf : Cond.selects RX7 yX7_rowOf yX7_rowOf ∈ gtbl := gtbl_of (tbp (List.mem_of_getElem? (i := 32) rfl)) rfl
theorem cv_X7_rowOf : CalV yX7_rowOf cX7_rowOf 5 (some .int) 2 := ⟨wk_X7_rowOf, wn_X7_rowOf, wl_X7_rowOf, wi_X7, ⟨by decide +kernel, by decide +kernel, by decide +kernel⟩⟩
theorem wk_X7_bare : Cond.code yX7_bare cX7_bare 3 (some .int) ∈ gtbl := gtbl_of (tb4 (List.mem_of_getElem? (i := 150) rfl)) rfl
theorem wn_X7_bare : Cond.instanceMethod yX7_bare ∈ gtbl := gtbl_of (tb4 (List.mem_of_getElem? (i := 148) rfl)) rfl
theorem wl_X7_bare : Cond.selects RX7 yX7_bare yX7_bare ∈ gtbl := gtbl_of (tb4 (List.mem_of_getElem? (i := 149) rfl)) rfl
theorem cv_X7_bare : CalV yX7_bare cX7_bare 3 (some .int) 1 := ⟨wk_X7_bare, wn_X7_bare, wl_X7_bare, wi_X7, ⟨by decide +kernel, by decide +kernel, by decide +kernel⟩⟩
theorem wk_X7_look : Cond.code yX7_look cX7_look 3 (some .int) ∈ gtbl := gtbl_of (tb4 (List.mem_of_getElem? (i := 154) rfl)) rfl
theorem wn_X7_look : Cond.instanceMethod yX7_look ∈ gtbl := gtbl_of (tb4 (List.mem_of_getElem? (i := 152) rfl)) rfl
theorem wl_X7_look : Cond.selects RX7 yX7_look yX7_look ∈ gtbl := gtbl_of (tb4 (List.mem_of_getElem? (i := 153) rfl)) rfl
theorem cv_X7_look : CalV yX7_look cX7_look 3 (some .int) 2 := ⟨wk_X7_look, wn_X7_look, wl_X7_look, wi_X7, ⟨by decide +kernel, by decide +kernel, by decide +kernel⟩⟩
theorem wk_X7_limit : Cond.code yX7_limit cX7_limit 3 (some .int) ∈ gtbl := gtbl_of (tb4 (List.mem_of_getElem? (i := 158) rfl)) rfl
theorem wn_X7_limit : Cond.instanceMethod yX7_limit ∈ gtbl := gtbl_of (tb4 (List.mem_of_getElem? (i := 156) rfl)) rfl
theorem wl_X7_limit : Cond.selects RX7 yX7_limit yX7_limit ∈ gtbl := gtbl_of (tb4 (List.mem_of_getElem? (i := 157) rfl)) rfl
theorem cv_X7_limit : CalV yX7_limit cX7_limit 3 (some .int) 1 := ⟨wk_X7_limit, wn_X7_limit, wl_X7_limit, wi_X7, ⟨by decide +kernel, by decide +kernel, by decide +kernel⟩⟩
theorem wk_X7_allowed : Cond.code yX7_allowed cX7_allowed 4 (some .int) ∈ gtbl := gtbl_of (tb4 (List.mem_of_getElem? (i := 162) rfl)) rfl
theorem wn_X7_allowed : Cond.instanceMethod yX7_allowed ∈ gtbl := gtbl_of (tb4 (List.mem_of_getElem? (i := 160) rfl)) rfl
theorem wl_X7_allowed : Cond.selects RX7 yX7_allowed yX7_allowed ∈ gtbl := gtbl_of (tb4 (List.mem_of_getElem? (i := 161) rfl)) rfl
theorem cv_X7_allowed : CalV yX7_allowed cX7_allowed 4 (some .int) 3 := ⟨wk_X7_allowed, wn_X7_allowed, wl_X7_allowed, wi_X7, ⟨by decide +kernel, by decide +kernel, by decide +kernel⟩⟩
theorem wk_X7_isChange : Cond.code yX7_isChange cX7_isChange 4 (some .boolean) ∈ gtbl := gtbl_of (tb4 (List.mem_of_getElem? (i := 166) rfl)) rfl
theorem wn_X7_isChange : Cond.instanceMethod yX7_isChange ∈ gtbl := gtbl_of (tb4 (List.mem_of_getElem? (i := 165) rfl)) rfl
theorem wl_X7_isChange : Cond.selects RX7 yX7_isChange yX7_isChange ∈ gtbl := gtbl_of (tbp (List.mem_of_getElem? (i := 33) rfl)) rfl
theorem cv_X7_isChange : CalV yX7_isChange cX7_isChange 4 (some .boolean) 3 := ⟨wk_X7_isChange, wn_X7_isChange, wl_X7_isChange, wi_X7, ⟨by decide +kernel, by decide +kernel, by decide +kernel⟩⟩
theorem wk_X7_isAllowed : Cond.code yX7_isAllowed cX7_isAllowed 9 (some .boolean) ∈ gtbl := gtbl_of (tb4 (List.mem_of_getElem? (i := 170) rfl)) rfl
theorem wn_X7_isAllowed : Cond.instanceMethod yX7_isAllowed ∈ gtbl := gtbl_of (tb4 (List.mem_of_getElem? (i := 169) rfl)) rfl
theorem wl_X7_isAllowed : Cond.selects RX7 yX7_isAllowed yX7_isAllowed ∈ gtbl := gtbl_of (tbp (List.mem_of_getElem? (i := 34) rfl)) rfl
theorem cv_X7_isAllowed : CalV yX7_isAllowed cX7_isAllowed 9 (some .boolean) 3 := ⟨wk_X7_isAllowed, wn_X7_isAllowed, wl_X7_isAllowed, wi_X7, ⟨by decide +kernel, by decide +kernel, by decide +kernel⟩⟩
theorem wk_X7_has : Cond.code yX7_has cX7_has 2 (some .boolean) ∈ gtbl := gtbl_of (tb4 (List.mem_of_getElem? (i := 173) rfl)) rfl
theorem ws_X7_has : Cond.static yX7_has ∈ gtbl := gtbl_of (tb4 (List.mem_of_getElem? (i := 172) rfl)) rfl
theorem cs_X7_has : CalS yX7_has cX7_has 2 (some .boolean) 2 := ⟨wk_X7_has, ws_X7_has, wi_X7, ⟨by decide +kernel, by decide +kernel, by decide +kernel⟩⟩
theorem wk_X7_thickAt : Cond.code yX7_thickAt cX7_thickAt 7 (some .int) ∈ gtbl := gtbl_of (tb4 (List.mem_of_getElem? (i := 177) rfl)) rfl
theorem wn_X7_thickAt : Cond.instanceMethod yX7_thickAt ∈ gtbl := gtbl_of (tb4 (List.mem_of_getElem? (i := 176) rfl)) rfl
theorem wl_X7_thickAt : Cond.selects RX7 yX7_thickAt yX7_thickAt ∈ gtbl := gtbl_of (tbp (List.mem_of_getElem? (i := 35) rfl)) rfl
theorem cv_X7_thickAt : CalV yX7_thickAt cX7_thickAt 7 (some .int) 4 := ⟨wk_X7_thickAt, wn_X7_thickAt, wl_X7_thickAt, wi_X7, ⟨by decide +kernel, by decide +kernel, by decide +kernel⟩⟩
theorem wk_X7_told : Cond.code yX7_told cX7_told 5 (some .int) ∈ gtbl := gtbl_of (tb4 (List.mem_of_getElem? (i := 181) rfl)) rfl
theorem wn_X7_told : Cond.instanceMethod yX7_told ∈ gtbl := gtbl_of (tb4 (List.mem_of_getElem? (i := 179) rfl)) rfl
theorem wl_X7_told : Cond.selects RX7 yX7_told yX7_told ∈ gtbl := gtbl_of (tb4 (List.mem_of_getElem? (i := 180) rfl)) rfl
theorem cv_X7_told : CalV yX7_told cX7_told 5 (some .int) 4 := ⟨wk_X7_told, wn_X7_told, wl_X7_told, wi_X7, ⟨by decide +kernel, by decide +kernel, by decide +kernel⟩⟩
theorem wk_X7_tell : Cond.code yX7_tell cX7_tell 7 none ∈ gtbl := gtbl_of (tb4 (List.mem_of_getElem? (i := 185) rfl)) rfl
theorem wn_X7_tell : Cond.instanceMethod yX7_tell ∈ gtbl := gtbl_of (tb4 (List.mem_of_getElem? (i := 184) rfl)) rfl
theorem wl_X7_tell : Cond.selects RX7 yX7_tell yX7_tell ∈ gtbl := gtbl_of (tbp (List.mem_of_getElem? (i := 36) rfl)) rfl
theorem cv_X7_tell : CalV yX7_tell cX7_tell 7 none 3 := ⟨wk_X7_tell, wn_X7_tell, wl_X7_tell, wi_X7, ⟨by decide +kernel, by decide +kernel, by decide +kernel⟩⟩
theorem wk_X7_mustOff : Cond.code yX7_mustOff cX7_mustOff 11 (some .boolean) ∈ gtbl := gtbl_of (tb4 (List.mem_of_getElem? (i := 189) rfl)) rfl
theorem wn_X7_mustOff : Cond.instanceMethod yX7_mustOff ∈ gtbl := gtbl_of (tb4 (List.mem_of_getElem? (i := 188) rfl)) rfl
theorem wl_X7_mustOff : Cond.selects RX7 yX7_mustOff yX7_mustOff ∈ gtbl := gtbl_of (tbp (List.mem_of_getElem? (i := 37) rfl)) rfl
theorem cv_X7_mustOff : CalV yX7_mustOff cX7_mustOff 11 (some .boolean) 4 := ⟨wk_X7_mustOff, wn_X7_mustOff, wl_X7_mustOff, wi_X7, ⟨by decide +kernel, by decide +kernel, by decide +kernel⟩⟩
theorem wk_X7_isOff : Cond.code yX7_isOff cX7_isOff 4 (some .boolean) ∈ gtbl := gtbl_of (tb4 (List.mem_of_getElem? (i := 193) rfl)) rfl
theorem wn_X7_isOff : Cond.instanceMethod yX7_isOff ∈ gtbl := gtbl_of (tb4 (List.mem_of_getElem? (i := 192) rfl)) rfl
theorem wl_X7_isOff : Cond.selects RX7 yX7_isOff yX7_isOff ∈ gtbl := gtbl_of (tbp (List.mem_of_getElem? (i := 38) rfl)) rfl
theorem cv_X7_isOff : CalV yX7_isOff cX7_isOff 4 (some .boolean) 2 := ⟨wk_X7_isOff, wn_X7_isOff, wl_X7_isOff, wi_X7, ⟨by decide +kernel, by decide +kernel, by decide +kernel⟩⟩
theorem wk_X7_countOf : Cond.code yX7_countOf cX7_countOf 3 (some .int) ∈ gtbl := gtbl_of (tb4 (List.mem_of_getElem? (i := 196) rfl)) rfl
theorem ws_X7_countOf : Cond.static yX7_countOf ∈ gtbl := gtbl_of (tb4 (List.mem_of_getElem? (i := 195) rfl)) rfl
theorem cs_X7_countOf : CalS yX7_countOf cX7_countOf 3 (some .int) 1 := ⟨wk_X7_countOf, ws_X7_countOf, wi_X7, ⟨by decide +kernel, by decide +kernel, by decide +kernel⟩⟩
theorem wk_X7_seconds : Cond.code yX7_seconds cX7_seconds 6 (some .int) ∈ gtbl := gtbl_of (tb4 (List.mem_of_getElem? (i := 200) rfl)) rfl
theorem wn_X7_seconds : Cond.instanceMethod yX7_seconds ∈ gtbl := gtbl_of (tb4 (List.mem_of_getElem? (i := 198) rfl)) rfl
theorem wl_X7_seconds : Cond.selects RX7 yX7_seconds yX7_seconds ∈ gtbl := gtbl_of (tb4 (List.mem_of_getElem? (i := 199) rfl)) rfl
theorem cv_X7_seconds : CalV yX7_seconds cX7_seconds 6 (some .int) 4 := ⟨wk_X7_seconds, wn_X7_seconds, wl_X7_seconds, wi_X7, ⟨by decide +kernel, by decide +kernel, by decide +kernel⟩⟩
theorem wk_X7_secondsOf : Cond.code yX7_secondsOf cX7_secondsOf 11 (some .int) ∈ gtbl := gtbl_of (tb4 (List.mem_of_getElem? (i := 204) rfl)) rfl
theorem wn_X7_secondsOf : Cond.instanceMethod yX7_secondsOf ∈ gtbl := gtbl_of (tb4 (List.mem_of_getElem? (i := 203) rfl)) rfl
theorem wl_X7_secondsOf : Cond.selects RX7 yX7_secondsOf yX7_secondsOf ∈ gtbl := gtbl_of (tbp (List.mem_of_getElem? (i := 39) rfl)) rfl
theorem cv_X7_secondsOf : CalV yX7_secondsOf cX7_secondsOf 11 (some .int) 4 := ⟨wk_X7_secondsOf, wn_X7_secondsOf, wl_X7_secondsOf, wi_X7, ⟨by decide +kernel, by decide +kernel, by decide +kernel⟩⟩
theorem wk_X7_best : Cond.code yX7_best cX7_best 6 (some .int) ∈ gtbl := gtbl_of (tb4 (List.mem_of_getElem? (i := 208) rfl)) rfl
theorem wn_X7_best : Cond.instanceMethod yX7_best ∈ gtbl := gtbl_of (tb4 (List.mem_of_getElem? (i := 206) rfl)) rfl
theorem wl_X7_best : Cond.selects RX7 yX7_best yX7_best ∈ gtbl := gtbl_of (tb4 (List.mem_of_getElem? (i := 207) rfl)) rfl
theorem cv_X7_best : CalV yX7_best cX7_best 6 (some .int) 4 := ⟨wk_X7_best, wn_X7_best, wl_X7_best, wi_X7, ⟨by decide +kernel, by decide +kernel, by decide +kernel⟩⟩
theorem wk_X7_bestOf : Cond.code yX7_bestOf cX7_bestOf 7 (some .int) ∈ gtbl := gtbl_of (tb4 (List.mem_of_getElem? (i := 212) rfl)) rfl
theorem wn_X7_bestOf : Cond.instanceMethod yX7_bestOf ∈ gtbl := gtbl_of (tb4 (List.mem_of_getElem? (i := 211) rfl)) rfl
theorem wl_X7_bestOf : Cond.selects RX7 yX7_bestOf yX7_bestOf ∈ gtbl := gtbl_of (tbp (List.mem_of_getElem? (i := 40) rfl)) rfl
theorem cv_X7_bestOf : CalV yX7_bestOf cX7_bestOf 7 (some .int) 3 := ⟨wk_X7_bestOf, wn_X7_bestOf, wl_X7_bestOf, wi_X7, ⟨by decide +kernel, by decide +kernel, by decide +kernel⟩⟩
theorem wk_X7_shift : Cond.code yX7_shift cX7_shift 6 (some .int) ∈ gtbl := gtbl_of (tb4 (List.mem_of_getElem? (i := 216) rfl)) rfl
theorem wn_X7_shift : Cond.instanceMethod yX7_shift ∈ gtbl := gtbl_of (tb4 (List.mem_of_getElem? (i := 214) rfl)) rfl
theorem wl_X7_shift : Cond.selects RX7 yX7_shift yX7_shift ∈ gtbl := gtbl_of (tb4 (List.mem_of_getElem? (i := 215) rfl)) rfl
theorem cv_X7_shift : CalV yX7_shift cX7_shift 6 (some .int) 4 := ⟨wk_X7_shift, wn_X7_shift, wl_X7_shift, wi_X7, ⟨by decide +kernel, by decide +kernel, by decide +kernel⟩⟩
theorem wk_X7_isDoor : Cond.code yX7_isDoor cX7_isDoor 1 (some .boolean) ∈ gtbl := gtbl_of (tb4 (List.mem_of_getElem? (i := 219) rfl)) rfl
theorem ws_X7_isDoor : Cond.static yX7_isDoor ∈ gtbl := gtbl_of (tb4 (List.mem_of_getElem? (i := 218) rfl)) rfl
theorem cs_X7_isDoor : CalS yX7_isDoor cX7_isDoor 1 (some .boolean) 1 := ⟨wk_X7_isDoor, ws_X7_isDoor, wi_X7, ⟨by decide +kernel, by decide +kernel, by decide +kernel⟩⟩
theorem wk_X7_less : Cond.code yX7_less cX7_less 1 (some .int) ∈ gtbl := gtbl_of (tb4 (List.mem_of_getElem? (i := 223) rfl)) rfl
theorem wn_X7_less : Cond.instanceMethod yX7_less ∈ gtbl := gtbl_of (tb4 (List.mem_of_getElem? (i := 221) rfl)) rfl
theorem wl_X7_less : Cond.selects RX7 yX7_less yX7_less ∈ gtbl := gtbl_of (tb4 (List.mem_of_getElem? (i := 222) rfl)) rfl
theorem cv_X7_less : CalV yX7_less cX7_less 1 (some .int) 0 := ⟨wk_X7_less, wn_X7_less, wl_X7_less, wi_X7, ⟨by decide +kernel, by decide +kernel, by decide +kernel⟩⟩
theorem wk_X7_way : Cond.code yX7_way cX7_way 5 (some .int) ∈ gtbl := gtbl_of (tb4 (List.mem_of_getElem? (i := 227) rfl)) rfl
theorem wn_X7_way : Cond.instanceMethod yX7_way ∈ gtbl := gtbl_of (tb4 (List.mem_of_getElem? (i := 225) rfl)) rfl
theorem wl_X7_way : Cond.selects RX7 yX7_way yX7_way ∈ gtbl := gtbl_of (tb4 (List.mem_of_getElem? (i := 226) rfl)) rfl
theorem cv_X7_way : CalV yX7_way cX7_way 5 (some .int) 3 := ⟨wk_X7_way, wn_X7_way, wl_X7_way, wi_X7, ⟨by decide +kernel, by decide +kernel, by decide +kernel⟩⟩
theorem wk_X7_fits : Cond.code yX7_fits cX7_fits 3 (some .int) ∈ gtbl := gtbl_of (tb4 (List.mem_of_getElem? (i := 231) rfl)) rfl
theorem wn_X7_fits : Cond.instanceMethod yX7_fits ∈ gtbl := gtbl_of (tb4 (List.mem_of_getElem? (i := 229) rfl)) rfl
theorem wl_X7_fits : Cond.selects RX7 yX7_fits yX7_fits ∈ gtbl := gtbl_of (tb4 (List.mem_of_getElem? (i := 230) rfl)) rfl
theorem cv_X7_fits : CalV yX7_fits cX7_fits 3 (some .int) 1 := ⟨wk_X7_fits, wn_X7_fits, wl_X7_fits, wi_X7, ⟨by decide +kernel, by decide +kernel, by decide +kernel⟩⟩
theorem wk_X7_dressers : Cond.code yX7_dressers cX7_dressers 3 (some .int) ∈ gtbl := gtbl_of (tb4 (List.mem_of_getElem? (i := 235) rfl)) rfl
theorem wn_X7_dressers : Cond.instanceMethod yX7_dressers ∈ gtbl := gtbl_of (tb4 (List.mem_of_getElem? (i := 233) rfl)) rfl
theorem wl_X7_dressers : Cond.selects RX7 yX7_dressers yX7_dressers ∈ gtbl := gtbl_of (tb4 (List.mem_of_getElem? (i := 234) rfl)) rfl
theorem cv_X7_dressers : CalV yX7_dressers cX7_dressers 3 (some .int) 0 := ⟨wk_X7_dressers, wn_X7_dressers, wl_X7_dressers, wi_X7, ⟨by decide +kernel, by decide +kernel, by decide +kernel⟩⟩
theorem wk_X7_finds : Cond.code yX7_finds cX7_finds 5 (some .boolean) ∈ gtbl := gtbl_of (tb4 (List.mem_of_getElem? (i := 239) rfl)) rfl
theorem wn_X7_finds : Cond.instanceMethod yX7_finds ∈ gtbl := gtbl_of (tb4 (List.mem_of_getElem? (i := 238) rfl)) rfl
theorem wl_X7_finds : Cond.selects RX7 yX7_finds yX7_finds ∈ gtbl := gtbl_of (tbp (List.mem_of_getElem? (i := 41) rfl)) rfl
theorem cv_X7_finds : CalV yX7_finds cX7_finds 5 (some .boolean) 1 := ⟨wk_X7_finds, wn_X7_finds, wl_X7_finds, wi_X7, ⟨by decide +kernel, by decide +kernel, by decide +kernel⟩⟩
theorem wk_X7_canGo : Cond.code yX7_canGo cX7_canGo 3 (some .boolean) ∈ gtbl := gtbl_of (tb5 (List.mem_of_getElem? (i := 3) rfl)) rfl
theorem wn_X7_canGo : Cond.instanceMethod yX7_canGo ∈ gtbl := gtbl_of (tb5 (List.mem_of_getElem? (i := 2) rfl)) rfl
theorem wl_X7_canGo : Cond.selects RX7 yX7_canGo yX7_canGo ∈ gtbl := gtbl_of (tbp (List.mem_of_getElem? (i := 42) rfl)) rfl
theorem cv_X7_canGo : CalV yX7_canGo cX7_canGo 3 (some .boolean) 2 := ⟨wk_X7_canGo, wn_X7_canGo, wl_X7_canGo, wi_X7, ⟨by decide +kernel, by decide +kernel, by decide +kernel⟩⟩
theorem wk_X7_worn : Cond.code yX7_worn cX7_worn 2 (some .int) ∈ gtbl := gtbl_of (tb5 (List.mem_of_getElem? (i := 7) rfl)) rfl
theorem wn_X7_worn : Cond.instanceMethod yX7_worn ∈ gtbl := gtbl_of (tb5 (List.mem_of_getElem? (i := 5) rfl)) rfl
theorem wl_X7_worn : Cond.selects RX7 yX7_worn yX7_worn ∈ gtbl := gtbl_of (tb5 (List.mem_of_getElem? (i := 6) rfl)) rfl
theorem cv_X7_worn : CalV yX7_worn cX7_worn 2 (some .int) 1 := ⟨wk_X7_worn, wn_X7_worn, wl_X7_worn, wi_X7, ⟨by decide +kernel, by decide +kernel, by decide +kernel⟩⟩
theorem wk_X7_wash : Cond.code yX7_wash cX7_wash 2 (some .int) ∈ gtbl := gtbl_of (tb5 (List.mem_of_getElem? (i := 11) rfl)) rfl
theorem wn_X7_wash : Cond.instanceMethod yX7_wash ∈ gtbl := gtbl_of (tb5 (List.mem_of_getElem? (i := 9) rfl)) rfl
theorem wl_X7_wash : Cond.selects RX7 yX7_wash yX7_wash ∈ gtbl := gtbl_of (tb5 (List.mem_of_getElem? (i := 10) rfl)) rfl
theorem cv_X7_wash : CalV yX7_wash cX7_wash 2 (some .int) 1 := ⟨wk_X7_wash, wn_X7_wash, wl_X7_wash, wi_X7, ⟨by decide +kernel, by decide +kernel, by decide +kernel⟩⟩
theorem wk_X7_washing : Cond.code yX7_washing cX7_washing 3 (some .int) ∈ gtbl := gtbl_of (tb5 (List.mem_of_getElem? (i := 15) rfl)) rfl
theorem wn_X7_washing : Cond.instanceMethod yX7_washing ∈ gtbl := gtbl_of (tb5 (List.mem_of_getElem? (i := 14) rfl)) rfl
theorem wl_X7_washing : Cond.selects RX7 yX7_washing yX7_washing ∈ gtbl := gtbl_of (tbp (List.mem_of_getElem? (i := 43) rfl)) rfl
theorem cv_X7_washing : CalV yX7_washing cX7_washing 3 (some .int) 0 := ⟨wk_X7_washing, wn_X7_washing, wl_X7_washing, wi_X7, ⟨by decide +kernel, by decide +kernel, by decide +kernel⟩⟩
theorem wk_X7_hours : Cond.code yX7_hours cX7_hours 4 (some .int) ∈ gtbl := gtbl_of (tb5 (List.mem_of_getElem? (i := 19) rfl)) rfl
theorem wn_X7_hours : Cond.instanceMethod yX7_hours ∈ gtbl := gtbl_of (tb5 (List.mem_of_getElem? (i := 17) rfl)) rfl
theorem wl_X7_hours : Cond.selects RX7 yX7_hours yX7_hours ∈ gtbl := gtbl_of (tb5 (List.mem_of_getElem? (i := 18) rfl)) rfl
theorem cv_X7_hours : CalV yX7_hours cX7_hours 4 (some .int) 1 := ⟨wk_X7_hours, wn_X7_hours, wl_X7_hours, wi_X7, ⟨by decide +kernel, by decide +kernel, by decide +kernel⟩⟩
theorem wk_X7_tonight : Cond.code yX7_tonight cX7_tonight 10 (some .int) ∈ gtbl := gtbl_of (tb5 (List.mem_of_getElem? (i := 24) rfl)) rfl
theorem wn_X7_tonight : Cond.instanceMethod yX7_tonight ∈ gtbl := gtbl_of (tb5 (List.mem_of_getElem? (i := 22) rfl)) rfl
theorem wl_X7_tonight : Cond.selects RX7 yX7_tonight yX7_tonight ∈ gtbl := gtbl_of (tb5 (List.mem_of_getElem? (i := 23) rfl)) rfl
theorem cv_X7_tonight : CalV yX7_tonight cX7_tonight 10 (some .int) 2 := ⟨wk_X7_tonight, wn_X7_tonight, wl_X7_tonight, wi_X7, ⟨by decide +kernel, by decide +kernel, by decide +kernel⟩⟩
theorem wk_X7_away : Cond.code yX7_away cX7_away 3 (some .int) ∈ gtbl := gtbl_of (tb5 (List.mem_of_getElem? (i := 28) rfl)) rfl
theorem wn_X7_away : Cond.instanceMethod yX7_away ∈ gtbl := gtbl_of (tb5 (List.mem_of_getElem? (i := 27) rfl)) rfl
theorem wl_X7_away : Cond.selects RX7 yX7_away yX7_away ∈ gtbl := gtbl_of (tbp (List.mem_of_getElem? (i := 44) rfl)) rfl
theorem cv_X7_away : CalV yX7_away cX7_away 3 (some .int) 2 := ⟨wk_X7_away, wn_X7_away, wl_X7_away, wi_X7, ⟨by decide +kernel, by decide +kernel, by decide +kernel⟩⟩
theorem wk_X7_isFor : Cond.code yX7_isFor cX7_isFor 4 (some .boolean) ∈ gtbl := gtbl_of (tb5 (List.mem_of_getElem? (i := 32) rfl)) rfl
theorem wn_X7_isFor : Cond.instanceMethod yX7_isFor ∈ gtbl := gtbl_of (tb5 (List.mem_of_getElem? (i := 31) rfl)) rfl
theorem wl_X7_isFor : Cond.selects RX7 yX7_isFor yX7_isFor ∈ gtbl := gtbl_of (tbp (List.mem_of_getElem? (i := 45) rfl)) rfl
theorem cv_X7_isFor : CalV yX7_isFor cX7_isFor 4 (some .boolean) 3 := ⟨wk_X7_isFor, wn_X7_isFor, wl_X7_isFor, wi_X7, ⟨by decide +kernel, by decide +kernel, by decide +kernel⟩⟩
theorem wk_X7_isInLook : Cond.code yX7_isInLook cX7_isInLook 4 (some .boolean) ∈ gtbl := gtbl_of (tb5 (List.mem_of_getElem? (i := 36) rfl)) rfl
theorem wn_X7_isInLook : Cond.instanceMethod yX7_isInLook ∈ gtbl := gtbl_of (tb5 (List.mem_of_getElem? (i := 35) rfl)) rfl
theorem wl_X7_isInLook : Cond.selects RX7 yX7_isInLook yX7_isInLook ∈ gtbl := gtbl_of (tbp (List.mem_of_getElem? (i := 46) rfl)) rfl
theorem cv_X7_isInLook : CalV yX7_isInLook cX7_isInLook 4 (some .boolean) 1 := ⟨wk_X7_isInLook, wn_X7_isInLook, wl_X7_isInLook, wi_X7, ⟨by decide +kernel, by decide +kernel, by decide +kernel⟩⟩
theorem wk_X7_tell_ : Cond.code yX7_tell_ cX7_tell_ 2 (some .int) ∈ gtbl := gtbl_of (tb5 (List.mem_of_getElem? (i := 40) rfl)) rfl
theorem wn_X7_tell_ : Cond.instanceMethod yX7_tell_ ∈ gtbl := gtbl_of (tb5 (List.mem_of_getElem? (i := 38) rfl)) rfl
theorem wl_X7_tell_ : Cond.selects RX7 yX7_tell_ yX7_tell_ ∈ gtbl := gtbl_of (tb5 (List.mem_of_getElem? (i := 39) rfl)) rfl
theorem cv_X7_tell_ : CalV yX7_tell_ cX7_tell_ 2 (some .int) 1 := ⟨wk_X7_tell_, wn_X7_tell_, wl_X7_tell_, wi_X7, ⟨by decide +kernel, by decide +kernel, by decide +kernel⟩⟩
theorem wk_X7_check : Cond.code yX7_check cX7_check 6 (some .int) ∈ gtbl := gtbl_of (tb5 (List.mem_of_getElem? (i := 44) rfl)) rfl
theorem wn_X7_check : Cond.instanceMethod yX7_check ∈ gtbl := gtbl_of (tb5 (List.mem_of_getElem? (i := 42) rfl)) rfl
theorem wl_X7_check : Cond.selects RX7 yX7_check yX7_check ∈ gtbl := gtbl_of (tb5 (List.mem_of_getElem? (i := 43) rfl)) rfl
theorem cv_X7_check : CalV yX7_check cX7_check 6 (some .int) 3 := ⟨wk_X7_check, wn_X7_check, wl_X7_check, wi_X7, ⟨by decide +kernel, by decide +kernel, by decide +kernel⟩⟩
theorem wk_X7_handles : Cond.code yX7_handles cX7_handles 6 (some .boolean) ∈ gtbl := gtbl_of (tb5 (List.mem_of_getElem? (i := 48) rfl)) rfl
theorem wn_X7_handles : Cond.instanceMethod yX7_handles ∈ gtbl := gtbl_of (tb5 (List.mem_of_getElem? (i := 47) rfl)) rfl
theorem wl_X7_handles : Cond.selects RX7 yX7_handles yX7_handles ∈ gtbl := gtbl_of (tbp (List.mem_of_getElem? (i := 47) rfl)) rfl
theorem cv_X7_handles : CalV yX7_handles cX7_handles 6 (some .boolean) 1 := ⟨wk_X7_handles, wn_X7_handles, wl_X7_handles, wi_X7, ⟨by decide +kernel, by decide +kernel, by decide +kernel⟩⟩
theorem wk_X7_bodyPlace : Cond.code yX7_bodyPlace cX7_bodyPlace 4 (some .int) ∈ gtbl := gtbl_of (tb5 (List.mem_of_getElem? (i := 52) rfl)) rfl
theorem wn_X7_bodyPlace : Cond.instanceMethod yX7_bodyPlace ∈ gtbl := gtbl_of (tb5 (List.mem_of_getElem? (i := 51) rfl)) rfl
theorem wl_X7_bodyPlace : Cond.selects RX7 yX7_bodyPlace yX7_bodyPlace ∈ gtbl := gtbl_of (tbp (List.mem_of_getElem? (i := 48) rfl)) rfl
theorem cv_X7_bodyPlace : CalV yX7_bodyPlace cX7_bodyPlace 4 (some .int) 1 := ⟨wk_X7_bodyPlace, wn_X7_bodyPlace, wl_X7_bodyPlace, wi_X7, ⟨by decide +kernel, by decide +kernel, by decide +kernel⟩⟩
theorem wk_X7_isWorn : Cond.code yX7_isWorn cX7_isWorn 7 (some .boolean) ∈ gtbl := gtbl_of (tb5 (List.mem_of_getElem? (i := 56) rfl)) rfl
theorem wn_X7_isWorn : Cond.instanceMethod yX7_isWorn ∈ gtbl := gtbl_of (tb5 (List.mem_of_getElem? (i := 55) rfl)) rfl
theorem wl_X7_isWorn : Cond.selects RX7 yX7_isWorn yX7_isWorn ∈ gtbl := gtbl_of (tbp (List.mem_of_getElem? (i := 49) rfl)) rfl
theorem cv_X7_isWorn : CalV yX7_isWorn cX7_isWorn 7 (some .boolean) 1 := ⟨wk_X7_isWorn, wn_X7_isWorn, wl_X7_isWorn, wi_X7, ⟨by decide +kernel, by decide +kernel, by decide +kernel⟩⟩
theorem wk_X7_count : Cond.code yX7_count cX7_count 2 (some .int) ∈ gtbl := gtbl_of (tb5 (List.mem_of_getElem? (i := 60) rfl)) rfl
theorem wn_X7_count : Cond.instanceMethod yX7_count ∈ gtbl := gtbl_of (tb5 (List.mem_of_getElem? (i := 58) rfl)) rfl
theorem wl_X7_count : Cond.selects RX7 yX7_count yX7_count ∈ gtbl := gtbl_of (tb5 (List.mem_of_getElem? (i := 59) rfl)) rfl
theorem cv_X7_count : CalV yX7_count cX7_count 2 (some .int) 1 := ⟨wk_X7_count, wn_X7_count, wl_X7_count, wi_X7, ⟨by decide +kernel, by decide +kernel, by decide +kernel⟩⟩
theorem wk_X7_found : Cond.code yX7_found cX7_found 2 (some .int) ∈ gtbl := gtbl_of (tb5 (List.mem_of_getElem? (i := 64) rfl)) rfl
theorem wn_X7_found : Cond.instanceMethod yX7_found ∈ gtbl := gtbl_of (tb5 (List.mem_of_getElem? (i := 62) rfl)) rfl
theorem wl_X7_found : Cond.selects RX7 yX7_found yX7_found ∈ gtbl := gtbl_of (tb5 (List.mem_of_getElem? (i := 63) rfl)) rfl
theorem cv_X7_found : CalV yX7_found cX7_found 2 (some .int) 1 := ⟨wk_X7_found, wn_X7_found, wl_X7_found, wi_X7, ⟨by decide +kernel, by decide +kernel, by decide +kernel⟩⟩
theorem wn_obj : Cond.instanceMethod objectInit ∈ gtbl := gtbl_of (tb1 (List.mem_of_getElem? (i := 18) rfl)) rfl
theorem wk_obj : Cond.code objectInit ⟨#[0xb1]⟩ 1 none ∈ gtbl := gtbl_of (tb1 (List.mem_of_getElem? (i := 19) rfl)) rfl
theorem wa_int : Cond.arrayClass .int ∈ gtbl := gtbl_of (tb1 (List.mem_of_getElem? (i := 38) rfl)) rfl
theorem wa_bool : Cond.arrayClass .boolean ∈ gtbl := gtbl_of (tb4 (List.mem_of_getElem? (i := 111) rfl)) rfl
theorem wq_L_7 : Cond.classLink RL 7 RX6 ∈ gtbl := gtbl_of (tb1 (List.mem_of_getElem? (i := 12) rfl)) rfl
theorem wq_X6_7 : Cond.classLink RX6 7 RX5 ∈ gtbl := gtbl_of (tb1 (List.mem_of_getElem? (i := 20) rfl)) rfl
theorem wq_X6_16 : Cond.classLink RX6 16 RX2 ∈ gtbl := gtbl_of (tb1 (List.mem_of_getElem? (i := 39) rfl)) rfl
theorem wq_X6_23 : Cond.classLink RX6 23 RX1 ∈ gtbl := gtbl_of (tb1 (List.mem_of_getElem? (i := 55) rfl)) rfl
theorem wq_X6_32 : Cond.classLink RX6 32 RX4 ∈ gtbl := gtbl_of (tb1 (List.mem_of_getElem? (i := 120) rfl)) rfl
theorem wq_X6_39 : Cond.classLink RX6 39 RX3 ∈ gtbl := gtbl_of (tb1 (List.mem_of_getElem? (i := 146) rfl)) rfl
theorem wq_X6_48 : Cond.classLink RX6 48 RX0 ∈ gtbl := gtbl_of (tb1 (List.mem_of_getElem? (i := 174) rfl)) rfl
theorem wq_L_10 : Cond.classLink RL 10 RX7 ∈ gtbl := gtbl_of (tb3 (List.mem_of_getElem? (i := 233) rfl)) rfl
theorem wt_X6 : Cond.instantiable RX6 10 ∈ gtbl := gtbl_of (tb1 (List.mem_of_getElem? (i := 13) rfl)) rfl
theorem wt_X5 : Cond.instantiable RX5 3 ∈ gtbl := gtbl_of (tb1 (List.mem_of_getElem? (i := 21) rfl)) rfl
theorem wt_X2 : Cond.instantiable RX2 3 ∈ gtbl := gtbl_of (tb1 (List.mem_of_getElem? (i := 40) rfl)) rfl
theorem wt_X1 : Cond.instantiable RX1 18 ∈ gtbl := gtbl_of (tb1 (List.mem_of_getElem? (i := 56) rfl)) rfl
theorem wt_X4 : Cond.instantiable RX4 6 ∈ gtbl := gtbl_of (tb1 (List.mem_of_getElem? (i := 121) rfl)) rfl
theorem wt_X3 : Cond.instantiable RX3 7 ∈ gtbl := gtbl_of (tb1 (List.mem_of_getElem? (i := 147) rfl)) rfl
theorem wt_X0 : Cond.instantiable RX0 3 ∈ gtbl := gtbl_of (tb1 (List.mem_of_getElem? (i := 175) rfl)) rfl
theorem wt_X7 : Cond.instantiable RX7 37 ∈ gtbl := gtbl_of (tb3 (List.mem_of_getElem? (i := 234) rfl)) rfl
def nstF : List (String × Nat × String × String × String × String) := [("WingDesk", 210, "WingDesk$Wardrobe", "count", "I", "WingDesk"), ("WingDesk", 189, "WingDesk$Wardrobe", "hour", "I", "WingDesk"), ("WingDesk", 121, "WingDesk$Change", "off", "I", "WingDesk"), ("WingDesk", 124, "WingDesk$Change", "on", "I", "WingDesk"), ("WingDesk", 143, "WingDesk$Change", "bestBits", "I", "WingDesk"), ("WingDesk", 140, "WingDesk$Change", "bestSeconds", "I", "WingDesk"), ("WingDesk", 153, "WingDesk$Show", "count", "I", "WingDesk")]
def nstM : List (String × Nat × MethodName × String) := [(RX6, 9, yX5_init, "WingDesk"), (RX6, 18, yX2_init, "WingDesk"), (RX6, 34, yX4_init, "WingDesk"), (RX5, 23, yX6_kindIn, "WingDesk"), (RX5, 31, yX6_placeIn, "WingDesk"), (RX5, 34, yX6_thickIn, "WingDesk"), (RX5, 37, yX6_onIn, "WingDesk"), (RX5, 40, yX6_offIn, "WingDesk"), (RX5, 43, yX6_nameIn, "WingDesk"), (RX5, 46, yX6_sizeIn, "WingDesk"), (RX5, 49, yX6_spanIn, "WingDesk"), (RX2, 33, yX6_isWithin, "WingDesk"), (RX1, 97, yX6_hasBit, "WingDesk"), (RX1, 124, yX6_isWithin, "WingDesk"), (RX4, 51, yX6_isWithin, "WingDesk"), (RX4, 41, yX6_beforeIn, "WingDesk"), (RX4, 45, yX6_afterIn, "WingDesk"), (RX3, 72, yX6_isWithin, "WingDesk"), (RX4, 55, yX6_doorIn, "WingDesk")]
def nst : List Cond := nstF.map (fun q => .fieldLinkNest q.1 q.2.1 q.2.2.1 q.2.2.2.1 q.2.2.2.2.1 q.2.2.2.2.2) ++ nstM.map (fun q => .methodLinkNest q.1 q.2.1 q.2.2.1 q.2.2.2)
theorem nst_moves {s U : State} (hW : s.WarmedH U.vm) (h : ∀ w ∈ nst, va_Nw w s) : ∀ w ∈ nst, va_Nw w U := by
  intro w hw
  rcases List.mem_append.mp hw with q | q
  · obtain ⟨x, -, rfl⟩ := List.mem_map.mp q
    exact va_Nw.warmF hW (h _ hw)
  · obtain ⟨x, -, rfl⟩ := List.mem_map.mp q
    exact va_Nw.warmM hW (h _ hw)
theorem nst_same {s U : State} (hv : s.vm = U.vm) (h : ∀ w ∈ nst, va_Nw w s) : ∀ w ∈ nst, va_Nw w U := by
  intro w hw
  rcases List.mem_append.mp hw with q | q
  · obtain ⟨x, -, rfl⟩ := List.mem_map.mp q
    exact va_Nw.same rfl hv (h _ hw)
  · obtain ⟨x, -, rfl⟩ := List.mem_map.mp q
    exact va_Nw.same rfl hv (h _ hw)
theorem nf_X6_210 : Cond.fieldLinkNest RX6 210 "WingDesk$Wardrobe" "count" "I" "WingDesk" ∈ nst := List.mem_append_left _ (List.mem_map.mpr ⟨_, List.mem_of_getElem? (i := 0) rfl, rfl⟩)
theorem nf_X6_189 : Cond.fieldLinkNest RX6 189 "WingDesk$Wardrobe" "hour" "I" "WingDesk" ∈ nst := List.mem_append_left _ (List.mem_map.mpr ⟨_, List.mem_of_getElem? (i := 1) rfl, rfl⟩)
theorem nf_X6_121 : Cond.fieldLinkNest RX6 121 "WingDesk$Change" "off" "I" "WingDesk" ∈ nst := List.mem_append_left _ (List.mem_map.mpr ⟨_, List.mem_of_getElem? (i := 2) rfl, rfl⟩)
theorem nf_X6_124 : Cond.fieldLinkNest RX6 124 "WingDesk$Change" "on" "I" "WingDesk" ∈ nst := List.mem_append_left _ (List.mem_map.mpr ⟨_, List.mem_of_getElem? (i := 3) rfl, rfl⟩)
theorem nf_X6_143 : Cond.fieldLinkNest RX6 143 "WingDesk$Change" "bestBits" "I" "WingDesk" ∈ nst := List.mem_append_left _ (List.mem_map.mpr ⟨_, List.mem_of_getElem? (i := 4) rfl, rfl⟩)
theorem nf_X6_140 : Cond.fieldLinkNest RX6 140 "WingDesk$Change" "bestSeconds" "I" "WingDesk" ∈ nst := List.mem_append_left _ (List.mem_map.mpr ⟨_, List.mem_of_getElem? (i := 5) rfl, rfl⟩)
theorem nf_X6_153 : Cond.fieldLinkNest RX6 153 "WingDesk$Show" "count" "I" "WingDesk" ∈ nst := List.mem_append_left _ (List.mem_map.mpr ⟨_, List.mem_of_getElem? (i := 6) rfl, rfl⟩)
theorem nm_X6_9 : Cond.methodLinkNest RX6 9 yX5_init "WingDesk" ∈ nst := List.mem_append_right _ (List.mem_map.mpr ⟨_, List.mem_of_getElem? (i := 0) rfl, rfl⟩)
theorem nm_X6_18 : Cond.methodLinkNest RX6 18 yX2_init "WingDesk" ∈ nst := List.mem_append_right _ (List.mem_map.mpr ⟨_, List.mem_of_getElem? (i := 1) rfl, rfl⟩)
theorem nm_X6_34 : Cond.methodLinkNest RX6 34 yX4_init "WingDesk" ∈ nst := List.mem_append_right _ (List.mem_map.mpr ⟨_, List.mem_of_getElem? (i := 2) rfl, rfl⟩)
theorem nm_X5_23 : Cond.methodLinkNest RX5 23 yX6_kindIn "WingDesk" ∈ nst := List.mem_append_right _ (List.mem_map.mpr ⟨_, List.mem_of_getElem? (i := 3) rfl, rfl⟩)
theorem nm_X5_31 : Cond.methodLinkNest RX5 31 yX6_placeIn "WingDesk" ∈ nst := List.mem_append_right _ (List.mem_map.mpr ⟨_, List.mem_of_getElem? (i := 4) rfl, rfl⟩)
theorem nm_X5_34 : Cond.methodLinkNest RX5 34 yX6_thickIn "WingDesk" ∈ nst := List.mem_append_right _ (List.mem_map.mpr ⟨_, List.mem_of_getElem? (i := 5) rfl, rfl⟩)
theorem nm_X5_37 : Cond.methodLinkNest RX5 37 yX6_onIn "WingDesk" ∈ nst := List.mem_append_right _ (List.mem_map.mpr ⟨_, List.mem_of_getElem? (i := 6) rfl, rfl⟩)
theorem nm_X5_40 : Cond.methodLinkNest RX5 40 yX6_offIn "WingDesk" ∈ nst := List.mem_append_right _ (List.mem_map.mpr ⟨_, List.mem_of_getElem? (i := 7) rfl, rfl⟩)
theorem nm_X5_43 : Cond.methodLinkNest RX5 43 yX6_nameIn "WingDesk" ∈ nst := List.mem_append_right _ (List.mem_map.mpr ⟨_, List.mem_of_getElem? (i := 8) rfl, rfl⟩)
theorem nm_X5_46 : Cond.methodLinkNest RX5 46 yX6_sizeIn "WingDesk" ∈ nst := List.mem_append_right _ (List.mem_map.mpr ⟨_, List.mem_of_getElem? (i := 9) rfl, rfl⟩)
theorem nm_X5_49 : Cond.methodLinkNest RX5 49 yX6_spanIn "WingDesk" ∈ nst := List.mem_append_right _ (List.mem_map.mpr ⟨_, List.mem_of_getElem? (i := 10) rfl, rfl⟩)
theorem nm_X2_33 : Cond.methodLinkNest RX2 33 yX6_isWithin "WingDesk" ∈ nst := List.mem_append_right _ (List.mem_map.mpr ⟨_, List.mem_of_getElem? (i := 11) rfl, rfl⟩)
theorem nm_X1_97 : Cond.methodLinkNest RX1 97 yX6_hasBit "WingDesk" ∈ nst := List.mem_append_right _ (List.mem_map.mpr ⟨_, List.mem_of_getElem? (i := 12) rfl, rfl⟩)
theorem nm_X1_124 : Cond.methodLinkNest RX1 124 yX6_isWithin "WingDesk" ∈ nst := List.mem_append_right _ (List.mem_map.mpr ⟨_, List.mem_of_getElem? (i := 13) rfl, rfl⟩)
theorem nm_X4_51 : Cond.methodLinkNest RX4 51 yX6_isWithin "WingDesk" ∈ nst := List.mem_append_right _ (List.mem_map.mpr ⟨_, List.mem_of_getElem? (i := 14) rfl, rfl⟩)
theorem nm_X4_41 : Cond.methodLinkNest RX4 41 yX6_beforeIn "WingDesk" ∈ nst := List.mem_append_right _ (List.mem_map.mpr ⟨_, List.mem_of_getElem? (i := 15) rfl, rfl⟩)
theorem nm_X4_45 : Cond.methodLinkNest RX4 45 yX6_afterIn "WingDesk" ∈ nst := List.mem_append_right _ (List.mem_map.mpr ⟨_, List.mem_of_getElem? (i := 16) rfl, rfl⟩)
theorem nm_X3_72 : Cond.methodLinkNest RX3 72 yX6_isWithin "WingDesk" ∈ nst := List.mem_append_right _ (List.mem_map.mpr ⟨_, List.mem_of_getElem? (i := 17) rfl, rfl⟩)
theorem nm_X4_55 : Cond.methodLinkNest RX4 55 yX6_doorIn "WingDesk" ∈ nst := List.mem_append_right _ (List.mem_map.mpr ⟨_, List.mem_of_getElem? (i := 18) rfl, rfl⟩)
theorem wy_X0_0 : u_lay RX0 TX0 0 ∈ gtbl := gtbl_of (tb1 (List.mem_of_getElem? (i := 183) rfl)) rfl
theorem wy_X0_1 : u_lay RX0 TX0 1 ∈ gtbl := gtbl_of (tb1 (List.mem_of_getElem? (i := 185) rfl)) rfl
theorem wy_X0_2 : u_lay RX0 TX0 2 ∈ gtbl := gtbl_of (tb1 (List.mem_of_getElem? (i := 187) rfl)) rfl
theorem wa_X0 : ∀ w ∈ u_ws RX0 TX0 3, w ∈ gtbl := by
  intro w hw
  obtain ⟨k, hk, rfl⟩ := List.mem_map.mp hw
  have hk : k < 3 := List.mem_range.mp hk
  match k, hk with
  | 0, _ => exact wy_X0_0
  | 1, _ => exact wy_X0_1
  | 2, _ => exact wy_X0_2
  | k + 3, hk => omega
theorem wy_X1_0 : u_lay RX1 TX1 0 ∈ gtbl := gtbl_of (tb1 (List.mem_of_getElem? (i := 83) rfl)) rfl
theorem wy_X1_1 : u_lay RX1 TX1 1 ∈ gtbl := gtbl_of (tb1 (List.mem_of_getElem? (i := 85) rfl)) rfl
theorem wy_X1_2 : u_lay RX1 TX1 2 ∈ gtbl := gtbl_of (tb1 (List.mem_of_getElem? (i := 87) rfl)) rfl
theorem wy_X1_3 : u_lay RX1 TX1 3 ∈ gtbl := gtbl_of (tb1 (List.mem_of_getElem? (i := 89) rfl)) rfl
theorem wy_X1_4 : u_lay RX1 TX1 4 ∈ gtbl := gtbl_of (tb1 (List.mem_of_getElem? (i := 91) rfl)) rfl
theorem wy_X1_5 : u_lay RX1 TX1 5 ∈ gtbl := gtbl_of (tb1 (List.mem_of_getElem? (i := 93) rfl)) rfl
theorem wy_X1_6 : u_lay RX1 TX1 6 ∈ gtbl := gtbl_of (tb1 (List.mem_of_getElem? (i := 95) rfl)) rfl
theorem wy_X1_7 : u_lay RX1 TX1 7 ∈ gtbl := gtbl_of (tb1 (List.mem_of_getElem? (i := 97) rfl)) rfl
theorem wy_X1_8 : u_lay RX1 TX1 8 ∈ gtbl := gtbl_of (tb1 (List.mem_of_getElem? (i := 99) rfl)) rfl
theorem wy_X1_9 : u_lay RX1 TX1 9 ∈ gtbl := gtbl_of (tb1 (List.mem_of_getElem? (i := 101) rfl)) rfl
theorem wy_X1_10 : u_lay RX1 TX1 10 ∈ gtbl := gtbl_of (tb1 (List.mem_of_getElem? (i := 103) rfl)) rfl
theorem wy_X1_11 : u_lay RX1 TX1 11 ∈ gtbl := gtbl_of (tb1 (List.mem_of_getElem? (i := 105) rfl)) rfl
theorem wy_X1_12 : u_lay RX1 TX1 12 ∈ gtbl := gtbl_of (tb1 (List.mem_of_getElem? (i := 107) rfl)) rfl
theorem wy_X1_13 : u_lay RX1 TX1 13 ∈ gtbl := gtbl_of (tb1 (List.mem_of_getElem? (i := 109) rfl)) rfl
theorem wy_X1_14 : u_lay RX1 TX1 14 ∈ gtbl := gtbl_of (tb1 (List.mem_of_getElem? (i := 111) rfl)) rfl
theorem wy_X1_15 : u_lay RX1 TX1 15 ∈ gtbl := gtbl_of (tb1 (List.mem_of_getElem? (i := 113) rfl)) rfl
theorem wy_X1_16 : u_lay RX1 TX1 16 ∈ gtbl := gtbl_of (tb1 (List.mem_of_getElem? (i := 115) rfl)) rfl
theorem wy_X1_17 : u_lay RX1 TX1 17 ∈ gtbl := gtbl_of (tb1 (List.mem_of_getElem? (i := 117) rfl)) rfl
theorem wa_X1 : ∀ w ∈ u_ws RX1 TX1 18, w ∈ gtbl := by
  intro w hw
  obtain ⟨k, hk, rfl⟩ := List.mem_map.mp hw
  have hk : k < 18 := List.mem_range.mp hk
  match k, hk with
  | 0, _ => exact wy_X1_0
  | 1, _ => exact wy_X1_1
  | 2, _ => exact wy_X1_2
  | 3, _ => exact wy_X1_3
  | 4, _ => exact wy_X1_4
  | 5, _ => exact wy_X1_5
  | 6, _ => exact wy_X1_6
  | 7, _ => exact wy_X1_7
  | 8, _ => exact wy_X1_8
  | 9, _ => exact wy_X1_9
  | 10, _ => exact wy_X1_10
  | 11, _ => exact wy_X1_11
  | 12, _ => exact wy_X1_12
  | 13, _ => exact wy_X1_13
  | 14, _ => exact wy_X1_14
  | 15, _ => exact wy_X1_15
  | 16, _ => exact wy_X1_16
  | 17, _ => exact wy_X1_17
  | k + 18, hk => omega
theorem wy_X2_0 : u_lay RX2 TX2 0 ∈ gtbl := gtbl_of (tb1 (List.mem_of_getElem? (i := 48) rfl)) rfl
theorem wy_X2_1 : u_lay RX2 TX2 1 ∈ gtbl := gtbl_of (tb1 (List.mem_of_getElem? (i := 50) rfl)) rfl
theorem wy_X2_2 : u_lay RX2 TX2 2 ∈ gtbl := gtbl_of (tb1 (List.mem_of_getElem? (i := 52) rfl)) rfl
theorem wa_X2 : ∀ w ∈ u_ws RX2 TX2 3, w ∈ gtbl := by
  intro w hw
  obtain ⟨k, hk, rfl⟩ := List.mem_map.mp hw
  have hk : k < 3 := List.mem_range.mp hk
  match k, hk with
  | 0, _ => exact wy_X2_0
  | 1, _ => exact wy_X2_1
  | 2, _ => exact wy_X2_2
  | k + 3, hk => omega
theorem wy_X3_0 : u_lay RX3 TX3 0 ∈ gtbl := gtbl_of (tb1 (List.mem_of_getElem? (i := 159) rfl)) rfl
theorem wy_X3_1 : u_lay RX3 TX3 1 ∈ gtbl := gtbl_of (tb1 (List.mem_of_getElem? (i := 161) rfl)) rfl
theorem wy_X3_2 : u_lay RX3 TX3 2 ∈ gtbl := gtbl_of (tb1 (List.mem_of_getElem? (i := 163) rfl)) rfl
theorem wy_X3_3 : u_lay RX3 TX3 3 ∈ gtbl := gtbl_of (tb1 (List.mem_of_getElem? (i := 165) rfl)) rfl
theorem wy_X3_4 : u_lay RX3 TX3 4 ∈ gtbl := gtbl_of (tb1 (List.mem_of_getElem? (i := 167) rfl)) rfl
theorem wy_X3_5 : u_lay RX3 TX3 5 ∈ gtbl := gtbl_of (tb1 (List.mem_of_getElem? (i := 169) rfl)) rfl
theorem wy_X3_6 : u_lay RX3 TX3 6 ∈ gtbl := gtbl_of (tb1 (List.mem_of_getElem? (i := 171) rfl)) rfl
theorem wa_X3 : ∀ w ∈ u_ws RX3 TX3 7, w ∈ gtbl := by
  intro w hw
  obtain ⟨k, hk, rfl⟩ := List.mem_map.mp hw
  have hk : k < 7 := List.mem_range.mp hk
  match k, hk with
  | 0, _ => exact wy_X3_0
  | 1, _ => exact wy_X3_1
  | 2, _ => exact wy_X3_2
  | 3, _ => exact wy_X3_3
  | 4, _ => exact wy_X3_4
  | 5, _ => exact wy_X3_5
  | 6, _ => exact wy_X3_6
  | k + 7, hk => omega
theorem wy_X4_0 : u_lay RX4 TX4 0 ∈ gtbl := gtbl_of (tb1 (List.mem_of_getElem? (i := 133) rfl)) rfl
theorem wy_X4_1 : u_lay RX4 TX4 1 ∈ gtbl := gtbl_of (tb1 (List.mem_of_getElem? (i := 135) rfl)) rfl
theorem wy_X4_2 : u_lay RX4 TX4 2 ∈ gtbl := gtbl_of (tb1 (List.mem_of_getElem? (i := 137) rfl)) rfl
theorem wy_X4_3 : u_lay RX4 TX4 3 ∈ gtbl := gtbl_of (tb1 (List.mem_of_getElem? (i := 139) rfl)) rfl
theorem wy_X4_4 : u_lay RX4 TX4 4 ∈ gtbl := gtbl_of (tb1 (List.mem_of_getElem? (i := 141) rfl)) rfl
theorem wy_X4_5 : u_lay RX4 TX4 5 ∈ gtbl := gtbl_of (tb1 (List.mem_of_getElem? (i := 143) rfl)) rfl
theorem wa_X4 : ∀ w ∈ u_ws RX4 TX4 6, w ∈ gtbl := by
  intro w hw
  obtain ⟨k, hk, rfl⟩ := List.mem_map.mp hw
  have hk : k < 6 := List.mem_range.mp hk
  match k, hk with
  | 0, _ => exact wy_X4_0
  | 1, _ => exact wy_X4_1
  | 2, _ => exact wy_X4_2
  | 3, _ => exact wy_X4_3
  | 4, _ => exact wy_X4_4
  | 5, _ => exact wy_X4_5
  | k + 6, hk => omega
theorem wy_X5_0 : u_lay RX5 TX5 0 ∈ gtbl := gtbl_of (tb1 (List.mem_of_getElem? (i := 31) rfl)) rfl
theorem wy_X5_1 : u_lay RX5 TX5 1 ∈ gtbl := gtbl_of (tb1 (List.mem_of_getElem? (i := 33) rfl)) rfl
theorem wy_X5_2 : u_lay RX5 TX5 2 ∈ gtbl := gtbl_of (tb1 (List.mem_of_getElem? (i := 35) rfl)) rfl
theorem wa_X5 : ∀ w ∈ u_ws RX5 TX5 3, w ∈ gtbl := by
  intro w hw
  obtain ⟨k, hk, rfl⟩ := List.mem_map.mp hw
  have hk : k < 3 := List.mem_range.mp hk
  match k, hk with
  | 0, _ => exact wy_X5_0
  | 1, _ => exact wy_X5_1
  | 2, _ => exact wy_X5_2
  | k + 3, hk => omega
theorem wy_X6_0 : u_lay RX6 TX6 0 ∈ gtbl := gtbl_of (tb1 (List.mem_of_getElem? (i := 200) rfl)) rfl
theorem wy_X6_1 : u_lay RX6 TX6 1 ∈ gtbl := gtbl_of (tb1 (List.mem_of_getElem? (i := 202) rfl)) rfl
theorem wy_X6_2 : u_lay RX6 TX6 2 ∈ gtbl := gtbl_of (tb1 (List.mem_of_getElem? (i := 204) rfl)) rfl
theorem wy_X6_3 : u_lay RX6 TX6 3 ∈ gtbl := gtbl_of (tb1 (List.mem_of_getElem? (i := 206) rfl)) rfl
theorem wy_X6_4 : u_lay RX6 TX6 4 ∈ gtbl := gtbl_of (tb1 (List.mem_of_getElem? (i := 208) rfl)) rfl
theorem wy_X6_5 : u_lay RX6 TX6 5 ∈ gtbl := gtbl_of (tb1 (List.mem_of_getElem? (i := 210) rfl)) rfl
theorem wy_X6_6 : u_lay RX6 TX6 6 ∈ gtbl := gtbl_of (tb1 (List.mem_of_getElem? (i := 212) rfl)) rfl
theorem wy_X6_7 : u_lay RX6 TX6 7 ∈ gtbl := gtbl_of (tb1 (List.mem_of_getElem? (i := 214) rfl)) rfl
theorem wy_X6_8 : u_lay RX6 TX6 8 ∈ gtbl := gtbl_of (tb1 (List.mem_of_getElem? (i := 216) rfl)) rfl
theorem wy_X6_9 : u_lay RX6 TX6 9 ∈ gtbl := gtbl_of (tb1 (List.mem_of_getElem? (i := 218) rfl)) rfl
theorem wa_X6 : ∀ w ∈ u_ws RX6 TX6 10, w ∈ gtbl := by
  intro w hw
  obtain ⟨k, hk, rfl⟩ := List.mem_map.mp hw
  have hk : k < 10 := List.mem_range.mp hk
  match k, hk with
  | 0, _ => exact wy_X6_0
  | 1, _ => exact wy_X6_1
  | 2, _ => exact wy_X6_2
  | 3, _ => exact wy_X6_3
  | 4, _ => exact wy_X6_4
  | 5, _ => exact wy_X6_5
  | 6, _ => exact wy_X6_6
  | 7, _ => exact wy_X6_7
  | 8, _ => exact wy_X6_8
  | 9, _ => exact wy_X6_9
  | k + 10, hk => omega
theorem wy_X7_0 : u_lay RX7 TX7 0 ∈ gtbl := gtbl_of (tb4 (List.mem_of_getElem? (i := 36) rfl)) rfl
theorem wy_X7_1 : u_lay RX7 TX7 1 ∈ gtbl := gtbl_of (tb4 (List.mem_of_getElem? (i := 38) rfl)) rfl
theorem wy_X7_2 : u_lay RX7 TX7 2 ∈ gtbl := gtbl_of (tb4 (List.mem_of_getElem? (i := 40) rfl)) rfl
theorem wy_X7_3 : u_lay RX7 TX7 3 ∈ gtbl := gtbl_of (tb4 (List.mem_of_getElem? (i := 42) rfl)) rfl
theorem wy_X7_4 : u_lay RX7 TX7 4 ∈ gtbl := gtbl_of (tb4 (List.mem_of_getElem? (i := 44) rfl)) rfl
theorem wy_X7_5 : u_lay RX7 TX7 5 ∈ gtbl := gtbl_of (tb4 (List.mem_of_getElem? (i := 46) rfl)) rfl
theorem wy_X7_6 : u_lay RX7 TX7 6 ∈ gtbl := gtbl_of (tb4 (List.mem_of_getElem? (i := 48) rfl)) rfl
theorem wy_X7_7 : u_lay RX7 TX7 7 ∈ gtbl := gtbl_of (tb4 (List.mem_of_getElem? (i := 50) rfl)) rfl
theorem wy_X7_8 : u_lay RX7 TX7 8 ∈ gtbl := gtbl_of (tb4 (List.mem_of_getElem? (i := 52) rfl)) rfl
theorem wy_X7_9 : u_lay RX7 TX7 9 ∈ gtbl := gtbl_of (tb4 (List.mem_of_getElem? (i := 54) rfl)) rfl
theorem wy_X7_10 : u_lay RX7 TX7 10 ∈ gtbl := gtbl_of (tb4 (List.mem_of_getElem? (i := 56) rfl)) rfl
theorem wy_X7_11 : u_lay RX7 TX7 11 ∈ gtbl := gtbl_of (tb4 (List.mem_of_getElem? (i := 58) rfl)) rfl
theorem wy_X7_12 : u_lay RX7 TX7 12 ∈ gtbl := gtbl_of (tb4 (List.mem_of_getElem? (i := 60) rfl)) rfl
theorem wy_X7_13 : u_lay RX7 TX7 13 ∈ gtbl := gtbl_of (tb4 (List.mem_of_getElem? (i := 62) rfl)) rfl
theorem wy_X7_14 : u_lay RX7 TX7 14 ∈ gtbl := gtbl_of (tb4 (List.mem_of_getElem? (i := 64) rfl)) rfl
theorem wy_X7_15 : u_lay RX7 TX7 15 ∈ gtbl := gtbl_of (tb4 (List.mem_of_getElem? (i := 66) rfl)) rfl
theorem wy_X7_16 : u_lay RX7 TX7 16 ∈ gtbl := gtbl_of (tb4 (List.mem_of_getElem? (i := 68) rfl)) rfl
theorem wy_X7_17 : u_lay RX7 TX7 17 ∈ gtbl := gtbl_of (tb4 (List.mem_of_getElem? (i := 70) rfl)) rfl
theorem wy_X7_18 : u_lay RX7 TX7 18 ∈ gtbl := gtbl_of (tb4 (List.mem_of_getElem? (i := 72) rfl)) rfl
theorem wy_X7_19 : u_lay RX7 TX7 19 ∈ gtbl := gtbl_of (tb4 (List.mem_of_getElem? (i := 74) rfl)) rfl
theorem wy_X7_20 : u_lay RX7 TX7 20 ∈ gtbl := gtbl_of (tb4 (List.mem_of_getElem? (i := 76) rfl)) rfl
theorem wy_X7_21 : u_lay RX7 TX7 21 ∈ gtbl := gtbl_of (tb4 (List.mem_of_getElem? (i := 78) rfl)) rfl
theorem wy_X7_22 : u_lay RX7 TX7 22 ∈ gtbl := gtbl_of (tb4 (List.mem_of_getElem? (i := 80) rfl)) rfl
theorem wy_X7_23 : u_lay RX7 TX7 23 ∈ gtbl := gtbl_of (tb4 (List.mem_of_getElem? (i := 82) rfl)) rfl
theorem wy_X7_24 : u_lay RX7 TX7 24 ∈ gtbl := gtbl_of (tb4 (List.mem_of_getElem? (i := 84) rfl)) rfl
theorem wy_X7_25 : u_lay RX7 TX7 25 ∈ gtbl := gtbl_of (tb4 (List.mem_of_getElem? (i := 86) rfl)) rfl
theorem wy_X7_26 : u_lay RX7 TX7 26 ∈ gtbl := gtbl_of (tb4 (List.mem_of_getElem? (i := 88) rfl)) rfl
theorem wy_X7_27 : u_lay RX7 TX7 27 ∈ gtbl := gtbl_of (tb4 (List.mem_of_getElem? (i := 90) rfl)) rfl
theorem wy_X7_28 : u_lay RX7 TX7 28 ∈ gtbl := gtbl_of (tb4 (List.mem_of_getElem? (i := 92) rfl)) rfl
theorem wy_X7_29 : u_lay RX7 TX7 29 ∈ gtbl := gtbl_of (tb4 (List.mem_of_getElem? (i := 94) rfl)) rfl
theorem wy_X7_30 : u_lay RX7 TX7 30 ∈ gtbl := gtbl_of (tb4 (List.mem_of_getElem? (i := 96) rfl)) rfl
theorem wy_X7_31 : u_lay RX7 TX7 31 ∈ gtbl := gtbl_of (tb4 (List.mem_of_getElem? (i := 98) rfl)) rfl
theorem wy_X7_32 : u_lay RX7 TX7 32 ∈ gtbl := gtbl_of (tb4 (List.mem_of_getElem? (i := 100) rfl)) rfl
theorem wy_X7_33 : u_lay RX7 TX7 33 ∈ gtbl := gtbl_of (tb4 (List.mem_of_getElem? (i := 102) rfl)) rfl
theorem wy_X7_34 : u_lay RX7 TX7 34 ∈ gtbl := gtbl_of (tb4 (List.mem_of_getElem? (i := 104) rfl)) rfl
theorem wy_X7_35 : u_lay RX7 TX7 35 ∈ gtbl := gtbl_of (tb4 (List.mem_of_getElem? (i := 106) rfl)) rfl
theorem wy_X7_36 : u_lay RX7 TX7 36 ∈ gtbl := gtbl_of (tb4 (List.mem_of_getElem? (i := 108) rfl)) rfl
theorem wa_X7 : ∀ w ∈ u_ws RX7 TX7 37, w ∈ gtbl := by
  intro w hw
  obtain ⟨k, hk, rfl⟩ := List.mem_map.mp hw
  have hk : k < 37 := List.mem_range.mp hk
  match k, hk with
  | 0, _ => exact wy_X7_0
  | 1, _ => exact wy_X7_1
  | 2, _ => exact wy_X7_2
  | 3, _ => exact wy_X7_3
  | 4, _ => exact wy_X7_4
  | 5, _ => exact wy_X7_5
  | 6, _ => exact wy_X7_6
  | 7, _ => exact wy_X7_7
  | 8, _ => exact wy_X7_8
  | 9, _ => exact wy_X7_9
  | 10, _ => exact wy_X7_10
  | 11, _ => exact wy_X7_11
  | 12, _ => exact wy_X7_12
  | 13, _ => exact wy_X7_13
  | 14, _ => exact wy_X7_14
  | 15, _ => exact wy_X7_15
  | 16, _ => exact wy_X7_16
  | 17, _ => exact wy_X7_17
  | 18, _ => exact wy_X7_18
  | 19, _ => exact wy_X7_19
  | 20, _ => exact wy_X7_20
  | 21, _ => exact wy_X7_21
  | 22, _ => exact wy_X7_22
  | 23, _ => exact wy_X7_23
  | 24, _ => exact wy_X7_24
  | 25, _ => exact wy_X7_25
  | 26, _ => exact wy_X7_26
  | 27, _ => exact wy_X7_27
  | 28, _ => exact wy_X7_28
  | 29, _ => exact wy_X7_29
  | 30, _ => exact wy_X7_30
  | 31, _ => exact wy_X7_31
  | 32, _ => exact wy_X7_32
  | 33, _ => exact wy_X7_33
  | 34, _ => exact wy_X7_34
  | 35, _ => exact wy_X7_35
  | 36, _ => exact wy_X7_36
  | k + 37, hk => omega
theorem okC : ∀ (ci : Nat) (q : vw_C), vwCl[ci]? = some q → ∀ w ∈ u_ws q.1 q.2.1 q.2.2, w ∈ gtbl := by
  intro ci q h
  match ci, h with
  | 0, h => cases h; exact wa_X0
  | 1, h => cases h; exact wa_X1
  | 2, h => cases h; exact wa_X2
  | 3, h => cases h; exact wa_X3
  | 4, h => cases h; exact wa_X4
  | 5, h => cases h; exact wa_X5
  | 6, h => cases h; exact wa_X6
  | 7, h => cases h; exact wa_X7
  | ci + 8, h => simp [vwCl] at h
theorem okT : ∀ (ci : Nat) (q : vw_C), vwCl[ci]? = some q → ∃ ty0 : Nat → FieldType, (∀ k, k < q.2.2 → parseFieldDescriptor (q.2.1 k).2.2.1 = some (ty0 k)) ∧ (∀ a, a < q.2.2 → ∀ b, b < q.2.2 → a ≠ b → (q.2.1 a).2.1 ≠ (q.2.1 b).2.1) := by
  intro ci q h
  match ci, h with
  | 0, h => cases h; exact ⟨tyX0, tyX0_ok, nmX0⟩
  | 1, h => cases h; exact ⟨tyX1, tyX1_ok, nmX1⟩
  | 2, h => cases h; exact ⟨tyX2, tyX2_ok, nmX2⟩
  | 3, h => cases h; exact ⟨tyX3, tyX3_ok, nmX3⟩
  | 4, h => cases h; exact ⟨tyX4, tyX4_ok, nmX4⟩
  | 5, h => cases h; exact ⟨tyX5, tyX5_ok, nmX5⟩
  | 6, h => cases h; exact ⟨tyX6, tyX6_ok, nmX6⟩
  | 7, h => cases h; exact ⟨tyX7, tyX7_ok, nmX7⟩
  | ci + 8, h => simp [vwCl] at h
