-- words of the tables, one by one
theorem bg {x : Cond} (h : x ∈ lw_tbl) (hg : goodWord x = true) : x ∈ big := List.mem_filter.mpr ⟨h, hg⟩
theorem kS0 {x : Cond} (h : x ∈ k2_sels lw_privs) : x ∈ lw_tbl := List.mem_append_left _ h
theorem kT0 {x : Cond} (h : x ∈ tables_1) : x ∈ lw_tbl := List.mem_append_right _ h
theorem kT1 {x : Cond} (h : x ∈ tables_1_1) : x ∈ lw_tbl := kT0 (List.mem_append_left _ h)
theorem kT2 {x : Cond} (h : x ∈ tables_1_2) : x ∈ lw_tbl := kT0 (List.mem_append_right _ (List.mem_append_left _ h))
theorem kT3 {x : Cond} (h : x ∈ tables_1_3) : x ∈ lw_tbl := kT0 (List.mem_append_right _ (List.mem_append_right _ (List.mem_append_left _ h)))
theorem kT4 {x : Cond} (h : x ∈ tables_1_4) : x ∈ lw_tbl := kT0 (List.mem_append_right _ (List.mem_append_right _ (List.mem_append_right _ (List.mem_append_left _ h))))
theorem kT5 {x : Cond} (h : x ∈ tables_1_5) : x ∈ lw_tbl := kT0 (List.mem_append_right _ (List.mem_append_right _ (List.mem_append_right _ (List.mem_append_right _ h))))
theorem ki_L : Cond.initialized RL ∈ big := bg (kT1 (List.mem_of_getElem? (i := 0) rfl)) rfl
theorem ki_X6 : Cond.initialized RX6 ∈ big := bg (kT1 (List.mem_of_getElem? (i := 1) rfl)) rfl
theorem ki_X0 : Cond.initialized RX0 ∈ big := bg (kT1 (List.mem_of_getElem? (i := 2) rfl)) rfl
theorem ki_J9 : Cond.initialized RJ9 ∈ big := bg (kT1 (List.mem_of_getElem? (i := 3) rfl)) rfl
theorem ki_J7 : Cond.initialized RJ7 ∈ big := bg (kT1 (List.mem_of_getElem? (i := 4) rfl)) rfl
theorem ki_X1 : Cond.initialized RX1 ∈ big := bg (kT1 (List.mem_of_getElem? (i := 5) rfl)) rfl
theorem ki_X2 : Cond.initialized RX2 ∈ big := bg (kT1 (List.mem_of_getElem? (i := 6) rfl)) rfl
theorem ki_X3 : Cond.initialized RX3 ∈ big := bg (kT1 (List.mem_of_getElem? (i := 7) rfl)) rfl
theorem ki_X5 : Cond.initialized RX5 ∈ big := bg (kT1 (List.mem_of_getElem? (i := 8) rfl)) rfl
theorem ki_X4 : Cond.initialized RX4 ∈ big := bg (kT1 (List.mem_of_getElem? (i := 9) rfl)) rfl
theorem ki_X7 : Cond.initialized RX7 ∈ big := bg (kT1 (List.mem_of_getElem? (i := 10) rfl)) rfl
theorem ki_J0 : Cond.initialized RJ0 ∈ big := bg (kT1 (List.mem_of_getElem? (i := 11) rfl)) rfl
theorem ki_J1 : Cond.initialized RJ1 ∈ big := bg (kT1 (List.mem_of_getElem? (i := 12) rfl)) rfl
theorem ki_J3 : Cond.initialized RJ3 ∈ big := bg (kT1 (List.mem_of_getElem? (i := 13) rfl)) rfl
theorem ki_J2 : Cond.initialized RJ2 ∈ big := bg (kT1 (List.mem_of_getElem? (i := 14) rfl)) rfl
theorem kq_L_7 : Cond.classLink RL 7 RX6 ∈ big := bg (kT1 (List.mem_of_getElem? (i := 15) rfl)) rfl
theorem kn_X6 : Cond.instantiable RX6 6 ∈ big := bg (kT1 (List.mem_of_getElem? (i := 16) rfl)) rfl
theorem km_L_15 : Cond.methodLink RL 15 yX6_init ∈ big := bg (kT1 (List.mem_of_getElem? (i := 17) rfl)) rfl
theorem kI_X6_init : Cond.instanceMethod yX6_init ∈ big := bg (kT1 (List.mem_of_getElem? (i := 18) rfl)) rfl
theorem kC_X6_init : Cond.code yX6_init cX6_init 2 none ∈ big := bg (kT1 (List.mem_of_getElem? (i := 19) rfl)) rfl
theorem km_X6_1 : Cond.methodLink RX6 1 objectInit ∈ big := bg (kT1 (List.mem_of_getElem? (i := 20) rfl)) rfl
theorem kI_Object_init : Cond.instanceMethod objectInit ∈ big := bg (kT1 (List.mem_of_getElem? (i := 21) rfl)) rfl
theorem kC_Object_init : Cond.code objectInit ⟨#[0xb1]⟩ 1 none ∈ big := bg (kT1 (List.mem_of_getElem? (i := 22) rfl)) rfl
theorem kq_X6_7 : Cond.classLink RX6 7 RX0 ∈ big := bg (kT1 (List.mem_of_getElem? (i := 23) rfl)) rfl
theorem kn_X0 : Cond.instantiable RX0 12 ∈ big := bg (kT1 (List.mem_of_getElem? (i := 24) rfl)) rfl
theorem km_X6_11 : Cond.methodLink RX6 11 Lib.Math.min.name ∈ big := bg (kT1 (List.mem_of_getElem? (i := 25) rfl)) rfl
theorem kt_J9_min_7cf53 : Cond.static Lib.Math.min.name ∈ big := bg (kT1 (List.mem_of_getElem? (i := 26) rfl)) rfl
theorem kC_J9_min_7cf53 : Cond.code Lib.Math.min.name Lib.Math.min.code 2 (some .int) ∈ big := bg (kT1 (List.mem_of_getElem? (i := 27) rfl)) rfl
theorem km_X6_17 : Cond.methodLink RX6 17 Lib.Math.max.name ∈ big := bg (kT1 (List.mem_of_getElem? (i := 28) rfl)) rfl
theorem kt_J9_max_7cf53 : Cond.static Lib.Math.max.name ∈ big := bg (kT1 (List.mem_of_getElem? (i := 29) rfl)) rfl
theorem kC_J9_max_7cf53 : Cond.code Lib.Math.max.name Lib.Math.max.code 2 (some .int) ∈ big := bg (kT1 (List.mem_of_getElem? (i := 30) rfl)) rfl
theorem km_X6_20 : Cond.methodLink RX6 20 yX0_init ∈ big := bg (kT1 (List.mem_of_getElem? (i := 31) rfl)) rfl
theorem kI_X0_init : Cond.instanceMethod yX0_init ∈ big := bg (kT1 (List.mem_of_getElem? (i := 32) rfl)) rfl
theorem kC_X0_init : Cond.code yX0_init cX0_init 2 none ∈ big := bg (kT1 (List.mem_of_getElem? (i := 33) rfl)) rfl
theorem km_X0_3 : Cond.methodLink RX0 3 objectInit ∈ big := bg (kT1 (List.mem_of_getElem? (i := 34) rfl)) rfl
theorem km_X0_37 : Cond.methodLink RX0 37 yJ7_fill_53178 ∈ big := bg (kT1 (List.mem_of_getElem? (i := 35) rfl)) rfl
theorem kt_J7_fill_53178 : Cond.static yJ7_fill_53178 ∈ big := bg (kT1 (List.mem_of_getElem? (i := 36) rfl)) rfl
theorem kC_J7_fill_53178 : Cond.code yJ7_fill_53178 cJ7_fill_53178 4 none ∈ big := bg (kT1 (List.mem_of_getElem? (i := 37) rfl)) rfl
theorem kf_X0_24 : Cond.fieldLink RX0 24 "BoatBridge$Deck" "hulls" "I" ∈ big := bg (kT1 (List.mem_of_getElem? (i := 38) rfl)) rfl
theorem kf_X0_28 : Cond.fieldLink RX0 28 "BoatBridge$Deck" "bears" "[I" ∈ big := bg (kT1 (List.mem_of_getElem? (i := 39) rfl)) rfl
theorem kf_X0_31 : Cond.fieldLink RX0 31 "BoatBridge$Deck" "anchors" "[I" ∈ big := bg (kT1 (List.mem_of_getElem? (i := 40) rfl)) rfl
theorem kf_X0_34 : Cond.fieldLink RX0 34 "BoatBridge$Deck" "loads" "[I" ∈ big := bg (kT1 (List.mem_of_getElem? (i := 41) rfl)) rfl
theorem kf_X0_9 : Cond.fieldLink RX0 9 "BoatBridge$Deck" "pulls" "[I" ∈ big := bg (kT1 (List.mem_of_getElem? (i := 42) rfl)) rfl
theorem kf_X0_15 : Cond.fieldLink RX0 15 "BoatBridge$Deck" "weights" "[I" ∈ big := bg (kT1 (List.mem_of_getElem? (i := 43) rfl)) rfl
theorem kf_X0_18 : Cond.fieldLink RX0 18 "BoatBridge$Deck" "behindFirst" "[I" ∈ big := bg (kT1 (List.mem_of_getElem? (i := 44) rfl)) rfl
theorem kf_X0_21 : Cond.fieldLink RX0 21 "BoatBridge$Deck" "evenBehind" "[I" ∈ big := bg (kT1 (List.mem_of_getElem? (i := 45) rfl)) rfl
theorem kf_X0_43 : Cond.fieldLink RX0 43 "BoatBridge$Deck" "carts" "I" ∈ big := bg (kT1 (List.mem_of_getElem? (i := 46) rfl)) rfl
theorem kf_X0_58 : Cond.fieldLink RX0 58 "BoatBridge$Deck" "foundMargin" "I" ∈ big := bg (kT1 (List.mem_of_getElem? (i := 47) rfl)) rfl
theorem kf_X0_61 : Cond.fieldLink RX0 61 "BoatBridge$Deck" "foundHull" "I" ∈ big := bg (kT1 (List.mem_of_getElem? (i := 48) rfl)) rfl
theorem kf_X0_64 : Cond.fieldLink RX0 64 "BoatBridge$Deck" "foundStep" "I" ∈ big := bg (kT1 (List.mem_of_getElem? (i := 49) rfl)) rfl
theorem ka_int : Cond.arrayClass .int ∈ big := bg (kT1 (List.mem_of_getElem? (i := 75) rfl)) rfl
theorem kq_X6_27 : Cond.classLink RX6 27 RX1 ∈ big := bg (kT1 (List.mem_of_getElem? (i := 76) rfl)) rfl
theorem kn_X1 : Cond.instantiable RX1 19 ∈ big := bg (kT1 (List.mem_of_getElem? (i := 77) rfl)) rfl
theorem kN_X6_29 : Cond.methodLinkNest RX6 29 yX1_init "BoatBridge" ∈ lw_tbl := kT1 (List.mem_of_getElem? (i := 78) rfl)
theorem kI_X1_init : Cond.instanceMethod yX1_init ∈ big := bg (kT1 (List.mem_of_getElem? (i := 79) rfl)) rfl
theorem kC_X1_init : Cond.code yX1_init cX1_init 1 none ∈ big := bg (kT1 (List.mem_of_getElem? (i := 80) rfl)) rfl
theorem km_X1_3 : Cond.methodLink RX1 3 objectInit ∈ big := bg (kT1 (List.mem_of_getElem? (i := 81) rfl)) rfl
theorem kf_X1_9 : Cond.fieldLink RX1 9 "BoatBridge$River" "comings" "[I" ∈ big := bg (kT1 (List.mem_of_getElem? (i := 82) rfl)) rfl
theorem kf_X1_15 : Cond.fieldLink RX1 15 "BoatBridge$River" "comingSums" "[I" ∈ big := bg (kT1 (List.mem_of_getElem? (i := 83) rfl)) rfl
theorem kf_X1_18 : Cond.fieldLink RX1 18 "BoatBridge$River" "shipsBy" "[I" ∈ big := bg (kT1 (List.mem_of_getElem? (i := 84) rfl)) rfl
theorem kf_X1_21 : Cond.fieldLink RX1 21 "BoatBridge$River" "crossersAhead" "[I" ∈ big := bg (kT1 (List.mem_of_getElem? (i := 85) rfl)) rfl
theorem kf_X1_24 : Cond.fieldLink RX1 24 "BoatBridge$River" "crosserSums" "[I" ∈ big := bg (kT1 (List.mem_of_getElem? (i := 86) rfl)) rfl
theorem kf_X1_27 : Cond.fieldLink RX1 27 "BoatBridge$River" "least" "[I" ∈ big := bg (kT1 (List.mem_of_getElem? (i := 87) rfl)) rfl
theorem kf_X1_30 : Cond.fieldLink RX1 30 "BoatBridge$River" "chosen" "[I" ∈ big := bg (kT1 (List.mem_of_getElem? (i := 88) rfl)) rfl
theorem kf_X1_33 : Cond.fieldLink RX1 33 "BoatBridge$River" "openMinutes" "[I" ∈ big := bg (kT1 (List.mem_of_getElem? (i := 89) rfl)) rfl
theorem kf_X1_36 : Cond.fieldLink RX1 36 "BoatBridge$River" "openShips" "[I" ∈ big := bg (kT1 (List.mem_of_getElem? (i := 90) rfl)) rfl
theorem kf_X1_39 : Cond.fieldLink RX1 39 "BoatBridge$River" "openEnds" "[I" ∈ big := bg (kT1 (List.mem_of_getElem? (i := 91) rfl)) rfl
theorem kf_X1_55 : Cond.fieldLink RX1 55 "BoatBridge$River" "ships" "I" ∈ big := bg (kT1 (List.mem_of_getElem? (i := 92) rfl)) rfl
theorem kf_X1_58 : Cond.fieldLink RX1 58 "BoatBridge$River" "crossers" "I" ∈ big := bg (kT1 (List.mem_of_getElem? (i := 93) rfl)) rfl
theorem kf_X1_42 : Cond.fieldLink RX1 42 "BoatBridge$River" "opens" "I" ∈ big := bg (kT1 (List.mem_of_getElem? (i := 94) rfl)) rfl
theorem kf_X1_46 : Cond.fieldLink RX1 46 "BoatBridge$River" "takes" "I" ∈ big := bg (kT1 (List.mem_of_getElem? (i := 95) rfl)) rfl
theorem kf_X1_49 : Cond.fieldLink RX1 49 "BoatBridge$River" "shuts" "I" ∈ big := bg (kT1 (List.mem_of_getElem? (i := 96) rfl)) rfl
theorem kf_X1_52 : Cond.fieldLink RX1 52 "BoatBridge$River" "shipRank" "I" ∈ big := bg (kT1 (List.mem_of_getElem? (i := 97) rfl)) rfl
theorem kf_X1_72 : Cond.fieldLink RX1 72 "BoatBridge$River" "openings" "I" ∈ big := bg (kT1 (List.mem_of_getElem? (i := 98) rfl)) rfl
theorem kf_X1_68 : Cond.fieldLink RX1 68 "BoatBridge$River" "total" "I" ∈ big := bg (kT1 (List.mem_of_getElem? (i := 99) rfl)) rfl
theorem kf_X1_61 : Cond.fieldLink RX1 61 "BoatBridge$River" "planned" "Z" ∈ big := bg (kT1 (List.mem_of_getElem? (i := 100) rfl)) rfl
theorem kq_X6_34 : Cond.classLink RX6 34 RX2 ∈ big := bg (kT1 (List.mem_of_getElem? (i := 140) rfl)) rfl
theorem kn_X2 : Cond.instantiable RX2 6 ∈ big := bg (kT1 (List.mem_of_getElem? (i := 141) rfl)) rfl
theorem km_X6_36 : Cond.methodLink RX6 36 yX2_init ∈ big := bg (kT1 (List.mem_of_getElem? (i := 142) rfl)) rfl
theorem kI_X2_init : Cond.instanceMethod yX2_init ∈ big := bg (kT1 (List.mem_of_getElem? (i := 143) rfl)) rfl
theorem kC_X2_init : Cond.code yX2_init cX2_init 1 none ∈ big := bg (kT1 (List.mem_of_getElem? (i := 144) rfl)) rfl
theorem km_X2_3 : Cond.methodLink RX2 3 objectInit ∈ big := bg (kT1 (List.mem_of_getElem? (i := 145) rfl)) rfl
theorem km_X2_29 : Cond.methodLink RX2 29 yJ7_fill_53178 ∈ big := bg (kT1 (List.mem_of_getElem? (i := 146) rfl)) rfl
theorem kf_X2_9 : Cond.fieldLink RX2 9 "BoatBridge$Season" "highs" "[I" ∈ big := bg (kT1 (List.mem_of_getElem? (i := 147) rfl)) rfl
theorem kf_X2_15 : Cond.fieldLink RX2 15 "BoatBridge$Season" "outDays" "[Z" ∈ big := bg (kT1 (List.mem_of_getElem? (i := 148) rfl)) rfl
theorem kf_X2_19 : Cond.fieldLink RX2 19 "BoatBridge$Season" "needed" "[I" ∈ big := bg (kT1 (List.mem_of_getElem? (i := 149) rfl)) rfl
theorem kf_X2_22 : Cond.fieldLink RX2 22 "BoatBridge$Season" "mostLevel" "I" ∈ big := bg (kT1 (List.mem_of_getElem? (i := 150) rfl)) rfl
theorem kf_X2_26 : Cond.fieldLink RX2 26 "BoatBridge$Season" "laysDays" "I" ∈ big := bg (kT1 (List.mem_of_getElem? (i := 151) rfl)) rfl
theorem kf_X2_35 : Cond.fieldLink RX2 35 "BoatBridge$Season" "planned" "Z" ∈ big := bg (kT1 (List.mem_of_getElem? (i := 152) rfl)) rfl
theorem ka_boolean : Cond.arrayClass .boolean ∈ big := bg (kT1 (List.mem_of_getElem? (i := 166) rfl)) rfl
theorem kq_X6_41 : Cond.classLink RX6 41 RX3 ∈ big := bg (kT1 (List.mem_of_getElem? (i := 167) rfl)) rfl
theorem kn_X3 : Cond.instantiable RX3 2 ∈ big := bg (kT1 (List.mem_of_getElem? (i := 168) rfl)) rfl
theorem kN_X6_43 : Cond.methodLinkNest RX6 43 yX3_init "BoatBridge" ∈ lw_tbl := kT1 (List.mem_of_getElem? (i := 169) rfl)
theorem kI_X3_init : Cond.instanceMethod yX3_init ∈ big := bg (kT1 (List.mem_of_getElem? (i := 170) rfl)) rfl
theorem kC_X3_init : Cond.code yX3_init cX3_init 1 none ∈ big := bg (kT1 (List.mem_of_getElem? (i := 171) rfl)) rfl
theorem km_X3_3 : Cond.methodLink RX3 3 objectInit ∈ big := bg (kT1 (List.mem_of_getElem? (i := 172) rfl)) rfl
theorem kf_X3_9 : Cond.fieldLink RX3 9 "BoatBridge$Tape" "bytes" "[B" ∈ big := bg (kT1 (List.mem_of_getElem? (i := 173) rfl)) rfl
theorem kf_X3_15 : Cond.fieldLink RX3 15 "BoatBridge$Tape" "length" "I" ∈ big := bg (kT1 (List.mem_of_getElem? (i := 174) rfl)) rfl
theorem ka_byte : Cond.arrayClass .byte ∈ big := bg (kT1 (List.mem_of_getElem? (i := 180) rfl)) rfl
theorem kq_X6_48 : Cond.classLink RX6 48 RX5 ∈ big := bg (kT1 (List.mem_of_getElem? (i := 181) rfl)) rfl
theorem kn_X5 : Cond.instantiable RX5 12 ∈ big := bg (kT1 (List.mem_of_getElem? (i := 182) rfl)) rfl
theorem kN_X6_50 : Cond.methodLinkNest RX6 50 yX5_init "BoatBridge" ∈ lw_tbl := kT1 (List.mem_of_getElem? (i := 183) rfl)
theorem kI_X5_init : Cond.instanceMethod yX5_init ∈ big := bg (kT1 (List.mem_of_getElem? (i := 184) rfl)) rfl
theorem kC_X5_init : Cond.code yX5_init cX5_init 1 none ∈ big := bg (kT1 (List.mem_of_getElem? (i := 185) rfl)) rfl
theorem km_X5_3 : Cond.methodLink RX5 3 objectInit ∈ big := bg (kT1 (List.mem_of_getElem? (i := 186) rfl)) rfl
theorem kf_X5_9 : Cond.fieldLink RX5 9 "BoatBridge$TollReader" "tollRow" "[I" ∈ big := bg (kT1 (List.mem_of_getElem? (i := 187) rfl)) rfl
theorem kf_X5_15 : Cond.fieldLink RX5 15 "BoatBridge$TollReader" "againRow" "[I" ∈ big := bg (kT1 (List.mem_of_getElem? (i := 188) rfl)) rfl
theorem kf_X5_25 : Cond.fieldLink RX5 25 "BoatBridge$TollReader" "clauses" "I" ∈ big := bg (kT1 (List.mem_of_getElem? (i := 189) rfl)) rfl
theorem kf_X5_18 : Cond.fieldLink RX5 18 "BoatBridge$TollReader" "faultCode" "I" ∈ big := bg (kT1 (List.mem_of_getElem? (i := 190) rfl)) rfl
theorem kf_X5_22 : Cond.fieldLink RX5 22 "BoatBridge$TollReader" "faultPlace" "I" ∈ big := bg (kT1 (List.mem_of_getElem? (i := 191) rfl)) rfl
theorem kf_X5_65 : Cond.fieldLink RX5 65 "BoatBridge$TollReader" "cursor" "I" ∈ big := bg (kT1 (List.mem_of_getElem? (i := 192) rfl)) rfl
theorem kf_X5_47 : Cond.fieldLink RX5 47 "BoatBridge$TollReader" "tokenType" "I" ∈ big := bg (kT1 (List.mem_of_getElem? (i := 193) rfl)) rfl
theorem kf_X5_56 : Cond.fieldLink RX5 56 "BoatBridge$TollReader" "tokenStart" "I" ∈ big := bg (kT1 (List.mem_of_getElem? (i := 194) rfl)) rfl
theorem kf_X5_85 : Cond.fieldLink RX5 85 "BoatBridge$TollReader" "tokenValue" "I" ∈ big := bg (kT1 (List.mem_of_getElem? (i := 195) rfl)) rfl
theorem kf_X5_50 : Cond.fieldLink RX5 50 "BoatBridge$TollReader" "due" "I" ∈ big := bg (kT1 (List.mem_of_getElem? (i := 196) rfl)) rfl
theorem kf_X5_120 : Cond.fieldLink RX5 120 "BoatBridge$TollReader" "clauseType" "I" ∈ big := bg (kT1 (List.mem_of_getElem? (i := 197) rfl)) rfl
theorem kf_X5_131 : Cond.fieldLink RX5 131 "BoatBridge$TollReader" "clauseKind" "I" ∈ big := bg (kT1 (List.mem_of_getElem? (i := 198) rfl)) rfl
theorem kq_X6_55 : Cond.classLink RX6 55 RX4 ∈ big := bg (kT1 (List.mem_of_getElem? (i := 224) rfl)) rfl
theorem kn_X4 : Cond.instantiable RX4 6 ∈ big := bg (kT1 (List.mem_of_getElem? (i := 225) rfl)) rfl
theorem km_X6_57 : Cond.methodLink RX6 57 yX4_init ∈ big := bg (kT1 (List.mem_of_getElem? (i := 226) rfl)) rfl
theorem kI_X4_init : Cond.instanceMethod yX4_init ∈ big := bg (kT1 (List.mem_of_getElem? (i := 227) rfl)) rfl
theorem kC_X4_init : Cond.code yX4_init cX4_init 1 none ∈ big := bg (kT1 (List.mem_of_getElem? (i := 228) rfl)) rfl
theorem km_X4_3 : Cond.methodLink RX4 3 objectInit ∈ big := bg (kT1 (List.mem_of_getElem? (i := 229) rfl)) rfl
theorem km_X4_21 : Cond.methodLink RX4 21 yJ7_fill_53178 ∈ big := bg (kT1 (List.mem_of_getElem? (i := 230) rfl)) rfl
theorem kf_X4_9 : Cond.fieldLink RX4 9 "BoatBridge$Till" "tollRow" "[I" ∈ big := bg (kT1 (List.mem_of_getElem? (i := 231) rfl)) rfl
theorem kf_X4_15 : Cond.fieldLink RX4 15 "BoatBridge$Till" "againRow" "[I" ∈ big := bg (kT1 (List.mem_of_getElem? (i := 232) rfl)) rfl
theorem kf_X4_18 : Cond.fieldLink RX4 18 "BoatBridge$Till" "openReturns" "[I" ∈ big := bg (kT1 (List.mem_of_getElem? (i := 233) rfl)) rfl
theorem kf_X4_27 : Cond.fieldLink RX4 27 "BoatBridge$Till" "latest" "I" ∈ big := bg (kT1 (List.mem_of_getElem? (i := 234) rfl)) rfl
theorem kf_X4_31 : Cond.fieldLink RX4 31 "BoatBridge$Till" "paid" "I" ∈ big := bg (kT1 (List.mem_of_getElem? (i := 235) rfl)) rfl
theorem kf_X4_34 : Cond.fieldLink RX4 34 "BoatBridge$Till" "free" "I" ∈ big := bg (kT1 (List.mem_of_getElem? (i := 236) rfl)) rfl
theorem kf_X6_23 : Cond.fieldLink RX6 23 "BoatBridge" "deck" "LBoatBridge$Deck;" ∈ big := bg (kT2 (List.mem_of_getElem? (i := 10) rfl)) rfl
theorem kf_X6_30 : Cond.fieldLink RX6 30 "BoatBridge" "river" "LBoatBridge$River;" ∈ big := bg (kT2 (List.mem_of_getElem? (i := 11) rfl)) rfl
theorem kf_X6_37 : Cond.fieldLink RX6 37 "BoatBridge" "season" "LBoatBridge$Season;" ∈ big := bg (kT2 (List.mem_of_getElem? (i := 12) rfl)) rfl
theorem kf_X6_44 : Cond.fieldLink RX6 44 "BoatBridge" "tape" "LBoatBridge$Tape;" ∈ big := bg (kT2 (List.mem_of_getElem? (i := 13) rfl)) rfl
theorem kf_X6_51 : Cond.fieldLink RX6 51 "BoatBridge" "reader" "LBoatBridge$TollReader;" ∈ big := bg (kT2 (List.mem_of_getElem? (i := 14) rfl)) rfl
theorem kf_X6_58 : Cond.fieldLink RX6 58 "BoatBridge" "till" "LBoatBridge$Till;" ∈ big := bg (kT2 (List.mem_of_getElem? (i := 15) rfl)) rfl
theorem km_L_21 : Cond.methodLink RL 21 yX6_hull ∈ big := bg (kT2 (List.mem_of_getElem? (i := 29) rfl)) rfl
theorem kI_X6_hull : Cond.instanceMethod yX6_hull ∈ big := bg (kT2 (List.mem_of_getElem? (i := 30) rfl)) rfl
theorem kS_X6_hull : Cond.selects RX6 yX6_hull yX6_hull ∈ big := bg (kT2 (List.mem_of_getElem? (i := 31) rfl)) rfl
theorem kC_X6_hull : Cond.code yX6_hull cX6_hull 4 (some .boolean) ∈ big := bg (kT2 (List.mem_of_getElem? (i := 32) rfl)) rfl
theorem km_X6_62 : Cond.methodLink RX6 62 yX0_hasHull ∈ big := bg (kT2 (List.mem_of_getElem? (i := 33) rfl)) rfl
theorem kI_X0_hasHull : Cond.instanceMethod yX0_hasHull ∈ big := bg (kT2 (List.mem_of_getElem? (i := 34) rfl)) rfl
theorem kS_X0_hasHull : Cond.selects RX0 yX0_hasHull yX0_hasHull ∈ big := bg (kT2 (List.mem_of_getElem? (i := 35) rfl)) rfl
theorem kC_X0_hasHull : Cond.code yX0_hasHull cX0_hasHull 2 (some .boolean) ∈ big := bg (kT2 (List.mem_of_getElem? (i := 36) rfl)) rfl
theorem kN_X0_46 : Cond.methodLinkNest RX0 46 yX6_within "BoatBridge" ∈ lw_tbl := kT2 (List.mem_of_getElem? (i := 37) rfl)
theorem kt_X6_within : Cond.static yX6_within ∈ big := bg (kT2 (List.mem_of_getElem? (i := 38) rfl)) rfl
theorem kC_X6_within : Cond.code yX6_within cX6_within 3 (some .boolean) ∈ big := bg (kT2 (List.mem_of_getElem? (i := 39) rfl)) rfl
theorem km_X6_66 : Cond.methodLink RX6 66 yX6_within ∈ big := bg (kT2 (List.mem_of_getElem? (i := 40) rfl)) rfl
theorem km_X6_70 : Cond.methodLink RX6 70 yX0_setHull ∈ big := bg (kT2 (List.mem_of_getElem? (i := 41) rfl)) rfl
theorem kI_X0_setHull : Cond.instanceMethod yX0_setHull ∈ big := bg (kT2 (List.mem_of_getElem? (i := 42) rfl)) rfl
theorem kS_X0_setHull : Cond.selects RX0 yX0_setHull yX0_setHull ∈ big := bg (kT2 (List.mem_of_getElem? (i := 43) rfl)) rfl
theorem kC_X0_setHull : Cond.code yX0_setHull cX0_setHull 4 none ∈ big := bg (kT2 (List.mem_of_getElem? (i := 44) rfl)) rfl
theorem km_L_26 : Cond.methodLink RL 26 yX6_pull ∈ big := bg (kT2 (List.mem_of_getElem? (i := 45) rfl)) rfl
theorem kI_X6_pull : Cond.instanceMethod yX6_pull ∈ big := bg (kT2 (List.mem_of_getElem? (i := 46) rfl)) rfl
theorem kS_X6_pull : Cond.selects RX6 yX6_pull yX6_pull ∈ big := bg (kT2 (List.mem_of_getElem? (i := 47) rfl)) rfl
theorem kC_X6_pull : Cond.code yX6_pull cX6_pull 3 (some .boolean) ∈ big := bg (kT2 (List.mem_of_getElem? (i := 48) rfl)) rfl
theorem km_X6_74 : Cond.methodLink RX6 74 yX0_setPull ∈ big := bg (kT2 (List.mem_of_getElem? (i := 49) rfl)) rfl
theorem kI_X0_setPull : Cond.instanceMethod yX0_setPull ∈ big := bg (kT2 (List.mem_of_getElem? (i := 50) rfl)) rfl
theorem kS_X0_setPull : Cond.selects RX0 yX0_setPull yX0_setPull ∈ big := bg (kT2 (List.mem_of_getElem? (i := 51) rfl)) rfl
theorem kC_X0_setPull : Cond.code yX0_setPull cX0_setPull 3 none ∈ big := bg (kT2 (List.mem_of_getElem? (i := 52) rfl)) rfl
theorem km_L_31 : Cond.methodLink RL 31 yX6_drags ∈ big := bg (kT2 (List.mem_of_getElem? (i := 53) rfl)) rfl
theorem kI_X6_drags : Cond.instanceMethod yX6_drags ∈ big := bg (kT2 (List.mem_of_getElem? (i := 54) rfl)) rfl
theorem kS_X6_drags : Cond.selects RX6 yX6_drags yX6_drags ∈ big := bg (kT2 (List.mem_of_getElem? (i := 55) rfl)) rfl
theorem kC_X6_drags : Cond.code yX6_drags cX6_drags 2 (some .int) ∈ big := bg (kT2 (List.mem_of_getElem? (i := 56) rfl)) rfl
theorem km_X6_78 : Cond.methodLink RX6 78 yX0_anchorsBelow ∈ big := bg (kT2 (List.mem_of_getElem? (i := 57) rfl)) rfl
theorem kI_X0_anchorsBelow : Cond.instanceMethod yX0_anchorsBelow ∈ big := bg (kT2 (List.mem_of_getElem? (i := 58) rfl)) rfl
theorem kS_X0_anchorsBelow : Cond.selects RX0 yX0_anchorsBelow yX0_anchorsBelow ∈ big := bg (kT2 (List.mem_of_getElem? (i := 59) rfl)) rfl
theorem kC_X0_anchorsBelow : Cond.code yX0_anchorsBelow cX0_anchorsBelow 4 (some .int) ∈ big := bg (kT2 (List.mem_of_getElem? (i := 60) rfl)) rfl
theorem km_L_36 : Cond.methodLink RL 36 yX6_cart ∈ big := bg (kT2 (List.mem_of_getElem? (i := 61) rfl)) rfl
theorem kI_X6_cart : Cond.instanceMethod yX6_cart ∈ big := bg (kT2 (List.mem_of_getElem? (i := 62) rfl)) rfl
theorem kS_X6_cart : Cond.selects RX6 yX6_cart yX6_cart ∈ big := bg (kT2 (List.mem_of_getElem? (i := 63) rfl)) rfl
theorem kC_X6_cart : Cond.code yX6_cart cX6_cart 3 (some .int) ∈ big := bg (kT2 (List.mem_of_getElem? (i := 64) rfl)) rfl
theorem km_X6_82 : Cond.methodLink RX6 82 yX0_cartCount ∈ big := bg (kT2 (List.mem_of_getElem? (i := 65) rfl)) rfl
theorem kI_X0_cartCount : Cond.instanceMethod yX0_cartCount ∈ big := bg (kT2 (List.mem_of_getElem? (i := 66) rfl)) rfl
theorem kS_X0_cartCount : Cond.selects RX0 yX0_cartCount yX0_cartCount ∈ big := bg (kT2 (List.mem_of_getElem? (i := 67) rfl)) rfl
theorem kC_X0_cartCount : Cond.code yX0_cartCount cX0_cartCount 1 (some .int) ∈ big := bg (kT2 (List.mem_of_getElem? (i := 68) rfl)) rfl
theorem km_X6_86 : Cond.methodLink RX6 86 yX0_addCart ∈ big := bg (kT2 (List.mem_of_getElem? (i := 69) rfl)) rfl
theorem kI_X0_addCart : Cond.instanceMethod yX0_addCart ∈ big := bg (kT2 (List.mem_of_getElem? (i := 70) rfl)) rfl
theorem kS_X0_addCart : Cond.selects RX0 yX0_addCart yX0_addCart ∈ big := bg (kT2 (List.mem_of_getElem? (i := 71) rfl)) rfl
theorem kC_X0_addCart : Cond.code yX0_addCart cX0_addCart 3 (some .int) ∈ big := bg (kT2 (List.mem_of_getElem? (i := 72) rfl)) rfl
theorem km_L_41 : Cond.methodLink RL 41 yX6_clear ∈ big := bg (kT2 (List.mem_of_getElem? (i := 73) rfl)) rfl
theorem kI_X6_clear : Cond.instanceMethod yX6_clear ∈ big := bg (kT2 (List.mem_of_getElem? (i := 74) rfl)) rfl
theorem kS_X6_clear : Cond.selects RX6 yX6_clear yX6_clear ∈ big := bg (kT2 (List.mem_of_getElem? (i := 75) rfl)) rfl
theorem kC_X6_clear : Cond.code yX6_clear cX6_clear 1 (some .int) ∈ big := bg (kT2 (List.mem_of_getElem? (i := 76) rfl)) rfl
theorem km_X6_89 : Cond.methodLink RX6 89 yX0_dropCarts ∈ big := bg (kT2 (List.mem_of_getElem? (i := 77) rfl)) rfl
theorem kI_X0_dropCarts : Cond.instanceMethod yX0_dropCarts ∈ big := bg (kT2 (List.mem_of_getElem? (i := 78) rfl)) rfl
theorem kS_X0_dropCarts : Cond.selects RX0 yX0_dropCarts yX0_dropCarts ∈ big := bg (kT2 (List.mem_of_getElem? (i := 79) rfl)) rfl
theorem kC_X0_dropCarts : Cond.code yX0_dropCarts cX0_dropCarts 2 (some .int) ∈ big := bg (kT2 (List.mem_of_getElem? (i := 80) rfl)) rfl
theorem km_L_46 : Cond.methodLink RL 46 yX6_pressed ∈ big := bg (kT2 (List.mem_of_getElem? (i := 81) rfl)) rfl
theorem kI_X6_pressed : Cond.instanceMethod yX6_pressed ∈ big := bg (kT2 (List.mem_of_getElem? (i := 82) rfl)) rfl
theorem kS_X6_pressed : Cond.selects RX6 yX6_pressed yX6_pressed ∈ big := bg (kT2 (List.mem_of_getElem? (i := 83) rfl)) rfl
theorem kC_X6_pressed : Cond.code yX6_pressed cX6_pressed 3 (some .int) ∈ big := bg (kT2 (List.mem_of_getElem? (i := 84) rfl)) rfl
theorem km_X6_92 : Cond.methodLink RX6 92 yX0_loadOn ∈ big := bg (kT2 (List.mem_of_getElem? (i := 85) rfl)) rfl
theorem kI_X0_loadOn : Cond.instanceMethod yX0_loadOn ∈ big := bg (kT2 (List.mem_of_getElem? (i := 86) rfl)) rfl
theorem kS_X0_loadOn : Cond.selects RX0 yX0_loadOn yX0_loadOn ∈ big := bg (kT2 (List.mem_of_getElem? (i := 87) rfl)) rfl
theorem kC_X0_loadOn : Cond.code yX0_loadOn cX0_loadOn 3 (some .int) ∈ big := bg (kT2 (List.mem_of_getElem? (i := 88) rfl)) rfl
theorem km_X0_50 : Cond.methodLink RX0 50 yX0_layLoads ∈ big := bg (kT2 (List.mem_of_getElem? (i := 89) rfl)) rfl
theorem kI_X0_layLoads : Cond.instanceMethod yX0_layLoads ∈ big := bg (kT2 (List.mem_of_getElem? (i := 91) rfl)) rfl
theorem kC_X0_layLoads : Cond.code yX0_layLoads cX0_layLoads 5 none ∈ big := bg (kT2 (List.mem_of_getElem? (i := 92) rfl)) rfl
theorem km_X0_70 : Cond.methodLink RX0 70 yX0_hasHull ∈ big := bg (kT2 (List.mem_of_getElem? (i := 93) rfl)) rfl
theorem km_X0_74 : Cond.methodLink RX0 74 yX0_press ∈ big := bg (kT2 (List.mem_of_getElem? (i := 94) rfl)) rfl
theorem kI_X0_press : Cond.instanceMethod yX0_press ∈ big := bg (kT2 (List.mem_of_getElem? (i := 96) rfl)) rfl
theorem kC_X0_press : Cond.code yX0_press cX0_press 3 none ∈ big := bg (kT2 (List.mem_of_getElem? (i := 97) rfl)) rfl
theorem km_L_50 : Cond.methodLink RL 50 yX6_worst ∈ big := bg (kT2 (List.mem_of_getElem? (i := 98) rfl)) rfl
theorem kI_X6_worst : Cond.instanceMethod yX6_worst ∈ big := bg (kT2 (List.mem_of_getElem? (i := 99) rfl)) rfl
theorem kS_X6_worst : Cond.selects RX6 yX6_worst yX6_worst ∈ big := bg (kT2 (List.mem_of_getElem? (i := 100) rfl)) rfl
theorem kC_X6_worst : Cond.code yX6_worst cX6_worst 2 (some .int) ∈ big := bg (kT2 (List.mem_of_getElem? (i := 101) rfl)) rfl
theorem km_X6_95 : Cond.methodLink RX6 95 yX0_leastMargin ∈ big := bg (kT2 (List.mem_of_getElem? (i := 102) rfl)) rfl
theorem kI_X0_leastMargin : Cond.instanceMethod yX0_leastMargin ∈ big := bg (kT2 (List.mem_of_getElem? (i := 103) rfl)) rfl
theorem kS_X0_leastMargin : Cond.selects RX0 yX0_leastMargin yX0_leastMargin ∈ big := bg (kT2 (List.mem_of_getElem? (i := 104) rfl)) rfl
theorem kC_X0_leastMargin : Cond.code yX0_leastMargin cX0_leastMargin 2 (some .int) ∈ big := bg (kT2 (List.mem_of_getElem? (i := 105) rfl)) rfl
theorem km_X0_54 : Cond.methodLink RX0 54 yX0_findLeastMargin ∈ big := bg (kT2 (List.mem_of_getElem? (i := 106) rfl)) rfl
theorem kI_X0_findLeastMargin : Cond.instanceMethod yX0_findLeastMargin ∈ big := bg (kT2 (List.mem_of_getElem? (i := 108) rfl)) rfl
theorem kC_X0_findLeastMargin : Cond.code yX0_findLeastMargin cX0_findLeastMargin 6 none ∈ big := bg (kT2 (List.mem_of_getElem? (i := 109) rfl)) rfl
theorem kc_X0_69 : Cond.constant RX0 69 (2147483647) ∈ big := bg (kT2 (List.mem_of_getElem? (i := 110) rfl)) rfl
theorem kc_X6_98 : Cond.constant RX6 98 (-100000) ∈ big := bg (kT2 (List.mem_of_getElem? (i := 111) rfl)) rfl
theorem km_L_54 : Cond.methodLink RL 54 yX6_gap ∈ big := bg (kT2 (List.mem_of_getElem? (i := 112) rfl)) rfl
theorem kI_X6_gap : Cond.instanceMethod yX6_gap ∈ big := bg (kT2 (List.mem_of_getElem? (i := 113) rfl)) rfl
theorem kS_X6_gap : Cond.selects RX6 yX6_gap yX6_gap ∈ big := bg (kT2 (List.mem_of_getElem? (i := 114) rfl)) rfl
theorem kC_X6_gap : Cond.code yX6_gap cX6_gap 1 (some .int) ∈ big := bg (kT2 (List.mem_of_getElem? (i := 115) rfl)) rfl
theorem km_X6_99 : Cond.methodLink RX6 99 yX0_leastEvenGap ∈ big := bg (kT2 (List.mem_of_getElem? (i := 116) rfl)) rfl
theorem kI_X0_leastEvenGap : Cond.instanceMethod yX0_leastEvenGap ∈ big := bg (kT2 (List.mem_of_getElem? (i := 117) rfl)) rfl
theorem kS_X0_leastEvenGap : Cond.selects RX0 yX0_leastEvenGap yX0_leastEvenGap ∈ big := bg (kT2 (List.mem_of_getElem? (i := 118) rfl)) rfl
theorem kC_X0_leastEvenGap : Cond.code yX0_leastEvenGap cX0_leastEvenGap 3 (some .int) ∈ big := bg (kT2 (List.mem_of_getElem? (i := 119) rfl)) rfl
theorem km_L_58 : Cond.methodLink RL 58 yX6_ship ∈ big := bg (kT2 (List.mem_of_getElem? (i := 120) rfl)) rfl
theorem kI_X6_ship : Cond.instanceMethod yX6_ship ∈ big := bg (kT2 (List.mem_of_getElem? (i := 121) rfl)) rfl
theorem kS_X6_ship : Cond.selects RX6 yX6_ship yX6_ship ∈ big := bg (kT2 (List.mem_of_getElem? (i := 122) rfl)) rfl
theorem kC_X6_ship : Cond.code yX6_ship cX6_ship 2 (some .int) ∈ big := bg (kT2 (List.mem_of_getElem? (i := 123) rfl)) rfl
theorem km_X6_102 : Cond.methodLink RX6 102 yX1_shipCount ∈ big := bg (kT2 (List.mem_of_getElem? (i := 124) rfl)) rfl
theorem kI_X1_shipCount : Cond.instanceMethod yX1_shipCount ∈ big := bg (kT2 (List.mem_of_getElem? (i := 125) rfl)) rfl
theorem kS_X1_shipCount : Cond.selects RX1 yX1_shipCount yX1_shipCount ∈ big := bg (kT2 (List.mem_of_getElem? (i := 126) rfl)) rfl
theorem kC_X1_shipCount : Cond.code yX1_shipCount cX1_shipCount 1 (some .int) ∈ big := bg (kT2 (List.mem_of_getElem? (i := 127) rfl)) rfl
theorem km_X6_105 : Cond.methodLink RX6 105 yX1_addShip ∈ big := bg (kT2 (List.mem_of_getElem? (i := 128) rfl)) rfl
theorem kI_X1_addShip : Cond.instanceMethod yX1_addShip ∈ big := bg (kT2 (List.mem_of_getElem? (i := 129) rfl)) rfl
theorem kS_X1_addShip : Cond.selects RX1 yX1_addShip yX1_addShip ∈ big := bg (kT2 (List.mem_of_getElem? (i := 130) rfl)) rfl
theorem kC_X1_addShip : Cond.code yX1_addShip cX1_addShip 4 (some .int) ∈ big := bg (kT2 (List.mem_of_getElem? (i := 131) rfl)) rfl
theorem km_L_62 : Cond.methodLink RL 62 yX6_crosser ∈ big := bg (kT2 (List.mem_of_getElem? (i := 132) rfl)) rfl
theorem kI_X6_crosser : Cond.instanceMethod yX6_crosser ∈ big := bg (kT2 (List.mem_of_getElem? (i := 133) rfl)) rfl
theorem kS_X6_crosser : Cond.selects RX6 yX6_crosser yX6_crosser ∈ big := bg (kT2 (List.mem_of_getElem? (i := 134) rfl)) rfl
theorem kC_X6_crosser : Cond.code yX6_crosser cX6_crosser 2 (some .int) ∈ big := bg (kT2 (List.mem_of_getElem? (i := 135) rfl)) rfl
theorem km_X6_108 : Cond.methodLink RX6 108 yX1_crosserCount ∈ big := bg (kT2 (List.mem_of_getElem? (i := 136) rfl)) rfl
theorem kI_X1_crosserCount : Cond.instanceMethod yX1_crosserCount ∈ big := bg (kT2 (List.mem_of_getElem? (i := 137) rfl)) rfl
theorem kS_X1_crosserCount : Cond.selects RX1 yX1_crosserCount yX1_crosserCount ∈ big := bg (kT2 (List.mem_of_getElem? (i := 138) rfl)) rfl
theorem kC_X1_crosserCount : Cond.code yX1_crosserCount cX1_crosserCount 1 (some .int) ∈ big := bg (kT2 (List.mem_of_getElem? (i := 139) rfl)) rfl
theorem km_X6_111 : Cond.methodLink RX6 111 yX1_addCrosser ∈ big := bg (kT2 (List.mem_of_getElem? (i := 140) rfl)) rfl
theorem kI_X1_addCrosser : Cond.instanceMethod yX1_addCrosser ∈ big := bg (kT2 (List.mem_of_getElem? (i := 141) rfl)) rfl
theorem kS_X1_addCrosser : Cond.selects RX1 yX1_addCrosser yX1_addCrosser ∈ big := bg (kT2 (List.mem_of_getElem? (i := 142) rfl)) rfl
theorem kC_X1_addCrosser : Cond.code yX1_addCrosser cX1_addCrosser 3 (some .int) ∈ big := bg (kT2 (List.mem_of_getElem? (i := 143) rfl)) rfl
theorem km_L_66 : Cond.methodLink RL 66 yX6_times ∈ big := bg (kT2 (List.mem_of_getElem? (i := 144) rfl)) rfl
theorem kI_X6_times : Cond.instanceMethod yX6_times ∈ big := bg (kT2 (List.mem_of_getElem? (i := 145) rfl)) rfl
theorem kS_X6_times : Cond.selects RX6 yX6_times yX6_times ∈ big := bg (kT2 (List.mem_of_getElem? (i := 146) rfl)) rfl
theorem kC_X6_times : Cond.code yX6_times cX6_times 5 (some .boolean) ∈ big := bg (kT2 (List.mem_of_getElem? (i := 147) rfl)) rfl
theorem km_X6_114 : Cond.methodLink RX6 114 yX1_setTimes ∈ big := bg (kT2 (List.mem_of_getElem? (i := 148) rfl)) rfl
theorem kI_X1_setTimes : Cond.instanceMethod yX1_setTimes ∈ big := bg (kT2 (List.mem_of_getElem? (i := 149) rfl)) rfl
theorem kS_X1_setTimes : Cond.selects RX1 yX1_setTimes yX1_setTimes ∈ big := bg (kT2 (List.mem_of_getElem? (i := 150) rfl)) rfl
theorem kC_X1_setTimes : Cond.code yX1_setTimes cX1_setTimes 5 none ∈ big := bg (kT2 (List.mem_of_getElem? (i := 151) rfl)) rfl
theorem km_L_71 : Cond.methodLink RL 71 yX6_waits ∈ big := bg (kT2 (List.mem_of_getElem? (i := 152) rfl)) rfl
theorem kI_X6_waits : Cond.instanceMethod yX6_waits ∈ big := bg (kT2 (List.mem_of_getElem? (i := 153) rfl)) rfl
theorem kS_X6_waits : Cond.selects RX6 yX6_waits yX6_waits ∈ big := bg (kT2 (List.mem_of_getElem? (i := 154) rfl)) rfl
theorem kC_X6_waits : Cond.code yX6_waits cX6_waits 1 (some .int) ∈ big := bg (kT2 (List.mem_of_getElem? (i := 155) rfl)) rfl
theorem km_X6_118 : Cond.methodLink RX6 118 yX1_leastWaits ∈ big := bg (kT2 (List.mem_of_getElem? (i := 156) rfl)) rfl
theorem kI_X1_leastWaits : Cond.instanceMethod yX1_leastWaits ∈ big := bg (kT2 (List.mem_of_getElem? (i := 157) rfl)) rfl
theorem kS_X1_leastWaits : Cond.selects RX1 yX1_leastWaits yX1_leastWaits ∈ big := bg (kT2 (List.mem_of_getElem? (i := 158) rfl)) rfl
theorem kC_X1_leastWaits : Cond.code yX1_leastWaits cX1_leastWaits 1 (some .int) ∈ big := bg (kT2 (List.mem_of_getElem? (i := 159) rfl)) rfl
theorem km_X1_65 : Cond.methodLink RX1 65 yX1_plan ∈ big := bg (kT2 (List.mem_of_getElem? (i := 160) rfl)) rfl
theorem kI_X1_plan : Cond.instanceMethod yX1_plan ∈ big := bg (kT2 (List.mem_of_getElem? (i := 162) rfl)) rfl
theorem kC_X1_plan : Cond.code yX1_plan cX1_plan 6 none ∈ big := bg (kT2 (List.mem_of_getElem? (i := 163) rfl)) rfl
theorem kc_X1_71 : Cond.constant RX1 71 (1000000000) ∈ big := bg (kT2 (List.mem_of_getElem? (i := 164) rfl)) rfl
theorem km_X1_91 : Cond.methodLink RX1 91 yX1_waitsFrom ∈ big := bg (kT2 (List.mem_of_getElem? (i := 165) rfl)) rfl
theorem kI_X1_waitsFrom : Cond.instanceMethod yX1_waitsFrom ∈ big := bg (kT2 (List.mem_of_getElem? (i := 167) rfl)) rfl
theorem kC_X1_waitsFrom : Cond.code yX1_waitsFrom cX1_waitsFrom 6 (some .int) ∈ big := bg (kT2 (List.mem_of_getElem? (i := 168) rfl)) rfl
theorem km_X1_85 : Cond.methodLink RX1 85 yX1_waitsOfOpening ∈ big := bg (kT2 (List.mem_of_getElem? (i := 169) rfl)) rfl
theorem kI_X1_waitsOfOpening : Cond.instanceMethod yX1_waitsOfOpening ∈ big := bg (kT2 (List.mem_of_getElem? (i := 171) rfl)) rfl
theorem kC_X1_waitsOfOpening : Cond.code yX1_waitsOfOpening cX1_waitsOfOpening 7 (some .int) ∈ big := bg (kT2 (List.mem_of_getElem? (i := 172) rfl)) rfl
theorem km_X1_88 : Cond.methodLink RX1 88 yX1_endOfOpening ∈ big := bg (kT2 (List.mem_of_getElem? (i := 173) rfl)) rfl
theorem kI_X1_endOfOpening : Cond.instanceMethod yX1_endOfOpening ∈ big := bg (kT2 (List.mem_of_getElem? (i := 175) rfl)) rfl
theorem kC_X1_endOfOpening : Cond.code yX1_endOfOpening cX1_endOfOpening 3 (some .int) ∈ big := bg (kT2 (List.mem_of_getElem? (i := 176) rfl)) rfl
theorem km_X1_100 : Cond.methodLink RX1 100 yX1_crosserWaits ∈ big := bg (kT2 (List.mem_of_getElem? (i := 177) rfl)) rfl
theorem kI_X1_crosserWaits : Cond.instanceMethod yX1_crosserWaits ∈ big := bg (kT2 (List.mem_of_getElem? (i := 179) rfl)) rfl
theorem kC_X1_crosserWaits : Cond.code yX1_crosserWaits cX1_crosserWaits 6 (some .int) ∈ big := bg (kT2 (List.mem_of_getElem? (i := 180) rfl)) rfl
theorem km_X1_97 : Cond.methodLink RX1 97 Lib.Math.min.name ∈ big := bg (kT2 (List.mem_of_getElem? (i := 181) rfl)) rfl
theorem km_X1_94 : Cond.methodLink RX1 94 yX1_walkBest ∈ big := bg (kT2 (List.mem_of_getElem? (i := 182) rfl)) rfl
theorem kI_X1_walkBest : Cond.instanceMethod yX1_walkBest ∈ big := bg (kT2 (List.mem_of_getElem? (i := 184) rfl)) rfl
theorem kC_X1_walkBest : Cond.code yX1_walkBest cX1_walkBest 5 none ∈ big := bg (kT2 (List.mem_of_getElem? (i := 185) rfl)) rfl
theorem km_L_75 : Cond.methodLink RL 75 yX6_opening ∈ big := bg (kT2 (List.mem_of_getElem? (i := 186) rfl)) rfl
theorem kI_X6_opening : Cond.instanceMethod yX6_opening ∈ big := bg (kT2 (List.mem_of_getElem? (i := 187) rfl)) rfl
theorem kS_X6_opening : Cond.selects RX6 yX6_opening yX6_opening ∈ big := bg (kT2 (List.mem_of_getElem? (i := 188) rfl)) rfl
theorem kC_X6_opening : Cond.code yX6_opening cX6_opening 3 (some .int) ∈ big := bg (kT2 (List.mem_of_getElem? (i := 189) rfl)) rfl
theorem km_X6_121 : Cond.methodLink RX6 121 yX1_openingOfBest ∈ big := bg (kT2 (List.mem_of_getElem? (i := 190) rfl)) rfl
theorem kI_X1_openingOfBest : Cond.instanceMethod yX1_openingOfBest ∈ big := bg (kT2 (List.mem_of_getElem? (i := 191) rfl)) rfl
theorem kS_X1_openingOfBest : Cond.selects RX1 yX1_openingOfBest yX1_openingOfBest ∈ big := bg (kT2 (List.mem_of_getElem? (i := 192) rfl)) rfl
theorem kC_X1_openingOfBest : Cond.code yX1_openingOfBest cX1_openingOfBest 3 (some .int) ∈ big := bg (kT2 (List.mem_of_getElem? (i := 193) rfl)) rfl
theorem kN_X1_75 : Cond.methodLinkNest RX1 75 yX6_within "BoatBridge" ∈ lw_tbl := kT2 (List.mem_of_getElem? (i := 194) rfl)
theorem km_L_79 : Cond.methodLink RL 79 yX6_atOnce ∈ big := bg (kT2 (List.mem_of_getElem? (i := 195) rfl)) rfl
theorem kI_X6_atOnce : Cond.instanceMethod yX6_atOnce ∈ big := bg (kT2 (List.mem_of_getElem? (i := 196) rfl)) rfl
theorem kS_X6_atOnce : Cond.selects RX6 yX6_atOnce yX6_atOnce ∈ big := bg (kT2 (List.mem_of_getElem? (i := 197) rfl)) rfl
theorem kC_X6_atOnce : Cond.code yX6_atOnce cX6_atOnce 1 (some .int) ∈ big := bg (kT2 (List.mem_of_getElem? (i := 198) rfl)) rfl
theorem km_X6_124 : Cond.methodLink RX6 124 yX1_earliestWaits ∈ big := bg (kT2 (List.mem_of_getElem? (i := 199) rfl)) rfl
theorem kI_X1_earliestWaits : Cond.instanceMethod yX1_earliestWaits ∈ big := bg (kT2 (List.mem_of_getElem? (i := 200) rfl)) rfl
theorem kS_X1_earliestWaits : Cond.selects RX1 yX1_earliestWaits yX1_earliestWaits ∈ big := bg (kT2 (List.mem_of_getElem? (i := 201) rfl)) rfl
theorem kC_X1_earliestWaits : Cond.code yX1_earliestWaits cX1_earliestWaits 6 (some .int) ∈ big := bg (kT2 (List.mem_of_getElem? (i := 202) rfl)) rfl
theorem km_X1_79 : Cond.methodLink RX1 79 Lib.Math.max.name ∈ big := bg (kT2 (List.mem_of_getElem? (i := 203) rfl)) rfl
theorem km_L_83 : Cond.methodLink RL 83 yX6_level ∈ big := bg (kT2 (List.mem_of_getElem? (i := 204) rfl)) rfl
theorem kI_X6_level : Cond.instanceMethod yX6_level ∈ big := bg (kT2 (List.mem_of_getElem? (i := 205) rfl)) rfl
theorem kS_X6_level : Cond.selects RX6 yX6_level yX6_level ∈ big := bg (kT2 (List.mem_of_getElem? (i := 206) rfl)) rfl
theorem kC_X6_level : Cond.code yX6_level cX6_level 4 (some .boolean) ∈ big := bg (kT2 (List.mem_of_getElem? (i := 207) rfl)) rfl
theorem km_X6_127 : Cond.methodLink RX6 127 yX2_foretell ∈ big := bg (kT2 (List.mem_of_getElem? (i := 208) rfl)) rfl
theorem kI_X2_foretell : Cond.instanceMethod yX2_foretell ∈ big := bg (kT2 (List.mem_of_getElem? (i := 209) rfl)) rfl
theorem kS_X2_foretell : Cond.selects RX2 yX2_foretell yX2_foretell ∈ big := bg (kT2 (List.mem_of_getElem? (i := 210) rfl)) rfl
theorem kC_X2_foretell : Cond.code yX2_foretell cX2_foretell 3 none ∈ big := bg (kT2 (List.mem_of_getElem? (i := 211) rfl)) rfl
theorem km_L_87 : Cond.methodLink RL 87 yX6_flood ∈ big := bg (kT2 (List.mem_of_getElem? (i := 212) rfl)) rfl
theorem kI_X6_flood : Cond.instanceMethod yX6_flood ∈ big := bg (kT2 (List.mem_of_getElem? (i := 213) rfl)) rfl
theorem kS_X6_flood : Cond.selects RX6 yX6_flood yX6_flood ∈ big := bg (kT2 (List.mem_of_getElem? (i := 214) rfl)) rfl
theorem kC_X6_flood : Cond.code yX6_flood cX6_flood 3 (some .boolean) ∈ big := bg (kT2 (List.mem_of_getElem? (i := 215) rfl)) rfl
theorem km_X6_130 : Cond.methodLink RX6 130 yX2_setLimits ∈ big := bg (kT2 (List.mem_of_getElem? (i := 216) rfl)) rfl
theorem kI_X2_setLimits : Cond.instanceMethod yX2_setLimits ∈ big := bg (kT2 (List.mem_of_getElem? (i := 217) rfl)) rfl
theorem kS_X2_setLimits : Cond.selects RX2 yX2_setLimits yX2_setLimits ∈ big := bg (kT2 (List.mem_of_getElem? (i := 218) rfl)) rfl
theorem kC_X2_setLimits : Cond.code yX2_setLimits cX2_setLimits 3 none ∈ big := bg (kT2 (List.mem_of_getElem? (i := 219) rfl)) rfl
theorem km_L_91 : Cond.methodLink RL 91 yX6_out ∈ big := bg (kT2 (List.mem_of_getElem? (i := 220) rfl)) rfl
theorem kI_X6_out : Cond.instanceMethod yX6_out ∈ big := bg (kT2 (List.mem_of_getElem? (i := 221) rfl)) rfl
theorem kS_X6_out : Cond.selects RX6 yX6_out yX6_out ∈ big := bg (kT2 (List.mem_of_getElem? (i := 222) rfl)) rfl
theorem kC_X6_out : Cond.code yX6_out cX6_out 1 (some .int) ∈ big := bg (kT2 (List.mem_of_getElem? (i := 223) rfl)) rfl
theorem km_X6_133 : Cond.methodLink RX6 133 yX2_fewest ∈ big := bg (kT2 (List.mem_of_getElem? (i := 224) rfl)) rfl
theorem kI_X2_fewest : Cond.instanceMethod yX2_fewest ∈ big := bg (kT2 (List.mem_of_getElem? (i := 225) rfl)) rfl
theorem kS_X2_fewest : Cond.selects RX2 yX2_fewest yX2_fewest ∈ big := bg (kT2 (List.mem_of_getElem? (i := 226) rfl)) rfl
theorem kC_X2_fewest : Cond.code yX2_fewest cX2_fewest 1 (some .int) ∈ big := bg (kT2 (List.mem_of_getElem? (i := 227) rfl)) rfl
theorem km_X2_39 : Cond.methodLink RX2 39 yX2_plan ∈ big := bg (kT2 (List.mem_of_getElem? (i := 228) rfl)) rfl
theorem kI_X2_plan : Cond.instanceMethod yX2_plan ∈ big := bg (kT2 (List.mem_of_getElem? (i := 230) rfl)) rfl
theorem kC_X2_plan : Cond.code yX2_plan cX2_plan 4 none ∈ big := bg (kT2 (List.mem_of_getElem? (i := 231) rfl)) rfl
theorem km_X2_42 : Cond.methodLink RX2 42 yX2_needIfOut ∈ big := bg (kT2 (List.mem_of_getElem? (i := 232) rfl)) rfl
theorem kI_X2_needIfOut : Cond.instanceMethod yX2_needIfOut ∈ big := bg (kT2 (List.mem_of_getElem? (i := 234) rfl)) rfl
theorem kC_X2_needIfOut : Cond.code yX2_needIfOut cX2_needIfOut 3 (some .int) ∈ big := bg (kT2 (List.mem_of_getElem? (i := 235) rfl)) rfl
theorem km_X2_54 : Cond.methodLink RX2 54 Lib.Math.min.name ∈ big := bg (kT2 (List.mem_of_getElem? (i := 236) rfl)) rfl
theorem km_X2_46 : Cond.methodLink RX2 46 yX2_mayBeIn ∈ big := bg (kT2 (List.mem_of_getElem? (i := 237) rfl)) rfl
theorem kI_X2_mayBeIn : Cond.instanceMethod yX2_mayBeIn ∈ big := bg (kT2 (List.mem_of_getElem? (i := 239) rfl)) rfl
theorem kC_X2_mayBeIn : Cond.code yX2_mayBeIn cX2_mayBeIn 3 (some .boolean) ∈ big := bg (kT3 (List.mem_of_getElem? (i := 0) rfl)) rfl
theorem km_X2_62 : Cond.methodLink RX2 62 yX2_isBad ∈ big := bg (kT3 (List.mem_of_getElem? (i := 1) rfl)) rfl
theorem kI_X2_isBad : Cond.instanceMethod yX2_isBad ∈ big := bg (kT3 (List.mem_of_getElem? (i := 2) rfl)) rfl
theorem kS_X2_isBad : Cond.selects RX2 yX2_isBad yX2_isBad ∈ big := bg (kT3 (List.mem_of_getElem? (i := 3) rfl)) rfl
theorem kC_X2_isBad : Cond.code yX2_isBad cX2_isBad 2 (some .boolean) ∈ big := bg (kT3 (List.mem_of_getElem? (i := 4) rfl)) rfl
theorem km_X2_50 : Cond.methodLink RX2 50 yX2_needIfIn ∈ big := bg (kT3 (List.mem_of_getElem? (i := 5) rfl)) rfl
theorem kI_X2_needIfIn : Cond.instanceMethod yX2_needIfIn ∈ big := bg (kT3 (List.mem_of_getElem? (i := 7) rfl)) rfl
theorem kC_X2_needIfIn : Cond.code yX2_needIfIn cX2_needIfIn 2 (some .int) ∈ big := bg (kT3 (List.mem_of_getElem? (i := 8) rfl)) rfl
theorem km_X2_59 : Cond.methodLink RX2 59 yX2_chooseDays ∈ big := bg (kT3 (List.mem_of_getElem? (i := 9) rfl)) rfl
theorem kI_X2_chooseDays : Cond.instanceMethod yX2_chooseDays ∈ big := bg (kT3 (List.mem_of_getElem? (i := 11) rfl)) rfl
theorem kC_X2_chooseDays : Cond.code yX2_chooseDays cX2_chooseDays 4 none ∈ big := bg (kT3 (List.mem_of_getElem? (i := 12) rfl)) rfl
theorem km_L_95 : Cond.methodLink RL 95 yX6_outOn ∈ big := bg (kT3 (List.mem_of_getElem? (i := 13) rfl)) rfl
theorem kI_X6_outOn : Cond.instanceMethod yX6_outOn ∈ big := bg (kT3 (List.mem_of_getElem? (i := 14) rfl)) rfl
theorem kS_X6_outOn : Cond.selects RX6 yX6_outOn yX6_outOn ∈ big := bg (kT3 (List.mem_of_getElem? (i := 15) rfl)) rfl
theorem kC_X6_outOn : Cond.code yX6_outOn cX6_outOn 4 (some .int) ∈ big := bg (kT3 (List.mem_of_getElem? (i := 16) rfl)) rfl
theorem km_X6_136 : Cond.methodLink RX6 136 yX2_isOut ∈ big := bg (kT3 (List.mem_of_getElem? (i := 17) rfl)) rfl
theorem kI_X2_isOut : Cond.instanceMethod yX2_isOut ∈ big := bg (kT3 (List.mem_of_getElem? (i := 18) rfl)) rfl
theorem kS_X2_isOut : Cond.selects RX2 yX2_isOut yX2_isOut ∈ big := bg (kT3 (List.mem_of_getElem? (i := 19) rfl)) rfl
theorem kC_X2_isOut : Cond.code yX2_isOut cX2_isOut 2 (some .boolean) ∈ big := bg (kT3 (List.mem_of_getElem? (i := 20) rfl)) rfl
theorem km_X6_139 : Cond.methodLink RX6 139 yX2_isBad ∈ big := bg (kT3 (List.mem_of_getElem? (i := 21) rfl)) rfl
theorem km_L_99 : Cond.methodLink RL 99 yX6_feed ∈ big := bg (kT3 (List.mem_of_getElem? (i := 22) rfl)) rfl
theorem kI_X6_feed : Cond.instanceMethod yX6_feed ∈ big := bg (kT3 (List.mem_of_getElem? (i := 23) rfl)) rfl
theorem kS_X6_feed : Cond.selects RX6 yX6_feed yX6_feed ∈ big := bg (kT3 (List.mem_of_getElem? (i := 24) rfl)) rfl
theorem kC_X6_feed : Cond.code yX6_feed cX6_feed 6 (some .int) ∈ big := bg (kT3 (List.mem_of_getElem? (i := 25) rfl)) rfl
theorem km_X6_142 : Cond.methodLink RX6 142 yX3_size ∈ big := bg (kT3 (List.mem_of_getElem? (i := 26) rfl)) rfl
theorem kI_X3_size : Cond.instanceMethod yX3_size ∈ big := bg (kT3 (List.mem_of_getElem? (i := 27) rfl)) rfl
theorem kS_X3_size : Cond.selects RX3 yX3_size yX3_size ∈ big := bg (kT3 (List.mem_of_getElem? (i := 28) rfl)) rfl
theorem kC_X3_size : Cond.code yX3_size cX3_size 1 (some .int) ∈ big := bg (kT3 (List.mem_of_getElem? (i := 29) rfl)) rfl
theorem km_X6_145 : Cond.methodLink RX6 145 yX3_addWord ∈ big := bg (kT3 (List.mem_of_getElem? (i := 30) rfl)) rfl
theorem kI_X3_addWord : Cond.instanceMethod yX3_addWord ∈ big := bg (kT3 (List.mem_of_getElem? (i := 31) rfl)) rfl
theorem kS_X3_addWord : Cond.selects RX3 yX3_addWord yX3_addWord ∈ big := bg (kT3 (List.mem_of_getElem? (i := 32) rfl)) rfl
theorem kC_X3_addWord : Cond.code yX3_addWord cX3_addWord 3 none ∈ big := bg (kT3 (List.mem_of_getElem? (i := 33) rfl)) rfl
theorem km_L_104 : Cond.methodLink RL 104 yX6_end ∈ big := bg (kT3 (List.mem_of_getElem? (i := 34) rfl)) rfl
theorem kI_X6_end : Cond.instanceMethod yX6_end ∈ big := bg (kT3 (List.mem_of_getElem? (i := 35) rfl)) rfl
theorem kS_X6_end : Cond.selects RX6 yX6_end yX6_end ∈ big := bg (kT3 (List.mem_of_getElem? (i := 36) rfl)) rfl
theorem kC_X6_end : Cond.code yX6_end cX6_end 2 (some .int) ∈ big := bg (kT3 (List.mem_of_getElem? (i := 37) rfl)) rfl
theorem km_X6_148 : Cond.methodLink RX6 148 yX3_cutTo ∈ big := bg (kT3 (List.mem_of_getElem? (i := 38) rfl)) rfl
theorem kI_X3_cutTo : Cond.instanceMethod yX3_cutTo ∈ big := bg (kT3 (List.mem_of_getElem? (i := 39) rfl)) rfl
theorem kS_X3_cutTo : Cond.selects RX3 yX3_cutTo yX3_cutTo ∈ big := bg (kT3 (List.mem_of_getElem? (i := 40) rfl)) rfl
theorem kC_X3_cutTo : Cond.code yX3_cutTo cX3_cutTo 2 none ∈ big := bg (kT3 (List.mem_of_getElem? (i := 41) rfl)) rfl
theorem km_L_108 : Cond.methodLink RL 108 yX6_tolls ∈ big := bg (kT3 (List.mem_of_getElem? (i := 42) rfl)) rfl
theorem kI_X6_tolls : Cond.instanceMethod yX6_tolls ∈ big := bg (kT3 (List.mem_of_getElem? (i := 43) rfl)) rfl
theorem kS_X6_tolls : Cond.selects RX6 yX6_tolls yX6_tolls ∈ big := bg (kT3 (List.mem_of_getElem? (i := 44) rfl)) rfl
theorem kC_X6_tolls : Cond.code yX6_tolls cX6_tolls 2 (some .int) ∈ big := bg (kT3 (List.mem_of_getElem? (i := 45) rfl)) rfl
theorem km_X6_151 : Cond.methodLink RX6 151 yX5_read ∈ big := bg (kT3 (List.mem_of_getElem? (i := 46) rfl)) rfl
theorem kI_X5_read : Cond.instanceMethod yX5_read ∈ big := bg (kT3 (List.mem_of_getElem? (i := 47) rfl)) rfl
theorem kS_X5_read : Cond.selects RX5 yX5_read yX5_read ∈ big := bg (kT3 (List.mem_of_getElem? (i := 48) rfl)) rfl
theorem kC_X5_read : Cond.code yX5_read cX5_read 4 (some .boolean) ∈ big := bg (kT3 (List.mem_of_getElem? (i := 49) rfl)) rfl
theorem km_X5_34 : Cond.methodLink RX5 34 yX5_begin ∈ big := bg (kT3 (List.mem_of_getElem? (i := 50) rfl)) rfl
theorem kI_X5_begin : Cond.instanceMethod yX5_begin ∈ big := bg (kT3 (List.mem_of_getElem? (i := 52) rfl)) rfl
theorem kC_X5_begin : Cond.code yX5_begin cX5_begin 1 none ∈ big := bg (kT3 (List.mem_of_getElem? (i := 53) rfl)) rfl
theorem km_X5_59 : Cond.methodLink RX5 59 yJ7_fill_53178 ∈ big := bg (kT3 (List.mem_of_getElem? (i := 54) rfl)) rfl
theorem km_X5_37 : Cond.methodLink RX5 37 yX3_size ∈ big := bg (kT3 (List.mem_of_getElem? (i := 55) rfl)) rfl
theorem km_X5_43 : Cond.methodLink RX5 43 yX5_nextToken ∈ big := bg (kT3 (List.mem_of_getElem? (i := 56) rfl)) rfl
theorem kI_X5_nextToken : Cond.instanceMethod yX5_nextToken ∈ big := bg (kT3 (List.mem_of_getElem? (i := 58) rfl)) rfl
theorem kC_X5_nextToken : Cond.code yX5_nextToken cX5_nextToken 3 none ∈ big := bg (kT3 (List.mem_of_getElem? (i := 59) rfl)) rfl
theorem km_X5_68 : Cond.methodLink RX5 68 yX3_byteAt ∈ big := bg (kT3 (List.mem_of_getElem? (i := 60) rfl)) rfl
theorem kI_X3_byteAt : Cond.instanceMethod yX3_byteAt ∈ big := bg (kT3 (List.mem_of_getElem? (i := 61) rfl)) rfl
theorem kS_X3_byteAt : Cond.selects RX3 yX3_byteAt yX3_byteAt ∈ big := bg (kT3 (List.mem_of_getElem? (i := 62) rfl)) rfl
theorem kC_X3_byteAt : Cond.code yX3_byteAt cX3_byteAt 2 (some .int) ∈ big := bg (kT3 (List.mem_of_getElem? (i := 63) rfl)) rfl
theorem kN_X3_19 : Cond.methodLinkNest RX3 19 yX6_within "BoatBridge" ∈ lw_tbl := kT3 (List.mem_of_getElem? (i := 64) rfl)
theorem km_X5_72 : Cond.methodLink RX5 72 yX5_isDigit ∈ big := bg (kT3 (List.mem_of_getElem? (i := 65) rfl)) rfl
theorem kt_X5_isDigit : Cond.static yX5_isDigit ∈ big := bg (kT3 (List.mem_of_getElem? (i := 66) rfl)) rfl
theorem kC_X5_isDigit : Cond.code yX5_isDigit cX5_isDigit 1 (some .boolean) ∈ big := bg (kT3 (List.mem_of_getElem? (i := 67) rfl)) rfl
theorem kN_X5_123 : Cond.methodLinkNest RX5 123 yX6_within "BoatBridge" ∈ lw_tbl := kT3 (List.mem_of_getElem? (i := 68) rfl)
theorem km_X5_76 : Cond.methodLink RX5 76 yX5_takeDigits ∈ big := bg (kT3 (List.mem_of_getElem? (i := 69) rfl)) rfl
theorem kI_X5_takeDigits : Cond.instanceMethod yX5_takeDigits ∈ big := bg (kT3 (List.mem_of_getElem? (i := 71) rfl)) rfl
theorem kC_X5_takeDigits : Cond.code yX5_takeDigits cX5_takeDigits 3 none ∈ big := bg (kT3 (List.mem_of_getElem? (i := 72) rfl)) rfl
theorem km_X5_88 : Cond.methodLink RX5 88 Lib.Math.min.name ∈ big := bg (kT3 (List.mem_of_getElem? (i := 73) rfl)) rfl
theorem km_X5_79 : Cond.methodLink RX5 79 yX5_isLetter ∈ big := bg (kT3 (List.mem_of_getElem? (i := 74) rfl)) rfl
theorem kt_X5_isLetter : Cond.static yX5_isLetter ∈ big := bg (kT3 (List.mem_of_getElem? (i := 75) rfl)) rfl
theorem kC_X5_isLetter : Cond.code yX5_isLetter cX5_isLetter 1 (some .boolean) ∈ big := bg (kT3 (List.mem_of_getElem? (i := 76) rfl)) rfl
theorem km_X5_82 : Cond.methodLink RX5 82 yX5_takeLetters ∈ big := bg (kT3 (List.mem_of_getElem? (i := 77) rfl)) rfl
theorem kI_X5_takeLetters : Cond.instanceMethod yX5_takeLetters ∈ big := bg (kT3 (List.mem_of_getElem? (i := 79) rfl)) rfl
theorem kC_X5_takeLetters : Cond.code yX5_takeLetters cX5_takeLetters 2 none ∈ big := bg (kT3 (List.mem_of_getElem? (i := 80) rfl)) rfl
theorem kR_X5_91 : Cond.stringRef RX5 91 "toll" ∈ lw_tbl := kT3 (List.mem_of_getElem? (i := 81) rfl)
theorem km_X5_93 : Cond.methodLink RX5 93 yX5_tokenIs ∈ big := bg (kT3 (List.mem_of_getElem? (i := 82) rfl)) rfl
theorem kI_X5_tokenIs : Cond.instanceMethod yX5_tokenIs ∈ big := bg (kT3 (List.mem_of_getElem? (i := 84) rfl)) rfl
theorem kC_X5_tokenIs : Cond.code yX5_tokenIs cX5_tokenIs 4 (some .boolean) ∈ big := bg (kT3 (List.mem_of_getElem? (i := 85) rfl)) rfl
theorem km_X5_99 : Cond.methodLink RX5 99 yJ0_length_8abf5 ∈ big := bg (kT3 (List.mem_of_getElem? (i := 86) rfl)) rfl
theorem kI_J0_length_8abf5 : Cond.instanceMethod yJ0_length_8abf5 ∈ big := bg (kT3 (List.mem_of_getElem? (i := 87) rfl)) rfl
theorem kS_J0_length_8abf5 : Cond.selects RJ0 yJ0_length_8abf5 yJ0_length_8abf5 ∈ big := bg (kT3 (List.mem_of_getElem? (i := 88) rfl)) rfl
theorem kC_J0_length_8abf5 : Cond.code yJ0_length_8abf5 cJ0_length_8abf5 1 (some .int) ∈ big := bg (kT3 (List.mem_of_getElem? (i := 89) rfl)) rfl
theorem km_J0_335 : Cond.methodLink RJ0 335 yJ0_coder_7d493 ∈ big := bg (kT3 (List.mem_of_getElem? (i := 90) rfl)) rfl
theorem kI_J0_coder_7d493 : Cond.instanceMethod yJ0_coder_7d493 ∈ big := bg (kT3 (List.mem_of_getElem? (i := 91) rfl)) rfl
theorem kS_J0_coder_7d493 : Cond.selects RJ0 yJ0_coder_7d493 yJ0_coder_7d493 ∈ big := bg (kT3 (List.mem_of_getElem? (i := 92) rfl)) rfl
theorem kC_J0_coder_7d493 : Cond.code yJ0_coder_7d493 cJ0_coder_7d493 1 (some .byte) ∈ big := bg (kT3 (List.mem_of_getElem? (i := 93) rfl)) rfl
theorem kf_J0_38 : Cond.fieldLink RJ0 38 "java/lang/String" "COMPACT_STRINGS" "Z" ∈ big := bg (kT3 (List.mem_of_getElem? (i := 94) rfl)) rfl
theorem kZ_J0_COMPACT_STRINGS : Cond.laysStatic "java/lang/String" "COMPACT_STRINGS" "Z" ∈ lw_tbl := kT3 (List.mem_of_getElem? (i := 95) rfl)
theorem km_X5_104 : Cond.methodLink RX5 104 yJ0_charAt_5068e ∈ big := bg (kT3 (List.mem_of_getElem? (i := 96) rfl)) rfl
theorem kI_J0_charAt_5068e : Cond.instanceMethod yJ0_charAt_5068e ∈ big := bg (kT3 (List.mem_of_getElem? (i := 97) rfl)) rfl
theorem kS_J0_charAt_5068e : Cond.selects RJ0 yJ0_charAt_5068e yJ0_charAt_5068e ∈ big := bg (kT3 (List.mem_of_getElem? (i := 98) rfl)) rfl
theorem kC_J0_charAt_5068e : Cond.code yJ0_charAt_5068e cJ0_charAt_5068e 2 (some .char) ∈ big := bg (kT3 (List.mem_of_getElem? (i := 99) rfl)) rfl
theorem km_J0_492 : Cond.methodLink RJ0 492 yJ0_isLatin1_aae02 ∈ big := bg (kT3 (List.mem_of_getElem? (i := 100) rfl)) rfl
theorem kI_J0_isLatin1_aae02 : Cond.instanceMethod yJ0_isLatin1_aae02 ∈ big := bg (kT3 (List.mem_of_getElem? (i := 101) rfl)) rfl
theorem kS_J0_isLatin1_aae02 : Cond.selects RJ0 yJ0_isLatin1_aae02 yJ0_isLatin1_aae02 ∈ big := bg (kT3 (List.mem_of_getElem? (i := 102) rfl)) rfl
theorem kC_J0_isLatin1_aae02 : Cond.code yJ0_isLatin1_aae02 cJ0_isLatin1_aae02 1 (some .boolean) ∈ big := bg (kT3 (List.mem_of_getElem? (i := 103) rfl)) rfl
theorem km_J0_495 : Cond.methodLink RJ0 495 yJ1_charAt_3b067 ∈ big := bg (kT3 (List.mem_of_getElem? (i := 104) rfl)) rfl
theorem kt_J1_charAt_3b067 : Cond.static yJ1_charAt_3b067 ∈ big := bg (kT3 (List.mem_of_getElem? (i := 105) rfl)) rfl
theorem kC_J1_charAt_3b067 : Cond.code yJ1_charAt_3b067 cJ1_charAt_3b067 2 (some .char) ∈ big := bg (kT3 (List.mem_of_getElem? (i := 106) rfl)) rfl
theorem km_J1_9 : Cond.methodLink RJ1 9 yJ0_checkIndex_df160 ∈ big := bg (kT3 (List.mem_of_getElem? (i := 107) rfl)) rfl
theorem kt_J0_checkIndex_df160 : Cond.static yJ0_checkIndex_df160 ∈ big := bg (kT3 (List.mem_of_getElem? (i := 108) rfl)) rfl
theorem kC_J0_checkIndex_df160 : Cond.code yJ0_checkIndex_df160 cJ0_checkIndex_df160 2 none ∈ big := bg (kT3 (List.mem_of_getElem? (i := 109) rfl)) rfl
theorem kf_J0_1053 : Cond.fieldLink RJ0 1053 "jdk/internal/util/Preconditions" "SIOOBE_FORMATTER" "Ljava/util/function/BiFunction;" ∈ big := bg (kT3 (List.mem_of_getElem? (i := 110) rfl)) rfl
theorem kZ_J3_SIOOBE_FORMATTER : Cond.laysStatic "jdk/internal/util/Preconditions" "SIOOBE_FORMATTER" "Ljava/util/function/BiFunction;" ∈ lw_tbl := kT3 (List.mem_of_getElem? (i := 111) rfl)
theorem km_J0_1059 : Cond.methodLink RJ0 1059 yJ3_checkIndex_8e157 ∈ big := bg (kT3 (List.mem_of_getElem? (i := 112) rfl)) rfl
theorem kt_J3_checkIndex_8e157 : Cond.static yJ3_checkIndex_8e157 ∈ big := bg (kT3 (List.mem_of_getElem? (i := 113) rfl)) rfl
theorem kC_J3_checkIndex_8e157 : Cond.code yJ3_checkIndex_8e157 cJ3_checkIndex_8e157 3 (some .int) ∈ big := bg (kT3 (List.mem_of_getElem? (i := 114) rfl)) rfl
theorem km_J0_498 : Cond.methodLink RJ0 498 yJ2_charAt_3b067 ∈ big := bg (kT3 (List.mem_of_getElem? (i := 115) rfl)) rfl
theorem kt_J2_charAt_3b067 : Cond.static yJ2_charAt_3b067 ∈ big := bg (kT3 (List.mem_of_getElem? (i := 116) rfl)) rfl
theorem kC_J2_charAt_3b067 : Cond.code yJ2_charAt_3b067 cJ2_charAt_3b067 2 (some .char) ∈ big := bg (kT3 (List.mem_of_getElem? (i := 117) rfl)) rfl
theorem km_J2_67 : Cond.methodLink RJ2 67 yJ2_checkIndex_2214a ∈ big := bg (kT3 (List.mem_of_getElem? (i := 118) rfl)) rfl
theorem kt_J2_checkIndex_2214a : Cond.static yJ2_checkIndex_2214a ∈ big := bg (kT3 (List.mem_of_getElem? (i := 119) rfl)) rfl
theorem kC_J2_checkIndex_2214a : Cond.code yJ2_checkIndex_2214a cJ2_checkIndex_2214a 2 none ∈ big := bg (kT3 (List.mem_of_getElem? (i := 120) rfl)) rfl
theorem km_J2_48 : Cond.methodLink RJ2 48 yJ2_length_9d52b ∈ big := bg (kT3 (List.mem_of_getElem? (i := 121) rfl)) rfl
theorem kt_J2_length_9d52b : Cond.static yJ2_length_9d52b ∈ big := bg (kT3 (List.mem_of_getElem? (i := 122) rfl)) rfl
theorem kC_J2_length_9d52b : Cond.code yJ2_length_9d52b cJ2_length_9d52b 1 (some .int) ∈ big := bg (kT3 (List.mem_of_getElem? (i := 123) rfl)) rfl
theorem km_J2_414 : Cond.methodLink RJ2 414 yJ0_checkIndex_df160 ∈ big := bg (kT3 (List.mem_of_getElem? (i := 124) rfl)) rfl
theorem km_J2_71 : Cond.methodLink RJ2 71 yJ2_getChar_3b067 ∈ big := bg (kT3 (List.mem_of_getElem? (i := 125) rfl)) rfl
theorem kt_J2_getChar_3b067 : Cond.static yJ2_getChar_3b067 ∈ big := bg (kT3 (List.mem_of_getElem? (i := 126) rfl)) rfl
theorem kC_J2_getChar_3b067 : Cond.code yJ2_getChar_3b067 cJ2_getChar_3b067 2 (some .char) ∈ big := bg (kT3 (List.mem_of_getElem? (i := 127) rfl)) rfl
theorem kf_J2_44 : Cond.fieldLink RJ2 44 "java/lang/StringUTF16" "$assertionsDisabled" "Z" ∈ big := bg (kT3 (List.mem_of_getElem? (i := 128) rfl)) rfl
theorem kZ_J2_assertionsDisabled : Cond.laysStatic "java/lang/StringUTF16" "$assertionsDisabled" "Z" ∈ lw_tbl := kT3 (List.mem_of_getElem? (i := 129) rfl)
theorem kf_J2_59 : Cond.fieldLink RJ2 59 "java/lang/StringUTF16" "HI_BYTE_SHIFT" "I" ∈ big := bg (kT3 (List.mem_of_getElem? (i := 130) rfl)) rfl
theorem kZ_J2_HI_BYTE_SHIFT : Cond.laysStatic "java/lang/StringUTF16" "HI_BYTE_SHIFT" "I" ∈ lw_tbl := kT3 (List.mem_of_getElem? (i := 131) rfl)
theorem kf_J2_63 : Cond.fieldLink RJ2 63 "java/lang/StringUTF16" "LO_BYTE_SHIFT" "I" ∈ big := bg (kT3 (List.mem_of_getElem? (i := 132) rfl)) rfl
theorem kZ_J2_LO_BYTE_SHIFT : Cond.laysStatic "java/lang/StringUTF16" "LO_BYTE_SHIFT" "I" ∈ lw_tbl := kT3 (List.mem_of_getElem? (i := 133) rfl)
theorem kR_X5_97 : Cond.stringRef RX5 97 "again" ∈ lw_tbl := kT3 (List.mem_of_getElem? (i := 134) rfl)
theorem km_X5_53 : Cond.methodLink RX5 53 yX5_takeToken ∈ big := bg (kT3 (List.mem_of_getElem? (i := 135) rfl)) rfl
theorem kI_X5_takeToken : Cond.instanceMethod yX5_takeToken ∈ big := bg (kT3 (List.mem_of_getElem? (i := 137) rfl)) rfl
theorem kC_X5_takeToken : Cond.code yX5_takeToken cX5_takeToken 1 (some .int) ∈ big := bg (kT3 (List.mem_of_getElem? (i := 138) rfl)) rfl
theorem km_X5_108 : Cond.methodLink RX5 108 yX5_takeClauseWord ∈ big := bg (kT3 (List.mem_of_getElem? (i := 139) rfl)) rfl
theorem kI_X5_takeClauseWord : Cond.instanceMethod yX5_takeClauseWord ∈ big := bg (kT3 (List.mem_of_getElem? (i := 141) rfl)) rfl
theorem kC_X5_takeClauseWord : Cond.code yX5_takeClauseWord cX5_takeClauseWord 1 (some .int) ∈ big := bg (kT3 (List.mem_of_getElem? (i := 142) rfl)) rfl
theorem km_X5_111 : Cond.methodLink RX5 111 yX5_takeKind ∈ big := bg (kT3 (List.mem_of_getElem? (i := 143) rfl)) rfl
theorem kI_X5_takeKind : Cond.instanceMethod yX5_takeKind ∈ big := bg (kT3 (List.mem_of_getElem? (i := 145) rfl)) rfl
theorem kC_X5_takeKind : Cond.code yX5_takeKind cX5_takeKind 1 (some .int) ∈ big := bg (kT3 (List.mem_of_getElem? (i := 146) rfl)) rfl
theorem km_X5_127 : Cond.methodLink RX5 127 yX5_clauseRow ∈ big := bg (kT3 (List.mem_of_getElem? (i := 147) rfl)) rfl
theorem kI_X5_clauseRow : Cond.instanceMethod yX5_clauseRow ∈ big := bg (kT3 (List.mem_of_getElem? (i := 149) rfl)) rfl
theorem kC_X5_clauseRow : Cond.code yX5_clauseRow cX5_clauseRow 1 (some (.array .int)) ∈ big := bg (kT3 (List.mem_of_getElem? (i := 150) rfl)) rfl
theorem km_X5_114 : Cond.methodLink RX5 114 yX5_takeAmount ∈ big := bg (kT3 (List.mem_of_getElem? (i := 151) rfl)) rfl
theorem kI_X5_takeAmount : Cond.instanceMethod yX5_takeAmount ∈ big := bg (kT3 (List.mem_of_getElem? (i := 153) rfl)) rfl
theorem kC_X5_takeAmount : Cond.code yX5_takeAmount cX5_takeAmount 2 (some .int) ∈ big := bg (kT3 (List.mem_of_getElem? (i := 154) rfl)) rfl
theorem km_X5_117 : Cond.methodLink RX5 117 yX5_takeSemicolon ∈ big := bg (kT3 (List.mem_of_getElem? (i := 155) rfl)) rfl
theorem kI_X5_takeSemicolon : Cond.instanceMethod yX5_takeSemicolon ∈ big := bg (kT3 (List.mem_of_getElem? (i := 157) rfl)) rfl
theorem kC_X5_takeSemicolon : Cond.code yX5_takeSemicolon cX5_takeSemicolon 1 (some .int) ∈ big := bg (kT3 (List.mem_of_getElem? (i := 158) rfl)) rfl
theorem km_X6_155 : Cond.methodLink RX6 155 yX4_adopt ∈ big := bg (kT3 (List.mem_of_getElem? (i := 159) rfl)) rfl
theorem kI_X4_adopt : Cond.instanceMethod yX4_adopt ∈ big := bg (kT3 (List.mem_of_getElem? (i := 160) rfl)) rfl
theorem kS_X4_adopt : Cond.selects RX4 yX4_adopt yX4_adopt ∈ big := bg (kT3 (List.mem_of_getElem? (i := 161) rfl)) rfl
theorem kC_X4_adopt : Cond.code yX4_adopt cX4_adopt 3 none ∈ big := bg (kT3 (List.mem_of_getElem? (i := 162) rfl)) rfl
theorem km_X4_37 : Cond.methodLink RX4 37 yX5_readToll ∈ big := bg (kT3 (List.mem_of_getElem? (i := 163) rfl)) rfl
theorem kI_X5_readToll : Cond.instanceMethod yX5_readToll ∈ big := bg (kT3 (List.mem_of_getElem? (i := 164) rfl)) rfl
theorem kS_X5_readToll : Cond.selects RX5 yX5_readToll yX5_readToll ∈ big := bg (kT3 (List.mem_of_getElem? (i := 165) rfl)) rfl
theorem kC_X5_readToll : Cond.code yX5_readToll cX5_readToll 2 (some .int) ∈ big := bg (kT3 (List.mem_of_getElem? (i := 166) rfl)) rfl
theorem km_X5_28 : Cond.methodLink RX5 28 Lib.Math.max.name ∈ big := bg (kT3 (List.mem_of_getElem? (i := 167) rfl)) rfl
theorem km_X4_43 : Cond.methodLink RX4 43 yX5_readAgain ∈ big := bg (kT3 (List.mem_of_getElem? (i := 168) rfl)) rfl
theorem kI_X5_readAgain : Cond.instanceMethod yX5_readAgain ∈ big := bg (kT3 (List.mem_of_getElem? (i := 169) rfl)) rfl
theorem kS_X5_readAgain : Cond.selects RX5 yX5_readAgain yX5_readAgain ∈ big := bg (kT3 (List.mem_of_getElem? (i := 170) rfl)) rfl
theorem kC_X5_readAgain : Cond.code yX5_readAgain cX5_readAgain 2 (some .int) ∈ big := bg (kT3 (List.mem_of_getElem? (i := 171) rfl)) rfl
theorem km_X6_159 : Cond.methodLink RX6 159 yX5_clauseCount ∈ big := bg (kT3 (List.mem_of_getElem? (i := 172) rfl)) rfl
theorem kI_X5_clauseCount : Cond.instanceMethod yX5_clauseCount ∈ big := bg (kT3 (List.mem_of_getElem? (i := 173) rfl)) rfl
theorem kS_X5_clauseCount : Cond.selects RX5 yX5_clauseCount yX5_clauseCount ∈ big := bg (kT3 (List.mem_of_getElem? (i := 174) rfl)) rfl
theorem kC_X5_clauseCount : Cond.code yX5_clauseCount cX5_clauseCount 1 (some .int) ∈ big := bg (kT3 (List.mem_of_getElem? (i := 175) rfl)) rfl
theorem km_L_112 : Cond.methodLink RL 112 yX6_fault ∈ big := bg (kT3 (List.mem_of_getElem? (i := 176) rfl)) rfl
theorem kI_X6_fault : Cond.instanceMethod yX6_fault ∈ big := bg (kT3 (List.mem_of_getElem? (i := 177) rfl)) rfl
theorem kS_X6_fault : Cond.selects RX6 yX6_fault yX6_fault ∈ big := bg (kT3 (List.mem_of_getElem? (i := 178) rfl)) rfl
theorem kC_X6_fault : Cond.code yX6_fault cX6_fault 2 (some .int) ∈ big := bg (kT3 (List.mem_of_getElem? (i := 179) rfl)) rfl
theorem km_X6_162 : Cond.methodLink RX6 162 yX5_faultNumber ∈ big := bg (kT3 (List.mem_of_getElem? (i := 180) rfl)) rfl
theorem kI_X5_faultNumber : Cond.instanceMethod yX5_faultNumber ∈ big := bg (kT3 (List.mem_of_getElem? (i := 181) rfl)) rfl
theorem kS_X5_faultNumber : Cond.selects RX5 yX5_faultNumber yX5_faultNumber ∈ big := bg (kT3 (List.mem_of_getElem? (i := 182) rfl)) rfl
theorem kC_X5_faultNumber : Cond.code yX5_faultNumber cX5_faultNumber 1 (some .int) ∈ big := bg (kT3 (List.mem_of_getElem? (i := 183) rfl)) rfl
theorem km_X6_165 : Cond.methodLink RX6 165 yX5_faultAt ∈ big := bg (kT3 (List.mem_of_getElem? (i := 184) rfl)) rfl
theorem kI_X5_faultAt : Cond.instanceMethod yX5_faultAt ∈ big := bg (kT3 (List.mem_of_getElem? (i := 185) rfl)) rfl
theorem kS_X5_faultAt : Cond.selects RX5 yX5_faultAt yX5_faultAt ∈ big := bg (kT3 (List.mem_of_getElem? (i := 186) rfl)) rfl
theorem kC_X5_faultAt : Cond.code yX5_faultAt cX5_faultAt 1 (some .int) ∈ big := bg (kT3 (List.mem_of_getElem? (i := 187) rfl)) rfl
theorem km_L_116 : Cond.methodLink RL 116 yX6_pass ∈ big := bg (kT3 (List.mem_of_getElem? (i := 188) rfl)) rfl
theorem kI_X6_pass : Cond.instanceMethod yX6_pass ∈ big := bg (kT3 (List.mem_of_getElem? (i := 189) rfl)) rfl
theorem kS_X6_pass : Cond.selects RX6 yX6_pass yX6_pass ∈ big := bg (kT3 (List.mem_of_getElem? (i := 190) rfl)) rfl
theorem kC_X6_pass : Cond.code yX6_pass cX6_pass 4 (some .int) ∈ big := bg (kT3 (List.mem_of_getElem? (i := 191) rfl)) rfl
theorem km_X6_168 : Cond.methodLink RX6 168 yX4_latestMinute ∈ big := bg (kT3 (List.mem_of_getElem? (i := 192) rfl)) rfl
theorem kI_X4_latestMinute : Cond.instanceMethod yX4_latestMinute ∈ big := bg (kT3 (List.mem_of_getElem? (i := 193) rfl)) rfl
theorem kS_X4_latestMinute : Cond.selects RX4 yX4_latestMinute yX4_latestMinute ∈ big := bg (kT3 (List.mem_of_getElem? (i := 194) rfl)) rfl
theorem kC_X4_latestMinute : Cond.code yX4_latestMinute cX4_latestMinute 1 (some .int) ∈ big := bg (kT3 (List.mem_of_getElem? (i := 195) rfl)) rfl
theorem km_X6_171 : Cond.methodLink RX6 171 yX4_charge ∈ big := bg (kT3 (List.mem_of_getElem? (i := 196) rfl)) rfl
theorem kI_X4_charge : Cond.instanceMethod yX4_charge ∈ big := bg (kT3 (List.mem_of_getElem? (i := 197) rfl)) rfl
theorem kS_X4_charge : Cond.selects RX4 yX4_charge yX4_charge ∈ big := bg (kT3 (List.mem_of_getElem? (i := 198) rfl)) rfl
theorem kC_X4_charge : Cond.code yX4_charge cX4_charge 5 (some .int) ∈ big := bg (kT3 (List.mem_of_getElem? (i := 199) rfl)) rfl
theorem km_X4_46 : Cond.methodLink RX4 46 yX4_goesFree ∈ big := bg (kT3 (List.mem_of_getElem? (i := 200) rfl)) rfl
theorem kI_X4_goesFree : Cond.instanceMethod yX4_goesFree ∈ big := bg (kT3 (List.mem_of_getElem? (i := 202) rfl)) rfl
theorem kC_X4_goesFree : Cond.code yX4_goesFree cX4_goesFree 4 (some .boolean) ∈ big := bg (kT3 (List.mem_of_getElem? (i := 203) rfl)) rfl
theorem km_L_121 : Cond.methodLink RL 121 yX6_about ∈ big := bg (kT3 (List.mem_of_getElem? (i := 204) rfl)) rfl
theorem kI_X6_about : Cond.instanceMethod yX6_about ∈ big := bg (kT3 (List.mem_of_getElem? (i := 205) rfl)) rfl
theorem kS_X6_about : Cond.selects RX6 yX6_about yX6_about ∈ big := bg (kT3 (List.mem_of_getElem? (i := 206) rfl)) rfl
theorem kC_X6_about : Cond.code yX6_about cX6_about 2 (some .int) ∈ big := bg (kT3 (List.mem_of_getElem? (i := 207) rfl)) rfl
theorem km_X6_175 : Cond.methodLink RX6 175 yX4_tollOf ∈ big := bg (kT3 (List.mem_of_getElem? (i := 208) rfl)) rfl
theorem kI_X4_tollOf : Cond.instanceMethod yX4_tollOf ∈ big := bg (kT3 (List.mem_of_getElem? (i := 209) rfl)) rfl
theorem kS_X4_tollOf : Cond.selects RX4 yX4_tollOf yX4_tollOf ∈ big := bg (kT3 (List.mem_of_getElem? (i := 210) rfl)) rfl
theorem kC_X4_tollOf : Cond.code yX4_tollOf cX4_tollOf 2 (some .int) ∈ big := bg (kT3 (List.mem_of_getElem? (i := 211) rfl)) rfl
theorem km_X6_178 : Cond.methodLink RX6 178 yX4_againOf ∈ big := bg (kT3 (List.mem_of_getElem? (i := 212) rfl)) rfl
theorem kI_X4_againOf : Cond.instanceMethod yX4_againOf ∈ big := bg (kT3 (List.mem_of_getElem? (i := 213) rfl)) rfl
theorem kS_X4_againOf : Cond.selects RX4 yX4_againOf yX4_againOf ∈ big := bg (kT3 (List.mem_of_getElem? (i := 214) rfl)) rfl
theorem kC_X4_againOf : Cond.code yX4_againOf cX4_againOf 2 (some .int) ∈ big := bg (kT3 (List.mem_of_getElem? (i := 215) rfl)) rfl
theorem km_X6_181 : Cond.methodLink RX6 181 yX0_hullCount ∈ big := bg (kT3 (List.mem_of_getElem? (i := 216) rfl)) rfl
theorem kI_X0_hullCount : Cond.instanceMethod yX0_hullCount ∈ big := bg (kT3 (List.mem_of_getElem? (i := 217) rfl)) rfl
theorem kS_X0_hullCount : Cond.selects RX0 yX0_hullCount yX0_hullCount ∈ big := bg (kT3 (List.mem_of_getElem? (i := 218) rfl)) rfl
theorem kC_X0_hullCount : Cond.code yX0_hullCount cX0_hullCount 1 (some .int) ∈ big := bg (kT3 (List.mem_of_getElem? (i := 219) rfl)) rfl
theorem km_X6_184 : Cond.methodLink RX6 184 yX4_paidTogether ∈ big := bg (kT3 (List.mem_of_getElem? (i := 220) rfl)) rfl
theorem kI_X4_paidTogether : Cond.instanceMethod yX4_paidTogether ∈ big := bg (kT3 (List.mem_of_getElem? (i := 221) rfl)) rfl
theorem kS_X4_paidTogether : Cond.selects RX4 yX4_paidTogether yX4_paidTogether ∈ big := bg (kT3 (List.mem_of_getElem? (i := 222) rfl)) rfl
theorem kC_X4_paidTogether : Cond.code yX4_paidTogether cX4_paidTogether 1 (some .int) ∈ big := bg (kT3 (List.mem_of_getElem? (i := 223) rfl)) rfl
theorem km_X6_187 : Cond.methodLink RX6 187 yX4_wentFree ∈ big := bg (kT3 (List.mem_of_getElem? (i := 224) rfl)) rfl
theorem kI_X4_wentFree : Cond.instanceMethod yX4_wentFree ∈ big := bg (kT3 (List.mem_of_getElem? (i := 225) rfl)) rfl
theorem kS_X4_wentFree : Cond.selects RX4 yX4_wentFree yX4_wentFree ∈ big := bg (kT3 (List.mem_of_getElem? (i := 226) rfl)) rfl
theorem kC_X4_wentFree : Cond.code yX4_wentFree cX4_wentFree 1 (some .int) ∈ big := bg (kT3 (List.mem_of_getElem? (i := 227) rfl)) rfl
theorem km_L_9 : Cond.methodLink RL 9 yL_cell ∈ big := bg (kT3 (List.mem_of_getElem? (i := 228) rfl)) rfl
theorem kt_L_cell : Cond.static yL_cell ∈ big := bg (kT3 (List.mem_of_getElem? (i := 229) rfl)) rfl
theorem kC_L_cell : Cond.code yL_cell cL_cell 2 (some .int) ∈ big := bg (kT3 (List.mem_of_getElem? (i := 230) rfl)) rfl
theorem kq_L_18 : Cond.classLink RL 18 RX7 ∈ big := bg (kT3 (List.mem_of_getElem? (i := 231) rfl)) rfl
theorem kn_X7 : Cond.instantiable RX7 40 ∈ big := bg (kT3 (List.mem_of_getElem? (i := 232) rfl)) rfl
theorem km_L_20 : Cond.methodLink RL 20 yX7_init ∈ big := bg (kT3 (List.mem_of_getElem? (i := 233) rfl)) rfl
theorem kI_X7_init : Cond.instanceMethod yX7_init ∈ big := bg (kT3 (List.mem_of_getElem? (i := 234) rfl)) rfl
theorem kC_X7_init : Cond.code yX7_init cX7_init 3 none ∈ big := bg (kT3 (List.mem_of_getElem? (i := 235) rfl)) rfl
theorem km_X7_1 : Cond.methodLink RX7 1 objectInit ∈ big := bg (kT3 (List.mem_of_getElem? (i := 236) rfl)) rfl
theorem kf_X7_81 : Cond.fieldLink RX7 81 "BoatBridgeModel" "hulls" "I" ∈ big := bg (kT3 (List.mem_of_getElem? (i := 237) rfl)) rfl
theorem kf_X7_7 : Cond.fieldLink RX7 7 "BoatBridgeModel" "bears" "[I" ∈ big := bg (kT3 (List.mem_of_getElem? (i := 238) rfl)) rfl
theorem kf_X7_13 : Cond.fieldLink RX7 13 "BoatBridgeModel" "anchor" "[I" ∈ big := bg (kT3 (List.mem_of_getElem? (i := 239) rfl)) rfl
theorem kf_X7_16 : Cond.fieldLink RX7 16 "BoatBridgeModel" "pull" "[I" ∈ big := bg (kT4 (List.mem_of_getElem? (i := 0) rfl)) rfl
theorem kf_X7_98 : Cond.fieldLink RX7 98 "BoatBridgeModel" "carts" "I" ∈ big := bg (kT4 (List.mem_of_getElem? (i := 1) rfl)) rfl
theorem kf_X7_19 : Cond.fieldLink RX7 19 "BoatBridgeModel" "weight" "[I" ∈ big := bg (kT4 (List.mem_of_getElem? (i := 2) rfl)) rfl
theorem kf_X7_22 : Cond.fieldLink RX7 22 "BoatBridgeModel" "gap" "[I" ∈ big := bg (kT4 (List.mem_of_getElem? (i := 3) rfl)) rfl
theorem kf_X7_131 : Cond.fieldLink RX7 131 "BoatBridgeModel" "ships" "I" ∈ big := bg (kT4 (List.mem_of_getElem? (i := 4) rfl)) rfl
theorem kf_X7_25 : Cond.fieldLink RX7 25 "BoatBridgeModel" "comes" "[I" ∈ big := bg (kT4 (List.mem_of_getElem? (i := 5) rfl)) rfl
theorem kf_X7_134 : Cond.fieldLink RX7 134 "BoatBridgeModel" "crossers" "I" ∈ big := bg (kT4 (List.mem_of_getElem? (i := 6) rfl)) rfl
theorem kf_X7_28 : Cond.fieldLink RX7 28 "BoatBridgeModel" "crosses" "[I" ∈ big := bg (kT4 (List.mem_of_getElem? (i := 7) rfl)) rfl
theorem kf_X7_31 : Cond.fieldLink RX7 31 "BoatBridgeModel" "time" "[I" ∈ big := bg (kT4 (List.mem_of_getElem? (i := 8) rfl)) rfl
theorem kf_X7_34 : Cond.fieldLink RX7 34 "BoatBridgeModel" "low" "[I" ∈ big := bg (kT4 (List.mem_of_getElem? (i := 9) rfl)) rfl
theorem kf_X7_37 : Cond.fieldLink RX7 37 "BoatBridgeModel" "high" "[I" ∈ big := bg (kT4 (List.mem_of_getElem? (i := 10) rfl)) rfl
theorem kf_X7_40 : Cond.fieldLink RX7 40 "BoatBridgeModel" "mostLevel" "I" ∈ big := bg (kT4 (List.mem_of_getElem? (i := 11) rfl)) rfl
theorem kf_X7_44 : Cond.fieldLink RX7 44 "BoatBridgeModel" "lays" "I" ∈ big := bg (kT4 (List.mem_of_getElem? (i := 12) rfl)) rfl
theorem kf_X7_47 : Cond.fieldLink RX7 47 "BoatBridgeModel" "tape" "[B" ∈ big := bg (kT4 (List.mem_of_getElem? (i := 13) rfl)) rfl
theorem kf_X7_180 : Cond.fieldLink RX7 180 "BoatBridgeModel" "taped" "I" ∈ big := bg (kT4 (List.mem_of_getElem? (i := 14) rfl)) rfl
theorem kf_X7_198 : Cond.fieldLink RX7 198 "BoatBridgeModel" "at" "I" ∈ big := bg (kT4 (List.mem_of_getElem? (i := 15) rfl)) rfl
theorem kf_X7_201 : Cond.fieldLink RX7 201 "BoatBridgeModel" "token" "I" ∈ big := bg (kT4 (List.mem_of_getElem? (i := 16) rfl)) rfl
theorem kf_X7_204 : Cond.fieldLink RX7 204 "BoatBridgeModel" "sort" "I" ∈ big := bg (kT4 (List.mem_of_getElem? (i := 17) rfl)) rfl
theorem kf_X7_216 : Cond.fieldLink RX7 216 "BoatBridgeModel" "told" "I" ∈ big := bg (kT4 (List.mem_of_getElem? (i := 18) rfl)) rfl
theorem kf_X7_224 : Cond.fieldLink RX7 224 "BoatBridgeModel" "wrong" "I" ∈ big := bg (kT4 (List.mem_of_getElem? (i := 19) rfl)) rfl
theorem kf_X7_227 : Cond.fieldLink RX7 227 "BoatBridgeModel" "wrongAt" "I" ∈ big := bg (kT4 (List.mem_of_getElem? (i := 20) rfl)) rfl
theorem kf_X7_51 : Cond.fieldLink RX7 51 "BoatBridgeModel" "fault" "I" ∈ big := bg (kT4 (List.mem_of_getElem? (i := 21) rfl)) rfl
theorem kf_X7_54 : Cond.fieldLink RX7 54 "BoatBridgeModel" "faultAt" "I" ∈ big := bg (kT4 (List.mem_of_getElem? (i := 22) rfl)) rfl
theorem kf_X7_57 : Cond.fieldLink RX7 57 "BoatBridgeModel" "newToll" "[I" ∈ big := bg (kT4 (List.mem_of_getElem? (i := 23) rfl)) rfl
theorem kf_X7_60 : Cond.fieldLink RX7 60 "BoatBridgeModel" "newAgain" "[I" ∈ big := bg (kT4 (List.mem_of_getElem? (i := 24) rfl)) rfl
theorem kf_X7_63 : Cond.fieldLink RX7 63 "BoatBridgeModel" "toll" "[I" ∈ big := bg (kT4 (List.mem_of_getElem? (i := 25) rfl)) rfl
theorem kf_X7_66 : Cond.fieldLink RX7 66 "BoatBridgeModel" "again" "[I" ∈ big := bg (kT4 (List.mem_of_getElem? (i := 26) rfl)) rfl
theorem kf_X7_245 : Cond.fieldLink RX7 245 "BoatBridgeModel" "latest" "I" ∈ big := bg (kT4 (List.mem_of_getElem? (i := 27) rfl)) rfl
theorem kf_X7_253 : Cond.fieldLink RX7 253 "BoatBridgeModel" "paid" "I" ∈ big := bg (kT4 (List.mem_of_getElem? (i := 28) rfl)) rfl
theorem kf_X7_250 : Cond.fieldLink RX7 250 "BoatBridgeModel" "free" "I" ∈ big := bg (kT4 (List.mem_of_getElem? (i := 29) rfl)) rfl
theorem kf_X7_69 : Cond.fieldLink RX7 69 "BoatBridgeModel" "paidAt" "[I" ∈ big := bg (kT4 (List.mem_of_getElem? (i := 30) rfl)) rfl
theorem kf_X7_113 : Cond.fieldLink RX7 113 "BoatBridgeModel" "worstMargin" "I" ∈ big := bg (kT4 (List.mem_of_getElem? (i := 31) rfl)) rfl
theorem kf_X7_116 : Cond.fieldLink RX7 116 "BoatBridgeModel" "worstHull" "I" ∈ big := bg (kT4 (List.mem_of_getElem? (i := 32) rfl)) rfl
theorem kf_X7_119 : Cond.fieldLink RX7 119 "BoatBridgeModel" "worstStep" "I" ∈ big := bg (kT4 (List.mem_of_getElem? (i := 33) rfl)) rfl
theorem kf_X7_72 : Cond.fieldLink RX7 72 "BoatBridgeModel" "order" "[I" ∈ big := bg (kT4 (List.mem_of_getElem? (i := 34) rfl)) rfl
theorem kf_X7_75 : Cond.fieldLink RX7 75 "BoatBridgeModel" "least" "[I" ∈ big := bg (kT4 (List.mem_of_getElem? (i := 35) rfl)) rfl
theorem kf_X7_78 : Cond.fieldLink RX7 78 "BoatBridgeModel" "fewest" "[I" ∈ big := bg (kT4 (List.mem_of_getElem? (i := 36) rfl)) rfl
theorem km_L_25 : Cond.methodLink RL 25 yX7_hull ∈ big := bg (kT4 (List.mem_of_getElem? (i := 118) rfl)) rfl
theorem kI_X7_hull : Cond.instanceMethod yX7_hull ∈ big := bg (kT4 (List.mem_of_getElem? (i := 119) rfl)) rfl
theorem kS_X7_hull : Cond.selects RX7 yX7_hull yX7_hull ∈ big := bg (kT4 (List.mem_of_getElem? (i := 120) rfl)) rfl
theorem kC_X7_hull : Cond.code yX7_hull cX7_hull 4 (some .boolean) ∈ big := bg (kT4 (List.mem_of_getElem? (i := 121) rfl)) rfl
theorem km_X7_88 : Cond.methodLink RX7 88 yX7_isHull ∈ big := bg (kT4 (List.mem_of_getElem? (i := 122) rfl)) rfl
theorem kI_X7_isHull : Cond.instanceMethod yX7_isHull ∈ big := bg (kT4 (List.mem_of_getElem? (i := 124) rfl)) rfl
theorem kC_X7_isHull : Cond.code yX7_isHull cX7_isHull 2 (some .boolean) ∈ big := bg (kT4 (List.mem_of_getElem? (i := 125) rfl)) rfl
theorem km_X7_84 : Cond.methodLink RX7 84 yX7_in ∈ big := bg (kT4 (List.mem_of_getElem? (i := 126) rfl)) rfl
theorem kt_X7_in : Cond.static yX7_in ∈ big := bg (kT4 (List.mem_of_getElem? (i := 127) rfl)) rfl
theorem kC_X7_in : Cond.code yX7_in cX7_in 6 (some .boolean) ∈ big := bg (kT4 (List.mem_of_getElem? (i := 128) rfl)) rfl
theorem kc_X7_92 : Cond.constantLong RX7 92 (1000 : Int64) ∈ big := bg (kT4 (List.mem_of_getElem? (i := 129) rfl)) rfl
theorem km_L_30 : Cond.methodLink RL 30 yX7_pull ∈ big := bg (kT4 (List.mem_of_getElem? (i := 130) rfl)) rfl
theorem kI_X7_pull : Cond.instanceMethod yX7_pull ∈ big := bg (kT4 (List.mem_of_getElem? (i := 131) rfl)) rfl
theorem kS_X7_pull : Cond.selects RX7 yX7_pull yX7_pull ∈ big := bg (kT4 (List.mem_of_getElem? (i := 132) rfl)) rfl
theorem kC_X7_pull : Cond.code yX7_pull cX7_pull 3 (some .boolean) ∈ big := bg (kT4 (List.mem_of_getElem? (i := 133) rfl)) rfl
theorem kc_X7_94 : Cond.constantLong RX7 94 (9 : Int64) ∈ big := bg (kT4 (List.mem_of_getElem? (i := 134) rfl)) rfl
theorem km_L_35 : Cond.methodLink RL 35 yX7_drags ∈ big := bg (kT4 (List.mem_of_getElem? (i := 135) rfl)) rfl
theorem kI_X7_drags : Cond.instanceMethod yX7_drags ∈ big := bg (kT4 (List.mem_of_getElem? (i := 136) rfl)) rfl
theorem kS_X7_drags : Cond.selects RX7 yX7_drags yX7_drags ∈ big := bg (kT4 (List.mem_of_getElem? (i := 137) rfl)) rfl
theorem kC_X7_drags : Cond.code yX7_drags cX7_drags 4 (some .int) ∈ big := bg (kT4 (List.mem_of_getElem? (i := 138) rfl)) rfl
theorem km_L_40 : Cond.methodLink RL 40 yX7_cart ∈ big := bg (kT4 (List.mem_of_getElem? (i := 139) rfl)) rfl
theorem kI_X7_cart : Cond.instanceMethod yX7_cart ∈ big := bg (kT4 (List.mem_of_getElem? (i := 140) rfl)) rfl
theorem kS_X7_cart : Cond.selects RX7 yX7_cart yX7_cart ∈ big := bg (kT4 (List.mem_of_getElem? (i := 141) rfl)) rfl
theorem kC_X7_cart : Cond.code yX7_cart cX7_cart 3 (some .int) ∈ big := bg (kT4 (List.mem_of_getElem? (i := 142) rfl)) rfl
theorem kc_X7_96 : Cond.constantLong RX7 96 (400 : Int64) ∈ big := bg (kT4 (List.mem_of_getElem? (i := 143) rfl)) rfl
theorem kc_X7_101 : Cond.constantLong RX7 101 (12 : Int64) ∈ big := bg (kT4 (List.mem_of_getElem? (i := 144) rfl)) rfl
theorem km_L_45 : Cond.methodLink RL 45 yX7_clear ∈ big := bg (kT4 (List.mem_of_getElem? (i := 145) rfl)) rfl
theorem kI_X7_clear : Cond.instanceMethod yX7_clear ∈ big := bg (kT4 (List.mem_of_getElem? (i := 146) rfl)) rfl
theorem kS_X7_clear : Cond.selects RX7 yX7_clear yX7_clear ∈ big := bg (kT4 (List.mem_of_getElem? (i := 147) rfl)) rfl
theorem kC_X7_clear : Cond.code yX7_clear cX7_clear 2 (some .int) ∈ big := bg (kT4 (List.mem_of_getElem? (i := 148) rfl)) rfl
theorem km_L_49 : Cond.methodLink RL 49 yX7_pressed ∈ big := bg (kT4 (List.mem_of_getElem? (i := 149) rfl)) rfl
theorem kI_X7_pressed : Cond.instanceMethod yX7_pressed ∈ big := bg (kT4 (List.mem_of_getElem? (i := 150) rfl)) rfl
theorem kS_X7_pressed : Cond.selects RX7 yX7_pressed yX7_pressed ∈ big := bg (kT4 (List.mem_of_getElem? (i := 151) rfl)) rfl
theorem kC_X7_pressed : Cond.code yX7_pressed cX7_pressed 3 (some .int) ∈ big := bg (kT4 (List.mem_of_getElem? (i := 152) rfl)) rfl
theorem kc_X7_107 : Cond.constantLong RX7 107 (100 : Int64) ∈ big := bg (kT4 (List.mem_of_getElem? (i := 153) rfl)) rfl
theorem km_X7_109 : Cond.methodLink RX7 109 yX7_pressOn ∈ big := bg (kT4 (List.mem_of_getElem? (i := 154) rfl)) rfl
theorem kI_X7_pressOn : Cond.instanceMethod yX7_pressOn ∈ big := bg (kT4 (List.mem_of_getElem? (i := 156) rfl)) rfl
theorem kC_X7_pressOn : Cond.code yX7_pressOn cX7_pressOn 7 (some .int) ∈ big := bg (kT4 (List.mem_of_getElem? (i := 157) rfl)) rfl
theorem km_X7_103 : Cond.methodLink RX7 103 yX7_placeOf ∈ big := bg (kT4 (List.mem_of_getElem? (i := 158) rfl)) rfl
theorem kI_X7_placeOf : Cond.instanceMethod yX7_placeOf ∈ big := bg (kT4 (List.mem_of_getElem? (i := 160) rfl)) rfl
theorem kC_X7_placeOf : Cond.code yX7_placeOf cX7_placeOf 6 (some .int) ∈ big := bg (kT4 (List.mem_of_getElem? (i := 161) rfl)) rfl
theorem km_L_53 : Cond.methodLink RL 53 yX7_worst ∈ big := bg (kT4 (List.mem_of_getElem? (i := 162) rfl)) rfl
theorem kI_X7_worst : Cond.instanceMethod yX7_worst ∈ big := bg (kT4 (List.mem_of_getElem? (i := 163) rfl)) rfl
theorem kS_X7_worst : Cond.selects RX7 yX7_worst yX7_worst ∈ big := bg (kT4 (List.mem_of_getElem? (i := 164) rfl)) rfl
theorem kC_X7_worst : Cond.code yX7_worst cX7_worst 2 (some .int) ∈ big := bg (kT4 (List.mem_of_getElem? (i := 165) rfl)) rfl
theorem kc_X7_122 : Cond.constantLong RX7 122 (2 : Int64) ∈ big := bg (kT4 (List.mem_of_getElem? (i := 166) rfl)) rfl
theorem kc_X7_124 : Cond.constant RX7 124 (-100000) ∈ big := bg (kT4 (List.mem_of_getElem? (i := 167) rfl)) rfl
theorem km_X7_125 : Cond.methodLink RX7 125 yX7_looks ∈ big := bg (kT4 (List.mem_of_getElem? (i := 168) rfl)) rfl
theorem kI_X7_looks : Cond.instanceMethod yX7_looks ∈ big := bg (kT4 (List.mem_of_getElem? (i := 170) rfl)) rfl
theorem kC_X7_looks : Cond.code yX7_looks cX7_looks 5 none ∈ big := bg (kT4 (List.mem_of_getElem? (i := 171) rfl)) rfl
theorem kc_X7_112 : Cond.constant RX7 112 (100000000) ∈ big := bg (kT4 (List.mem_of_getElem? (i := 172) rfl)) rfl
theorem km_L_57 : Cond.methodLink RL 57 yX7_gap ∈ big := bg (kT4 (List.mem_of_getElem? (i := 173) rfl)) rfl
theorem kI_X7_gap : Cond.instanceMethod yX7_gap ∈ big := bg (kT4 (List.mem_of_getElem? (i := 174) rfl)) rfl
theorem kS_X7_gap : Cond.selects RX7 yX7_gap yX7_gap ∈ big := bg (kT4 (List.mem_of_getElem? (i := 175) rfl)) rfl
theorem kC_X7_gap : Cond.code yX7_gap cX7_gap 3 (some .int) ∈ big := bg (kT4 (List.mem_of_getElem? (i := 176) rfl)) rfl
theorem km_L_61 : Cond.methodLink RL 61 yX7_ship ∈ big := bg (kT4 (List.mem_of_getElem? (i := 177) rfl)) rfl
theorem kI_X7_ship : Cond.instanceMethod yX7_ship ∈ big := bg (kT4 (List.mem_of_getElem? (i := 178) rfl)) rfl
theorem kS_X7_ship : Cond.selects RX7 yX7_ship yX7_ship ∈ big := bg (kT4 (List.mem_of_getElem? (i := 179) rfl)) rfl
theorem kC_X7_ship : Cond.code yX7_ship cX7_ship 2 (some .int) ∈ big := bg (kT4 (List.mem_of_getElem? (i := 180) rfl)) rfl
theorem kc_X7_129 : Cond.constantLong RX7 129 (239 : Int64) ∈ big := bg (kT4 (List.mem_of_getElem? (i := 181) rfl)) rfl
theorem km_L_65 : Cond.methodLink RL 65 yX7_crosser ∈ big := bg (kT4 (List.mem_of_getElem? (i := 182) rfl)) rfl
theorem kI_X7_crosser : Cond.instanceMethod yX7_crosser ∈ big := bg (kT4 (List.mem_of_getElem? (i := 183) rfl)) rfl
theorem kS_X7_crosser : Cond.selects RX7 yX7_crosser yX7_crosser ∈ big := bg (kT4 (List.mem_of_getElem? (i := 184) rfl)) rfl
theorem kC_X7_crosser : Cond.code yX7_crosser cX7_crosser 2 (some .int) ∈ big := bg (kT4 (List.mem_of_getElem? (i := 185) rfl)) rfl
theorem km_L_70 : Cond.methodLink RL 70 yX7_times ∈ big := bg (kT4 (List.mem_of_getElem? (i := 186) rfl)) rfl
theorem kI_X7_times : Cond.instanceMethod yX7_times ∈ big := bg (kT4 (List.mem_of_getElem? (i := 187) rfl)) rfl
theorem kS_X7_times : Cond.selects RX7 yX7_times yX7_times ∈ big := bg (kT4 (List.mem_of_getElem? (i := 188) rfl)) rfl
theorem kC_X7_times : Cond.code yX7_times cX7_times 5 (some .boolean) ∈ big := bg (kT4 (List.mem_of_getElem? (i := 189) rfl)) rfl
theorem kc_X7_137 : Cond.constantLong RX7 137 (20 : Int64) ∈ big := bg (kT4 (List.mem_of_getElem? (i := 190) rfl)) rfl
theorem km_L_74 : Cond.methodLink RL 74 yX7_waits ∈ big := bg (kT4 (List.mem_of_getElem? (i := 191) rfl)) rfl
theorem kI_X7_waits : Cond.instanceMethod yX7_waits ∈ big := bg (kT4 (List.mem_of_getElem? (i := 192) rfl)) rfl
theorem kS_X7_waits : Cond.selects RX7 yX7_waits yX7_waits ∈ big := bg (kT4 (List.mem_of_getElem? (i := 193) rfl)) rfl
theorem kC_X7_waits : Cond.code yX7_waits cX7_waits 2 (some .int) ∈ big := bg (kT4 (List.mem_of_getElem? (i := 194) rfl)) rfl
theorem km_X7_159 : Cond.methodLink RX7 159 yX7_bestWaits ∈ big := bg (kT4 (List.mem_of_getElem? (i := 195) rfl)) rfl
theorem kI_X7_bestWaits : Cond.instanceMethod yX7_bestWaits ∈ big := bg (kT4 (List.mem_of_getElem? (i := 197) rfl)) rfl
theorem kC_X7_bestWaits : Cond.code yX7_bestWaits cX7_bestWaits 5 (some .int) ∈ big := bg (kT4 (List.mem_of_getElem? (i := 198) rfl)) rfl
theorem km_X7_153 : Cond.methodLink RX7 153 yX7_sorts ∈ big := bg (kT4 (List.mem_of_getElem? (i := 199) rfl)) rfl
theorem kI_X7_sorts : Cond.instanceMethod yX7_sorts ∈ big := bg (kT4 (List.mem_of_getElem? (i := 201) rfl)) rfl
theorem kC_X7_sorts : Cond.code yX7_sorts cX7_sorts 3 none ∈ big := bg (kT4 (List.mem_of_getElem? (i := 202) rfl)) rfl
theorem km_X7_156 : Cond.methodLink RX7 156 yX7_opens ∈ big := bg (kT4 (List.mem_of_getElem? (i := 203) rfl)) rfl
theorem kI_X7_opens : Cond.instanceMethod yX7_opens ∈ big := bg (kT4 (List.mem_of_getElem? (i := 205) rfl)) rfl
theorem kC_X7_opens : Cond.code yX7_opens cX7_opens 5 (some .int) ∈ big := bg (kT4 (List.mem_of_getElem? (i := 206) rfl)) rfl
theorem km_X7_139 : Cond.methodLink RX7 139 yX7_cameBy ∈ big := bg (kT4 (List.mem_of_getElem? (i := 207) rfl)) rfl
theorem kI_X7_cameBy : Cond.instanceMethod yX7_cameBy ∈ big := bg (kT4 (List.mem_of_getElem? (i := 209) rfl)) rfl
theorem kC_X7_cameBy : Cond.code yX7_cameBy cX7_cameBy 4 (some .int) ∈ big := bg (kT4 (List.mem_of_getElem? (i := 210) rfl)) rfl
theorem km_X7_143 : Cond.methodLink RX7 143 yX7_endOf ∈ big := bg (kT4 (List.mem_of_getElem? (i := 211) rfl)) rfl
theorem kI_X7_endOf : Cond.instanceMethod yX7_endOf ∈ big := bg (kT4 (List.mem_of_getElem? (i := 213) rfl)) rfl
theorem kC_X7_endOf : Cond.code yX7_endOf cX7_endOf 3 (some .int) ∈ big := bg (kT4 (List.mem_of_getElem? (i := 214) rfl)) rfl
theorem km_X7_147 : Cond.methodLink RX7 147 yX7_rest ∈ big := bg (kT4 (List.mem_of_getElem? (i := 215) rfl)) rfl
theorem kI_X7_rest : Cond.instanceMethod yX7_rest ∈ big := bg (kT4 (List.mem_of_getElem? (i := 217) rfl)) rfl
theorem kC_X7_rest : Cond.code yX7_rest cX7_rest 3 (some .int) ∈ big := bg (kT4 (List.mem_of_getElem? (i := 218) rfl)) rfl
theorem km_X7_150 : Cond.methodLink RX7 150 yX7_waitsOf ∈ big := bg (kT4 (List.mem_of_getElem? (i := 219) rfl)) rfl
theorem kI_X7_waitsOf : Cond.instanceMethod yX7_waitsOf ∈ big := bg (kT4 (List.mem_of_getElem? (i := 221) rfl)) rfl
theorem kC_X7_waitsOf : Cond.code yX7_waitsOf cX7_waitsOf 7 (some .int) ∈ big := bg (kT4 (List.mem_of_getElem? (i := 222) rfl)) rfl
theorem km_L_78 : Cond.methodLink RL 78 yX7_opening ∈ big := bg (kT4 (List.mem_of_getElem? (i := 223) rfl)) rfl
theorem kI_X7_opening : Cond.instanceMethod yX7_opening ∈ big := bg (kT4 (List.mem_of_getElem? (i := 224) rfl)) rfl
theorem kS_X7_opening : Cond.selects RX7 yX7_opening yX7_opening ∈ big := bg (kT4 (List.mem_of_getElem? (i := 225) rfl)) rfl
theorem kC_X7_opening : Cond.code yX7_opening cX7_opening 8 (some .int) ∈ big := bg (kT4 (List.mem_of_getElem? (i := 226) rfl)) rfl
theorem km_L_82 : Cond.methodLink RL 82 yX7_atOnce ∈ big := bg (kT4 (List.mem_of_getElem? (i := 227) rfl)) rfl
theorem kI_X7_atOnce : Cond.instanceMethod yX7_atOnce ∈ big := bg (kT4 (List.mem_of_getElem? (i := 228) rfl)) rfl
theorem kS_X7_atOnce : Cond.selects RX7 yX7_atOnce yX7_atOnce ∈ big := bg (kT4 (List.mem_of_getElem? (i := 229) rfl)) rfl
theorem kC_X7_atOnce : Cond.code yX7_atOnce cX7_atOnce 6 (some .int) ∈ big := bg (kT4 (List.mem_of_getElem? (i := 230) rfl)) rfl
theorem km_L_86 : Cond.methodLink RL 86 yX7_level ∈ big := bg (kT4 (List.mem_of_getElem? (i := 231) rfl)) rfl
theorem kI_X7_level : Cond.instanceMethod yX7_level ∈ big := bg (kT4 (List.mem_of_getElem? (i := 232) rfl)) rfl
theorem kS_X7_level : Cond.selects RX7 yX7_level yX7_level ∈ big := bg (kT4 (List.mem_of_getElem? (i := 233) rfl)) rfl
theorem kC_X7_level : Cond.code yX7_level cX7_level 4 (some .boolean) ∈ big := bg (kT4 (List.mem_of_getElem? (i := 234) rfl)) rfl
theorem kc_X7_163 : Cond.constantLong RX7 163 (59 : Int64) ∈ big := bg (kT4 (List.mem_of_getElem? (i := 235) rfl)) rfl
theorem kc_X7_165 : Cond.constantLong RX7 165 (99 : Int64) ∈ big := bg (kT4 (List.mem_of_getElem? (i := 236) rfl)) rfl
theorem km_L_90 : Cond.methodLink RL 90 yX7_flood ∈ big := bg (kT4 (List.mem_of_getElem? (i := 237) rfl)) rfl
theorem kI_X7_flood : Cond.instanceMethod yX7_flood ∈ big := bg (kT4 (List.mem_of_getElem? (i := 238) rfl)) rfl
theorem kS_X7_flood : Cond.selects RX7 yX7_flood yX7_flood ∈ big := bg (kT4 (List.mem_of_getElem? (i := 239) rfl)) rfl
theorem kC_X7_flood : Cond.code yX7_flood cX7_flood 3 (some .boolean) ∈ big := bg (kT5 (List.mem_of_getElem? (i := 0) rfl)) rfl
theorem km_L_94 : Cond.methodLink RL 94 yX7_out ∈ big := bg (kT5 (List.mem_of_getElem? (i := 1) rfl)) rfl
theorem kI_X7_out : Cond.instanceMethod yX7_out ∈ big := bg (kT5 (List.mem_of_getElem? (i := 2) rfl)) rfl
theorem kS_X7_out : Cond.selects RX7 yX7_out yX7_out ∈ big := bg (kT5 (List.mem_of_getElem? (i := 3) rfl)) rfl
theorem kC_X7_out : Cond.code yX7_out cX7_out 1 (some .int) ∈ big := bg (kT5 (List.mem_of_getElem? (i := 4) rfl)) rfl
theorem km_X7_177 : Cond.methodLink RX7 177 yX7_fewestOut ∈ big := bg (kT5 (List.mem_of_getElem? (i := 5) rfl)) rfl
theorem kI_X7_fewestOut : Cond.instanceMethod yX7_fewestOut ∈ big := bg (kT5 (List.mem_of_getElem? (i := 7) rfl)) rfl
theorem kC_X7_fewestOut : Cond.code yX7_fewestOut cX7_fewestOut 5 (some .int) ∈ big := bg (kT5 (List.mem_of_getElem? (i := 8) rfl)) rfl
theorem km_X7_173 : Cond.methodLink RX7 173 yX7_goes ∈ big := bg (kT5 (List.mem_of_getElem? (i := 9) rfl)) rfl
theorem kI_X7_goes : Cond.instanceMethod yX7_goes ∈ big := bg (kT5 (List.mem_of_getElem? (i := 11) rfl)) rfl
theorem kC_X7_goes : Cond.code yX7_goes cX7_goes 5 (some .int) ∈ big := bg (kT5 (List.mem_of_getElem? (i := 12) rfl)) rfl
theorem km_X7_167 : Cond.methodLink RX7 167 yX7_isBad ∈ big := bg (kT5 (List.mem_of_getElem? (i := 13) rfl)) rfl
theorem kI_X7_isBad : Cond.instanceMethod yX7_isBad ∈ big := bg (kT5 (List.mem_of_getElem? (i := 15) rfl)) rfl
theorem kC_X7_isBad : Cond.code yX7_isBad cX7_isBad 2 (some .boolean) ∈ big := bg (kT5 (List.mem_of_getElem? (i := 16) rfl)) rfl
theorem km_X7_170 : Cond.methodLink RX7 170 yX7_from ∈ big := bg (kT5 (List.mem_of_getElem? (i := 17) rfl)) rfl
theorem kI_X7_from : Cond.instanceMethod yX7_from ∈ big := bg (kT5 (List.mem_of_getElem? (i := 19) rfl)) rfl
theorem kC_X7_from : Cond.code yX7_from cX7_from 3 (some .int) ∈ big := bg (kT5 (List.mem_of_getElem? (i := 20) rfl)) rfl
theorem km_L_98 : Cond.methodLink RL 98 yX7_outOn ∈ big := bg (kT5 (List.mem_of_getElem? (i := 21) rfl)) rfl
theorem kI_X7_outOn : Cond.instanceMethod yX7_outOn ∈ big := bg (kT5 (List.mem_of_getElem? (i := 22) rfl)) rfl
theorem kS_X7_outOn : Cond.selects RX7 yX7_outOn yX7_outOn ∈ big := bg (kT5 (List.mem_of_getElem? (i := 23) rfl)) rfl
theorem kC_X7_outOn : Cond.code yX7_outOn cX7_outOn 7 (some .int) ∈ big := bg (kT5 (List.mem_of_getElem? (i := 24) rfl)) rfl
theorem km_L_103 : Cond.methodLink RL 103 yX7_feed ∈ big := bg (kT5 (List.mem_of_getElem? (i := 25) rfl)) rfl
theorem kI_X7_feed : Cond.instanceMethod yX7_feed ∈ big := bg (kT5 (List.mem_of_getElem? (i := 26) rfl)) rfl
theorem kS_X7_feed : Cond.selects RX7 yX7_feed yX7_feed ∈ big := bg (kT5 (List.mem_of_getElem? (i := 27) rfl)) rfl
theorem kC_X7_feed : Cond.code yX7_feed cX7_feed 6 (some .int) ∈ big := bg (kT5 (List.mem_of_getElem? (i := 28) rfl)) rfl
theorem km_X7_183 : Cond.methodLink RX7 183 yX7_put ∈ big := bg (kT5 (List.mem_of_getElem? (i := 29) rfl)) rfl
theorem kI_X7_put : Cond.instanceMethod yX7_put ∈ big := bg (kT5 (List.mem_of_getElem? (i := 31) rfl)) rfl
theorem kC_X7_put : Cond.code yX7_put cX7_put 2 none ∈ big := bg (kT5 (List.mem_of_getElem? (i := 32) rfl)) rfl
theorem km_L_107 : Cond.methodLink RL 107 yX7_end ∈ big := bg (kT5 (List.mem_of_getElem? (i := 33) rfl)) rfl
theorem kI_X7_end : Cond.instanceMethod yX7_end ∈ big := bg (kT5 (List.mem_of_getElem? (i := 34) rfl)) rfl
theorem kS_X7_end : Cond.selects RX7 yX7_end yX7_end ∈ big := bg (kT5 (List.mem_of_getElem? (i := 35) rfl)) rfl
theorem kC_X7_end : Cond.code yX7_end cX7_end 2 (some .int) ∈ big := bg (kT5 (List.mem_of_getElem? (i := 36) rfl)) rfl
theorem km_L_111 : Cond.methodLink RL 111 yX7_tolls ∈ big := bg (kT5 (List.mem_of_getElem? (i := 37) rfl)) rfl
theorem kI_X7_tolls : Cond.instanceMethod yX7_tolls ∈ big := bg (kT5 (List.mem_of_getElem? (i := 38) rfl)) rfl
theorem kS_X7_tolls : Cond.selects RX7 yX7_tolls yX7_tolls ∈ big := bg (kT5 (List.mem_of_getElem? (i := 39) rfl)) rfl
theorem kC_X7_tolls : Cond.code yX7_tolls cX7_tolls 4 (some .int) ∈ big := bg (kT5 (List.mem_of_getElem? (i := 40) rfl)) rfl
theorem km_X7_233 : Cond.methodLink RX7 233 yX7_next ∈ big := bg (kT5 (List.mem_of_getElem? (i := 41) rfl)) rfl
theorem kI_X7_next : Cond.instanceMethod yX7_next ∈ big := bg (kT5 (List.mem_of_getElem? (i := 43) rfl)) rfl
theorem kC_X7_next : Cond.code yX7_next cX7_next 6 none ∈ big := bg (kT5 (List.mem_of_getElem? (i := 44) rfl)) rfl
theorem km_X7_207 : Cond.methodLink RX7 207 yX7_isLetter ∈ big := bg (kT5 (List.mem_of_getElem? (i := 45) rfl)) rfl
theorem kt_X7_isLetter : Cond.static yX7_isLetter ∈ big := bg (kT5 (List.mem_of_getElem? (i := 46) rfl)) rfl
theorem kC_X7_isLetter : Cond.code yX7_isLetter cX7_isLetter 1 (some .boolean) ∈ big := bg (kT5 (List.mem_of_getElem? (i := 47) rfl)) rfl
theorem kc_X7_186 : Cond.constantLong RX7 186 (97 : Int64) ∈ big := bg (kT5 (List.mem_of_getElem? (i := 48) rfl)) rfl
theorem kc_X7_188 : Cond.constantLong RX7 188 (122 : Int64) ∈ big := bg (kT5 (List.mem_of_getElem? (i := 49) rfl)) rfl
theorem kc_X7_190 : Cond.constantLong RX7 190 (65 : Int64) ∈ big := bg (kT5 (List.mem_of_getElem? (i := 50) rfl)) rfl
theorem kc_X7_192 : Cond.constantLong RX7 192 (90 : Int64) ∈ big := bg (kT5 (List.mem_of_getElem? (i := 51) rfl)) rfl
theorem kc_X7_210 : Cond.constantLong RX7 210 (64 : Int64) ∈ big := bg (kT5 (List.mem_of_getElem? (i := 52) rfl)) rfl
theorem km_X7_212 : Cond.methodLink RX7 212 yX7_wordOf ∈ big := bg (kT5 (List.mem_of_getElem? (i := 53) rfl)) rfl
theorem kt_X7_wordOf : Cond.static yX7_wordOf ∈ big := bg (kT5 (List.mem_of_getElem? (i := 54) rfl)) rfl
theorem kC_X7_wordOf : Cond.code yX7_wordOf cX7_wordOf 2 (some .int) ∈ big := bg (kT5 (List.mem_of_getElem? (i := 55) rfl)) rfl
theorem kc_X7_194 : Cond.constantLong RX7 194 (13826860 : Int64) ∈ big := bg (kT5 (List.mem_of_getElem? (i := 56) rfl)) rfl
theorem kc_X7_196 : Cond.constantLong RX7 196 (564009582 : Int64) ∈ big := bg (kT5 (List.mem_of_getElem? (i := 57) rfl)) rfl
theorem kc_X7_219 : Cond.constantLong RX7 219 (48 : Int64) ∈ big := bg (kT5 (List.mem_of_getElem? (i := 58) rfl)) rfl
theorem kc_X7_221 : Cond.constantLong RX7 221 (57 : Int64) ∈ big := bg (kT5 (List.mem_of_getElem? (i := 59) rfl)) rfl
theorem kc_X7_223 : Cond.constant RX7 223 (99999) ∈ big := bg (kT5 (List.mem_of_getElem? (i := 60) rfl)) rfl
theorem km_X7_240 : Cond.methodLink RX7 240 yX7_clause ∈ big := bg (kT5 (List.mem_of_getElem? (i := 61) rfl)) rfl
theorem kI_X7_clause : Cond.instanceMethod yX7_clause ∈ big := bg (kT5 (List.mem_of_getElem? (i := 63) rfl)) rfl
theorem kC_X7_clause : Cond.code yX7_clause cX7_clause 4 none ∈ big := bg (kT5 (List.mem_of_getElem? (i := 64) rfl)) rfl
theorem km_X7_230 : Cond.methodLink RX7 230 yX7_fails ∈ big := bg (kT5 (List.mem_of_getElem? (i := 65) rfl)) rfl
theorem kI_X7_fails : Cond.instanceMethod yX7_fails ∈ big := bg (kT5 (List.mem_of_getElem? (i := 67) rfl)) rfl
theorem kC_X7_fails : Cond.code yX7_fails cX7_fails 2 none ∈ big := bg (kT5 (List.mem_of_getElem? (i := 68) rfl)) rfl
theorem kc_X7_236 : Cond.constantLong RX7 236 (5 : Int64) ∈ big := bg (kT5 (List.mem_of_getElem? (i := 69) rfl)) rfl
theorem kc_X7_238 : Cond.constantLong RX7 238 (999 : Int64) ∈ big := bg (kT5 (List.mem_of_getElem? (i := 70) rfl)) rfl
theorem km_L_115 : Cond.methodLink RL 115 yX7_fault ∈ big := bg (kT5 (List.mem_of_getElem? (i := 71) rfl)) rfl
theorem kI_X7_fault : Cond.instanceMethod yX7_fault ∈ big := bg (kT5 (List.mem_of_getElem? (i := 72) rfl)) rfl
theorem kS_X7_fault : Cond.selects RX7 yX7_fault yX7_fault ∈ big := bg (kT5 (List.mem_of_getElem? (i := 73) rfl)) rfl
theorem kC_X7_fault : Cond.code yX7_fault cX7_fault 2 (some .int) ∈ big := bg (kT5 (List.mem_of_getElem? (i := 74) rfl)) rfl
theorem km_L_120 : Cond.methodLink RL 120 yX7_pass ∈ big := bg (kT5 (List.mem_of_getElem? (i := 75) rfl)) rfl
theorem kI_X7_pass : Cond.instanceMethod yX7_pass ∈ big := bg (kT5 (List.mem_of_getElem? (i := 76) rfl)) rfl
theorem kS_X7_pass : Cond.selects RX7 yX7_pass yX7_pass ∈ big := bg (kT5 (List.mem_of_getElem? (i := 77) rfl)) rfl
theorem kC_X7_pass : Cond.code yX7_pass cX7_pass 6 (some .int) ∈ big := bg (kT5 (List.mem_of_getElem? (i := 78) rfl)) rfl
theorem kc_X7_243 : Cond.constantLong RX7 243 (19 : Int64) ∈ big := bg (kT5 (List.mem_of_getElem? (i := 79) rfl)) rfl
theorem kc_X7_248 : Cond.constantLong RX7 248 (9999 : Int64) ∈ big := bg (kT5 (List.mem_of_getElem? (i := 80) rfl)) rfl
theorem km_L_124 : Cond.methodLink RL 124 yX7_about ∈ big := bg (kT5 (List.mem_of_getElem? (i := 81) rfl)) rfl
theorem kI_X7_about : Cond.instanceMethod yX7_about ∈ big := bg (kT5 (List.mem_of_getElem? (i := 82) rfl)) rfl
theorem kS_X7_about : Cond.selects RX7 yX7_about yX7_about ∈ big := bg (kT5 (List.mem_of_getElem? (i := 83) rfl)) rfl
theorem kC_X7_about : Cond.code yX7_about cX7_about 2 (some .int) ∈ big := bg (kT5 (List.mem_of_getElem? (i := 84) rfl)) rfl
theorem kc_X7_256 : Cond.constantLong RX7 256 (25 : Int64) ∈ big := bg (kT5 (List.mem_of_getElem? (i := 85) rfl)) rfl
theorem kc_X7_258 : Cond.constantLong RX7 258 (30 : Int64) ∈ big := bg (kT5 (List.mem_of_getElem? (i := 86) rfl)) rfl
theorem kc_X7_260 : Cond.constantLong RX7 260 (35 : Int64) ∈ big := bg (kT5 (List.mem_of_getElem? (i := 87) rfl)) rfl
theorem kf_J0_9 : Cond.fieldLink RJ0 9 "java/lang/String" "value" "[B" ∈ big := bg (kT5 (List.mem_of_getElem? (i := 88) rfl)) rfl
theorem kf_J0_15 : Cond.fieldLink RJ0 15 "java/lang/String" "coder" "B" ∈ big := bg (kT5 (List.mem_of_getElem? (i := 89) rfl)) rfl
theorem kS_X0_layLoads : Cond.selects RX0 yX0_layLoads yX0_layLoads ∈ big := bg (kS0 (List.mem_of_getElem? (i := 0) rfl)) rfl
theorem kS_X0_press : Cond.selects RX0 yX0_press yX0_press ∈ big := bg (kS0 (List.mem_of_getElem? (i := 1) rfl)) rfl
theorem kS_X0_findLeastMargin : Cond.selects RX0 yX0_findLeastMargin yX0_findLeastMargin ∈ big := bg (kS0 (List.mem_of_getElem? (i := 2) rfl)) rfl
theorem kS_X1_plan : Cond.selects RX1 yX1_plan yX1_plan ∈ big := bg (kS0 (List.mem_of_getElem? (i := 3) rfl)) rfl
theorem kS_X1_waitsFrom : Cond.selects RX1 yX1_waitsFrom yX1_waitsFrom ∈ big := bg (kS0 (List.mem_of_getElem? (i := 4) rfl)) rfl
theorem kS_X1_waitsOfOpening : Cond.selects RX1 yX1_waitsOfOpening yX1_waitsOfOpening ∈ big := bg (kS0 (List.mem_of_getElem? (i := 5) rfl)) rfl
theorem kS_X1_endOfOpening : Cond.selects RX1 yX1_endOfOpening yX1_endOfOpening ∈ big := bg (kS0 (List.mem_of_getElem? (i := 6) rfl)) rfl
theorem kS_X1_crosserWaits : Cond.selects RX1 yX1_crosserWaits yX1_crosserWaits ∈ big := bg (kS0 (List.mem_of_getElem? (i := 7) rfl)) rfl
theorem kS_X1_walkBest : Cond.selects RX1 yX1_walkBest yX1_walkBest ∈ big := bg (kS0 (List.mem_of_getElem? (i := 8) rfl)) rfl
theorem kS_X2_plan : Cond.selects RX2 yX2_plan yX2_plan ∈ big := bg (kS0 (List.mem_of_getElem? (i := 9) rfl)) rfl
theorem kS_X2_needIfOut : Cond.selects RX2 yX2_needIfOut yX2_needIfOut ∈ big := bg (kS0 (List.mem_of_getElem? (i := 10) rfl)) rfl
theorem kS_X2_mayBeIn : Cond.selects RX2 yX2_mayBeIn yX2_mayBeIn ∈ big := bg (kS0 (List.mem_of_getElem? (i := 11) rfl)) rfl
theorem kS_X2_needIfIn : Cond.selects RX2 yX2_needIfIn yX2_needIfIn ∈ big := bg (kS0 (List.mem_of_getElem? (i := 12) rfl)) rfl
theorem kS_X2_chooseDays : Cond.selects RX2 yX2_chooseDays yX2_chooseDays ∈ big := bg (kS0 (List.mem_of_getElem? (i := 13) rfl)) rfl
theorem kS_X5_begin : Cond.selects RX5 yX5_begin yX5_begin ∈ big := bg (kS0 (List.mem_of_getElem? (i := 14) rfl)) rfl
theorem kS_X5_nextToken : Cond.selects RX5 yX5_nextToken yX5_nextToken ∈ big := bg (kS0 (List.mem_of_getElem? (i := 15) rfl)) rfl
theorem kS_X5_takeDigits : Cond.selects RX5 yX5_takeDigits yX5_takeDigits ∈ big := bg (kS0 (List.mem_of_getElem? (i := 16) rfl)) rfl
theorem kS_X5_takeLetters : Cond.selects RX5 yX5_takeLetters yX5_takeLetters ∈ big := bg (kS0 (List.mem_of_getElem? (i := 17) rfl)) rfl
theorem kS_X5_tokenIs : Cond.selects RX5 yX5_tokenIs yX5_tokenIs ∈ big := bg (kS0 (List.mem_of_getElem? (i := 18) rfl)) rfl
theorem kS_X5_takeToken : Cond.selects RX5 yX5_takeToken yX5_takeToken ∈ big := bg (kS0 (List.mem_of_getElem? (i := 19) rfl)) rfl
theorem kS_X5_takeClauseWord : Cond.selects RX5 yX5_takeClauseWord yX5_takeClauseWord ∈ big := bg (kS0 (List.mem_of_getElem? (i := 20) rfl)) rfl
theorem kS_X5_takeKind : Cond.selects RX5 yX5_takeKind yX5_takeKind ∈ big := bg (kS0 (List.mem_of_getElem? (i := 21) rfl)) rfl
theorem kS_X5_clauseRow : Cond.selects RX5 yX5_clauseRow yX5_clauseRow ∈ big := bg (kS0 (List.mem_of_getElem? (i := 22) rfl)) rfl
theorem kS_X5_takeAmount : Cond.selects RX5 yX5_takeAmount yX5_takeAmount ∈ big := bg (kS0 (List.mem_of_getElem? (i := 23) rfl)) rfl
theorem kS_X5_takeSemicolon : Cond.selects RX5 yX5_takeSemicolon yX5_takeSemicolon ∈ big := bg (kS0 (List.mem_of_getElem? (i := 24) rfl)) rfl
theorem kS_X4_goesFree : Cond.selects RX4 yX4_goesFree yX4_goesFree ∈ big := bg (kS0 (List.mem_of_getElem? (i := 25) rfl)) rfl
theorem kS_X7_isHull : Cond.selects RX7 yX7_isHull yX7_isHull ∈ big := bg (kS0 (List.mem_of_getElem? (i := 26) rfl)) rfl
theorem kS_X7_pressOn : Cond.selects RX7 yX7_pressOn yX7_pressOn ∈ big := bg (kS0 (List.mem_of_getElem? (i := 27) rfl)) rfl
theorem kS_X7_placeOf : Cond.selects RX7 yX7_placeOf yX7_placeOf ∈ big := bg (kS0 (List.mem_of_getElem? (i := 28) rfl)) rfl
theorem kS_X7_looks : Cond.selects RX7 yX7_looks yX7_looks ∈ big := bg (kS0 (List.mem_of_getElem? (i := 29) rfl)) rfl
theorem kS_X7_bestWaits : Cond.selects RX7 yX7_bestWaits yX7_bestWaits ∈ big := bg (kS0 (List.mem_of_getElem? (i := 30) rfl)) rfl
theorem kS_X7_sorts : Cond.selects RX7 yX7_sorts yX7_sorts ∈ big := bg (kS0 (List.mem_of_getElem? (i := 31) rfl)) rfl
theorem kS_X7_opens : Cond.selects RX7 yX7_opens yX7_opens ∈ big := bg (kS0 (List.mem_of_getElem? (i := 32) rfl)) rfl
theorem kS_X7_cameBy : Cond.selects RX7 yX7_cameBy yX7_cameBy ∈ big := bg (kS0 (List.mem_of_getElem? (i := 33) rfl)) rfl
theorem kS_X7_endOf : Cond.selects RX7 yX7_endOf yX7_endOf ∈ big := bg (kS0 (List.mem_of_getElem? (i := 34) rfl)) rfl
theorem kS_X7_rest : Cond.selects RX7 yX7_rest yX7_rest ∈ big := bg (kS0 (List.mem_of_getElem? (i := 35) rfl)) rfl
theorem kS_X7_waitsOf : Cond.selects RX7 yX7_waitsOf yX7_waitsOf ∈ big := bg (kS0 (List.mem_of_getElem? (i := 36) rfl)) rfl
theorem kS_X7_fewestOut : Cond.selects RX7 yX7_fewestOut yX7_fewestOut ∈ big := bg (kS0 (List.mem_of_getElem? (i := 37) rfl)) rfl
theorem kS_X7_goes : Cond.selects RX7 yX7_goes yX7_goes ∈ big := bg (kS0 (List.mem_of_getElem? (i := 38) rfl)) rfl
theorem kS_X7_isBad : Cond.selects RX7 yX7_isBad yX7_isBad ∈ big := bg (kS0 (List.mem_of_getElem? (i := 39) rfl)) rfl
theorem kS_X7_from : Cond.selects RX7 yX7_from yX7_from ∈ big := bg (kS0 (List.mem_of_getElem? (i := 40) rfl)) rfl
theorem kS_X7_put : Cond.selects RX7 yX7_put yX7_put ∈ big := bg (kS0 (List.mem_of_getElem? (i := 41) rfl)) rfl
theorem kS_X7_next : Cond.selects RX7 yX7_next yX7_next ∈ big := bg (kS0 (List.mem_of_getElem? (i := 42) rfl)) rfl
theorem kS_X7_clause : Cond.selects RX7 yX7_clause yX7_clause ∈ big := bg (kS0 (List.mem_of_getElem? (i := 43) rfl)) rfl
theorem kS_X7_fails : Cond.selects RX7 yX7_fails yX7_fails ∈ big := bg (kS0 (List.mem_of_getElem? (i := 44) rfl)) rfl
theorem kl_X0_0 : u_lay RX0 TX0 0 ∈ big := bg (kT1 (List.mem_of_getElem? (i := 50) rfl)) rfl
theorem kl_X0_1 : u_lay RX0 TX0 1 ∈ big := bg (kT1 (List.mem_of_getElem? (i := 52) rfl)) rfl
theorem kl_X0_2 : u_lay RX0 TX0 2 ∈ big := bg (kT1 (List.mem_of_getElem? (i := 54) rfl)) rfl
theorem kl_X0_3 : u_lay RX0 TX0 3 ∈ big := bg (kT1 (List.mem_of_getElem? (i := 56) rfl)) rfl
theorem kl_X0_4 : u_lay RX0 TX0 4 ∈ big := bg (kT1 (List.mem_of_getElem? (i := 58) rfl)) rfl
theorem kl_X0_5 : u_lay RX0 TX0 5 ∈ big := bg (kT1 (List.mem_of_getElem? (i := 60) rfl)) rfl
theorem kl_X0_6 : u_lay RX0 TX0 6 ∈ big := bg (kT1 (List.mem_of_getElem? (i := 62) rfl)) rfl
theorem kl_X0_7 : u_lay RX0 TX0 7 ∈ big := bg (kT1 (List.mem_of_getElem? (i := 64) rfl)) rfl
theorem kl_X0_8 : u_lay RX0 TX0 8 ∈ big := bg (kT1 (List.mem_of_getElem? (i := 66) rfl)) rfl
theorem kl_X0_9 : u_lay RX0 TX0 9 ∈ big := bg (kT1 (List.mem_of_getElem? (i := 68) rfl)) rfl
theorem kl_X0_10 : u_lay RX0 TX0 10 ∈ big := bg (kT1 (List.mem_of_getElem? (i := 70) rfl)) rfl
theorem kl_X0_11 : u_lay RX0 TX0 11 ∈ big := bg (kT1 (List.mem_of_getElem? (i := 72) rfl)) rfl
theorem hin_X0 : ∀ x ∈ u_ws RX0 TX0 12, x ∈ big := by
  intro x hx
  obtain ⟨k, hk, rfl⟩ := List.mem_map.mp hx
  have hk := List.mem_range.mp hk
  match k, hk with
  | 0, _ => exact kl_X0_0
  | 1, _ => exact kl_X0_1
  | 2, _ => exact kl_X0_2
  | 3, _ => exact kl_X0_3
  | 4, _ => exact kl_X0_4
  | 5, _ => exact kl_X0_5
  | 6, _ => exact kl_X0_6
  | 7, _ => exact kl_X0_7
  | 8, _ => exact kl_X0_8
  | 9, _ => exact kl_X0_9
  | 10, _ => exact kl_X0_10
  | 11, _ => exact kl_X0_11
  | n + 12, h => exact absurd h (by omega)
theorem kl_X1_0 : u_lay RX1 TX1 0 ∈ big := bg (kT1 (List.mem_of_getElem? (i := 101) rfl)) rfl
theorem kl_X1_1 : u_lay RX1 TX1 1 ∈ big := bg (kT1 (List.mem_of_getElem? (i := 103) rfl)) rfl
theorem kl_X1_2 : u_lay RX1 TX1 2 ∈ big := bg (kT1 (List.mem_of_getElem? (i := 105) rfl)) rfl
theorem kl_X1_3 : u_lay RX1 TX1 3 ∈ big := bg (kT1 (List.mem_of_getElem? (i := 107) rfl)) rfl
theorem kl_X1_4 : u_lay RX1 TX1 4 ∈ big := bg (kT1 (List.mem_of_getElem? (i := 109) rfl)) rfl
theorem kl_X1_5 : u_lay RX1 TX1 5 ∈ big := bg (kT1 (List.mem_of_getElem? (i := 111) rfl)) rfl
theorem kl_X1_6 : u_lay RX1 TX1 6 ∈ big := bg (kT1 (List.mem_of_getElem? (i := 113) rfl)) rfl
theorem kl_X1_7 : u_lay RX1 TX1 7 ∈ big := bg (kT1 (List.mem_of_getElem? (i := 115) rfl)) rfl
theorem kl_X1_8 : u_lay RX1 TX1 8 ∈ big := bg (kT1 (List.mem_of_getElem? (i := 117) rfl)) rfl
theorem kl_X1_9 : u_lay RX1 TX1 9 ∈ big := bg (kT1 (List.mem_of_getElem? (i := 119) rfl)) rfl
theorem kl_X1_10 : u_lay RX1 TX1 10 ∈ big := bg (kT1 (List.mem_of_getElem? (i := 121) rfl)) rfl
theorem kl_X1_11 : u_lay RX1 TX1 11 ∈ big := bg (kT1 (List.mem_of_getElem? (i := 123) rfl)) rfl
theorem kl_X1_12 : u_lay RX1 TX1 12 ∈ big := bg (kT1 (List.mem_of_getElem? (i := 125) rfl)) rfl
theorem kl_X1_13 : u_lay RX1 TX1 13 ∈ big := bg (kT1 (List.mem_of_getElem? (i := 127) rfl)) rfl
theorem kl_X1_14 : u_lay RX1 TX1 14 ∈ big := bg (kT1 (List.mem_of_getElem? (i := 129) rfl)) rfl
theorem kl_X1_15 : u_lay RX1 TX1 15 ∈ big := bg (kT1 (List.mem_of_getElem? (i := 131) rfl)) rfl
theorem kl_X1_16 : u_lay RX1 TX1 16 ∈ big := bg (kT1 (List.mem_of_getElem? (i := 133) rfl)) rfl
theorem kl_X1_17 : u_lay RX1 TX1 17 ∈ big := bg (kT1 (List.mem_of_getElem? (i := 135) rfl)) rfl
theorem kl_X1_18 : u_lay RX1 TX1 18 ∈ big := bg (kT1 (List.mem_of_getElem? (i := 137) rfl)) rfl
theorem hin_X1 : ∀ x ∈ u_ws RX1 TX1 19, x ∈ big := by
  intro x hx
  obtain ⟨k, hk, rfl⟩ := List.mem_map.mp hx
  have hk := List.mem_range.mp hk
  match k, hk with
  | 0, _ => exact kl_X1_0
  | 1, _ => exact kl_X1_1
  | 2, _ => exact kl_X1_2
  | 3, _ => exact kl_X1_3
  | 4, _ => exact kl_X1_4
  | 5, _ => exact kl_X1_5
  | 6, _ => exact kl_X1_6
  | 7, _ => exact kl_X1_7
  | 8, _ => exact kl_X1_8
  | 9, _ => exact kl_X1_9
  | 10, _ => exact kl_X1_10
  | 11, _ => exact kl_X1_11
  | 12, _ => exact kl_X1_12
  | 13, _ => exact kl_X1_13
  | 14, _ => exact kl_X1_14
  | 15, _ => exact kl_X1_15
  | 16, _ => exact kl_X1_16
  | 17, _ => exact kl_X1_17
  | 18, _ => exact kl_X1_18
  | n + 19, h => exact absurd h (by omega)
theorem kl_X2_0 : u_lay RX2 TX2 0 ∈ big := bg (kT1 (List.mem_of_getElem? (i := 153) rfl)) rfl
theorem kl_X2_1 : u_lay RX2 TX2 1 ∈ big := bg (kT1 (List.mem_of_getElem? (i := 155) rfl)) rfl
theorem kl_X2_2 : u_lay RX2 TX2 2 ∈ big := bg (kT1 (List.mem_of_getElem? (i := 157) rfl)) rfl
theorem kl_X2_3 : u_lay RX2 TX2 3 ∈ big := bg (kT1 (List.mem_of_getElem? (i := 159) rfl)) rfl
theorem kl_X2_4 : u_lay RX2 TX2 4 ∈ big := bg (kT1 (List.mem_of_getElem? (i := 161) rfl)) rfl
theorem kl_X2_5 : u_lay RX2 TX2 5 ∈ big := bg (kT1 (List.mem_of_getElem? (i := 163) rfl)) rfl
theorem hin_X2 : ∀ x ∈ u_ws RX2 TX2 6, x ∈ big := by
  intro x hx
  obtain ⟨k, hk, rfl⟩ := List.mem_map.mp hx
  have hk := List.mem_range.mp hk
  match k, hk with
  | 0, _ => exact kl_X2_0
  | 1, _ => exact kl_X2_1
  | 2, _ => exact kl_X2_2
  | 3, _ => exact kl_X2_3
  | 4, _ => exact kl_X2_4
  | 5, _ => exact kl_X2_5
  | n + 6, h => exact absurd h (by omega)
theorem kl_X3_0 : u_lay RX3 TX3 0 ∈ big := bg (kT1 (List.mem_of_getElem? (i := 175) rfl)) rfl
theorem kl_X3_1 : u_lay RX3 TX3 1 ∈ big := bg (kT1 (List.mem_of_getElem? (i := 177) rfl)) rfl
theorem hin_X3 : ∀ x ∈ u_ws RX3 TX3 2, x ∈ big := by
  intro x hx
  obtain ⟨k, hk, rfl⟩ := List.mem_map.mp hx
  have hk := List.mem_range.mp hk
  match k, hk with
  | 0, _ => exact kl_X3_0
  | 1, _ => exact kl_X3_1
  | n + 2, h => exact absurd h (by omega)
theorem kl_X4_0 : u_lay RX4 TX4 0 ∈ big := bg (kT1 (List.mem_of_getElem? (i := 237) rfl)) rfl
theorem kl_X4_1 : u_lay RX4 TX4 1 ∈ big := bg (kT1 (List.mem_of_getElem? (i := 239) rfl)) rfl
theorem kl_X4_2 : u_lay RX4 TX4 2 ∈ big := bg (kT2 (List.mem_of_getElem? (i := 1) rfl)) rfl
theorem kl_X4_3 : u_lay RX4 TX4 3 ∈ big := bg (kT2 (List.mem_of_getElem? (i := 3) rfl)) rfl
theorem kl_X4_4 : u_lay RX4 TX4 4 ∈ big := bg (kT2 (List.mem_of_getElem? (i := 5) rfl)) rfl
theorem kl_X4_5 : u_lay RX4 TX4 5 ∈ big := bg (kT2 (List.mem_of_getElem? (i := 7) rfl)) rfl
theorem hin_X4 : ∀ x ∈ u_ws RX4 TX4 6, x ∈ big := by
  intro x hx
  obtain ⟨k, hk, rfl⟩ := List.mem_map.mp hx
  have hk := List.mem_range.mp hk
  match k, hk with
  | 0, _ => exact kl_X4_0
  | 1, _ => exact kl_X4_1
  | 2, _ => exact kl_X4_2
  | 3, _ => exact kl_X4_3
  | 4, _ => exact kl_X4_4
  | 5, _ => exact kl_X4_5
  | n + 6, h => exact absurd h (by omega)
theorem kl_X5_0 : u_lay RX5 TX5 0 ∈ big := bg (kT1 (List.mem_of_getElem? (i := 199) rfl)) rfl
theorem kl_X5_1 : u_lay RX5 TX5 1 ∈ big := bg (kT1 (List.mem_of_getElem? (i := 201) rfl)) rfl
theorem kl_X5_2 : u_lay RX5 TX5 2 ∈ big := bg (kT1 (List.mem_of_getElem? (i := 203) rfl)) rfl
theorem kl_X5_3 : u_lay RX5 TX5 3 ∈ big := bg (kT1 (List.mem_of_getElem? (i := 205) rfl)) rfl
theorem kl_X5_4 : u_lay RX5 TX5 4 ∈ big := bg (kT1 (List.mem_of_getElem? (i := 207) rfl)) rfl
theorem kl_X5_5 : u_lay RX5 TX5 5 ∈ big := bg (kT1 (List.mem_of_getElem? (i := 209) rfl)) rfl
theorem kl_X5_6 : u_lay RX5 TX5 6 ∈ big := bg (kT1 (List.mem_of_getElem? (i := 211) rfl)) rfl
theorem kl_X5_7 : u_lay RX5 TX5 7 ∈ big := bg (kT1 (List.mem_of_getElem? (i := 213) rfl)) rfl
theorem kl_X5_8 : u_lay RX5 TX5 8 ∈ big := bg (kT1 (List.mem_of_getElem? (i := 215) rfl)) rfl
theorem kl_X5_9 : u_lay RX5 TX5 9 ∈ big := bg (kT1 (List.mem_of_getElem? (i := 217) rfl)) rfl
theorem kl_X5_10 : u_lay RX5 TX5 10 ∈ big := bg (kT1 (List.mem_of_getElem? (i := 219) rfl)) rfl
theorem kl_X5_11 : u_lay RX5 TX5 11 ∈ big := bg (kT1 (List.mem_of_getElem? (i := 221) rfl)) rfl
theorem hin_X5 : ∀ x ∈ u_ws RX5 TX5 12, x ∈ big := by
  intro x hx
  obtain ⟨k, hk, rfl⟩ := List.mem_map.mp hx
  have hk := List.mem_range.mp hk
  match k, hk with
  | 0, _ => exact kl_X5_0
  | 1, _ => exact kl_X5_1
  | 2, _ => exact kl_X5_2
  | 3, _ => exact kl_X5_3
  | 4, _ => exact kl_X5_4
  | 5, _ => exact kl_X5_5
  | 6, _ => exact kl_X5_6
  | 7, _ => exact kl_X5_7
  | 8, _ => exact kl_X5_8
  | 9, _ => exact kl_X5_9
  | 10, _ => exact kl_X5_10
  | 11, _ => exact kl_X5_11
  | n + 12, h => exact absurd h (by omega)
theorem kl_X6_0 : u_lay RX6 TX6 0 ∈ big := bg (kT2 (List.mem_of_getElem? (i := 16) rfl)) rfl
theorem kl_X6_1 : u_lay RX6 TX6 1 ∈ big := bg (kT2 (List.mem_of_getElem? (i := 18) rfl)) rfl
theorem kl_X6_2 : u_lay RX6 TX6 2 ∈ big := bg (kT2 (List.mem_of_getElem? (i := 20) rfl)) rfl
theorem kl_X6_3 : u_lay RX6 TX6 3 ∈ big := bg (kT2 (List.mem_of_getElem? (i := 22) rfl)) rfl
theorem kl_X6_4 : u_lay RX6 TX6 4 ∈ big := bg (kT2 (List.mem_of_getElem? (i := 24) rfl)) rfl
theorem kl_X6_5 : u_lay RX6 TX6 5 ∈ big := bg (kT2 (List.mem_of_getElem? (i := 26) rfl)) rfl
theorem hin_X6 : ∀ x ∈ u_ws RX6 TX6 6, x ∈ big := by
  intro x hx
  obtain ⟨k, hk, rfl⟩ := List.mem_map.mp hx
  have hk := List.mem_range.mp hk
  match k, hk with
  | 0, _ => exact kl_X6_0
  | 1, _ => exact kl_X6_1
  | 2, _ => exact kl_X6_2
  | 3, _ => exact kl_X6_3
  | 4, _ => exact kl_X6_4
  | 5, _ => exact kl_X6_5
  | n + 6, h => exact absurd h (by omega)
theorem kl_X7_0 : u_lay RX7 TX7 0 ∈ big := bg (kT4 (List.mem_of_getElem? (i := 37) rfl)) rfl
theorem kl_X7_1 : u_lay RX7 TX7 1 ∈ big := bg (kT4 (List.mem_of_getElem? (i := 39) rfl)) rfl
theorem kl_X7_2 : u_lay RX7 TX7 2 ∈ big := bg (kT4 (List.mem_of_getElem? (i := 41) rfl)) rfl
theorem kl_X7_3 : u_lay RX7 TX7 3 ∈ big := bg (kT4 (List.mem_of_getElem? (i := 43) rfl)) rfl
theorem kl_X7_4 : u_lay RX7 TX7 4 ∈ big := bg (kT4 (List.mem_of_getElem? (i := 45) rfl)) rfl
theorem kl_X7_5 : u_lay RX7 TX7 5 ∈ big := bg (kT4 (List.mem_of_getElem? (i := 47) rfl)) rfl
theorem kl_X7_6 : u_lay RX7 TX7 6 ∈ big := bg (kT4 (List.mem_of_getElem? (i := 49) rfl)) rfl
theorem kl_X7_7 : u_lay RX7 TX7 7 ∈ big := bg (kT4 (List.mem_of_getElem? (i := 51) rfl)) rfl
theorem kl_X7_8 : u_lay RX7 TX7 8 ∈ big := bg (kT4 (List.mem_of_getElem? (i := 53) rfl)) rfl
theorem kl_X7_9 : u_lay RX7 TX7 9 ∈ big := bg (kT4 (List.mem_of_getElem? (i := 55) rfl)) rfl
theorem kl_X7_10 : u_lay RX7 TX7 10 ∈ big := bg (kT4 (List.mem_of_getElem? (i := 57) rfl)) rfl
theorem kl_X7_11 : u_lay RX7 TX7 11 ∈ big := bg (kT4 (List.mem_of_getElem? (i := 59) rfl)) rfl
theorem kl_X7_12 : u_lay RX7 TX7 12 ∈ big := bg (kT4 (List.mem_of_getElem? (i := 61) rfl)) rfl
theorem kl_X7_13 : u_lay RX7 TX7 13 ∈ big := bg (kT4 (List.mem_of_getElem? (i := 63) rfl)) rfl
theorem kl_X7_14 : u_lay RX7 TX7 14 ∈ big := bg (kT4 (List.mem_of_getElem? (i := 65) rfl)) rfl
theorem kl_X7_15 : u_lay RX7 TX7 15 ∈ big := bg (kT4 (List.mem_of_getElem? (i := 67) rfl)) rfl
theorem kl_X7_16 : u_lay RX7 TX7 16 ∈ big := bg (kT4 (List.mem_of_getElem? (i := 69) rfl)) rfl
theorem kl_X7_17 : u_lay RX7 TX7 17 ∈ big := bg (kT4 (List.mem_of_getElem? (i := 71) rfl)) rfl
theorem kl_X7_18 : u_lay RX7 TX7 18 ∈ big := bg (kT4 (List.mem_of_getElem? (i := 73) rfl)) rfl
theorem kl_X7_19 : u_lay RX7 TX7 19 ∈ big := bg (kT4 (List.mem_of_getElem? (i := 75) rfl)) rfl
theorem kl_X7_20 : u_lay RX7 TX7 20 ∈ big := bg (kT4 (List.mem_of_getElem? (i := 77) rfl)) rfl
theorem kl_X7_21 : u_lay RX7 TX7 21 ∈ big := bg (kT4 (List.mem_of_getElem? (i := 79) rfl)) rfl
theorem kl_X7_22 : u_lay RX7 TX7 22 ∈ big := bg (kT4 (List.mem_of_getElem? (i := 81) rfl)) rfl
theorem kl_X7_23 : u_lay RX7 TX7 23 ∈ big := bg (kT4 (List.mem_of_getElem? (i := 83) rfl)) rfl
theorem kl_X7_24 : u_lay RX7 TX7 24 ∈ big := bg (kT4 (List.mem_of_getElem? (i := 85) rfl)) rfl
theorem kl_X7_25 : u_lay RX7 TX7 25 ∈ big := bg (kT4 (List.mem_of_getElem? (i := 87) rfl)) rfl
theorem kl_X7_26 : u_lay RX7 TX7 26 ∈ big := bg (kT4 (List.mem_of_getElem? (i := 89) rfl)) rfl
theorem kl_X7_27 : u_lay RX7 TX7 27 ∈ big := bg (kT4 (List.mem_of_getElem? (i := 91) rfl)) rfl
theorem kl_X7_28 : u_lay RX7 TX7 28 ∈ big := bg (kT4 (List.mem_of_getElem? (i := 93) rfl)) rfl
theorem kl_X7_29 : u_lay RX7 TX7 29 ∈ big := bg (kT4 (List.mem_of_getElem? (i := 95) rfl)) rfl
theorem kl_X7_30 : u_lay RX7 TX7 30 ∈ big := bg (kT4 (List.mem_of_getElem? (i := 97) rfl)) rfl
theorem kl_X7_31 : u_lay RX7 TX7 31 ∈ big := bg (kT4 (List.mem_of_getElem? (i := 99) rfl)) rfl
theorem kl_X7_32 : u_lay RX7 TX7 32 ∈ big := bg (kT4 (List.mem_of_getElem? (i := 101) rfl)) rfl
theorem kl_X7_33 : u_lay RX7 TX7 33 ∈ big := bg (kT4 (List.mem_of_getElem? (i := 103) rfl)) rfl
theorem kl_X7_34 : u_lay RX7 TX7 34 ∈ big := bg (kT4 (List.mem_of_getElem? (i := 105) rfl)) rfl
theorem kl_X7_35 : u_lay RX7 TX7 35 ∈ big := bg (kT4 (List.mem_of_getElem? (i := 107) rfl)) rfl
theorem kl_X7_36 : u_lay RX7 TX7 36 ∈ big := bg (kT4 (List.mem_of_getElem? (i := 109) rfl)) rfl
theorem kl_X7_37 : u_lay RX7 TX7 37 ∈ big := bg (kT4 (List.mem_of_getElem? (i := 111) rfl)) rfl
theorem kl_X7_38 : u_lay RX7 TX7 38 ∈ big := bg (kT4 (List.mem_of_getElem? (i := 113) rfl)) rfl
theorem kl_X7_39 : u_lay RX7 TX7 39 ∈ big := bg (kT4 (List.mem_of_getElem? (i := 115) rfl)) rfl
theorem hin_X7 : ∀ x ∈ u_ws RX7 TX7 40, x ∈ big := by
  intro x hx
  obtain ⟨k, hk, rfl⟩ := List.mem_map.mp hx
  have hk := List.mem_range.mp hk
  match k, hk with
  | 0, _ => exact kl_X7_0
  | 1, _ => exact kl_X7_1
  | 2, _ => exact kl_X7_2
  | 3, _ => exact kl_X7_3
  | 4, _ => exact kl_X7_4
  | 5, _ => exact kl_X7_5
  | 6, _ => exact kl_X7_6
  | 7, _ => exact kl_X7_7
  | 8, _ => exact kl_X7_8
  | 9, _ => exact kl_X7_9
  | 10, _ => exact kl_X7_10
  | 11, _ => exact kl_X7_11
  | 12, _ => exact kl_X7_12
  | 13, _ => exact kl_X7_13
  | 14, _ => exact kl_X7_14
  | 15, _ => exact kl_X7_15
  | 16, _ => exact kl_X7_16
  | 17, _ => exact kl_X7_17
  | 18, _ => exact kl_X7_18
  | 19, _ => exact kl_X7_19
  | 20, _ => exact kl_X7_20
  | 21, _ => exact kl_X7_21
  | 22, _ => exact kl_X7_22
  | 23, _ => exact kl_X7_23
  | 24, _ => exact kl_X7_24
  | 25, _ => exact kl_X7_25
  | 26, _ => exact kl_X7_26
  | 27, _ => exact kl_X7_27
  | 28, _ => exact kl_X7_28
  | 29, _ => exact kl_X7_29
  | 30, _ => exact kl_X7_30
  | 31, _ => exact kl_X7_31
  | 32, _ => exact kl_X7_32
  | 33, _ => exact kl_X7_33
  | 34, _ => exact kl_X7_34
  | 35, _ => exact kl_X7_35
  | 36, _ => exact kl_X7_36
  | 37, _ => exact kl_X7_37
  | 38, _ => exact kl_X7_38
  | 39, _ => exact kl_X7_39
  | n + 40, h => exact absurd h (by omega)
