def gT : List Cond := lw_tbl.filter goodWord
theorem gT_in {w : Cond} (h : w ∈ lw_tbl) (g : goodWord w = true) : w ∈ gT := List.mem_filter.mpr ⟨h, g⟩
theorem gT_tbl {w : Cond} (h : w ∈ gT) : w ∈ lw_tbl := (List.mem_filter.mp h).1
theorem gg_good : ∀ w ∈ gT, goodWord w = true := fun w h => (List.mem_filter.mp h).2
theorem tb_in {w : Cond} (h : w ∈ tables_1) : w ∈ lw_tbl := List.mem_append_right _ h
theorem inT1 {w : Cond} (h : w ∈ tables_1_1) : w ∈ lw_tbl := tb_in (List.mem_append_left _ h)
theorem inT2 {w : Cond} (h : w ∈ tables_1_2) : w ∈ lw_tbl := tb_in (List.mem_append_right _ (List.mem_append_left _ h))
theorem inT3 {w : Cond} (h : w ∈ tables_1_3) : w ∈ lw_tbl := tb_in (List.mem_append_right _ (List.mem_append_right _ (List.mem_append_left _ h)))
theorem inT4 {w : Cond} (h : w ∈ tables_1_4) : w ∈ lw_tbl := tb_in (List.mem_append_right _ (List.mem_append_right _ (List.mem_append_right _ (List.mem_append_left _ h))))
theorem inT5 {w : Cond} (h : w ∈ tables_1_5) : w ∈ lw_tbl := tb_in (List.mem_append_right _ (List.mem_append_right _ (List.mem_append_right _ (List.mem_append_right _ h))))
theorem pv_in {q : MethodName × Nat} (h : q ∈ lw_privs) : Cond.selects q.1.cls q.1 q.1 ∈ lw_tbl := List.mem_append_left _ (List.mem_map.mpr ⟨q, h, rfl⟩)
theorem inP1 {q : MethodName × Nat} (h : q ∈ lw_privs_1) : Cond.selects q.1.cls q.1 q.1 ∈ lw_tbl := pv_in (List.mem_append_left _ h)
theorem inP2 {q : MethodName × Nat} (h : q ∈ lw_privs_2) : Cond.selects q.1.cls q.1 q.1 ∈ lw_tbl := pv_in (List.mem_append_right _ (List.mem_append_left _ h))
theorem inP3 {q : MethodName × Nat} (h : q ∈ lw_privs_3) : Cond.selects q.1.cls q.1 q.1 ∈ lw_tbl := pv_in (List.mem_append_right _ (List.mem_append_right _ (List.mem_append_left _ h)))
theorem inP4 {q : MethodName × Nat} (h : q ∈ lw_privs_4) : Cond.selects q.1.cls q.1 q.1 ∈ lw_tbl := pv_in (List.mem_append_right _ (List.mem_append_right _ (List.mem_append_right _ h)))
theorem mem_places {big ws : List Cond} (ps : List Nat) (hp : ws = ps.filterMap (fun i => big[i]?)) : ∀ w ∈ ws, w ∈ big := by
  intro w hw
  rw [hp] at hw
  obtain ⟨i, -, hi⟩ := List.mem_filterMap.mp hw
  exact List.mem_of_getElem? hi
set_option maxRecDepth 20000 in
theorem uw_X0 : ∀ w ∈ u_ws RX0 TX0 9, w ∈ gT := fun w h => gT_in (tb_in (mem_places (big := tables_1) [115, 117, 119, 121, 123, 125, 127, 129, 131] (by decide +kernel) w h)) (List.all_eq_true.mp (show (u_ws RX0 TX0 9).all goodWord = true by decide +kernel) w h)
set_option maxRecDepth 20000 in
theorem uw_X1 : ∀ w ∈ u_ws RX1 TX1 13, w ∈ gT := fun w h => gT_in (tb_in (mem_places (big := tables_1) [45, 47, 49, 51, 53, 55, 57, 59, 61, 63, 65, 67, 69] (by decide +kernel) w h)) (List.all_eq_true.mp (show (u_ws RX1 TX1 13).all goodWord = true by decide +kernel) w h)
set_option maxRecDepth 20000 in
theorem uw_X2 : ∀ w ∈ u_ws RX2 TX2 5, w ∈ gT := fun w h => gT_in (tb_in (mem_places (big := tables_1) [91, 93, 95, 97, 99] (by decide +kernel) w h)) (List.all_eq_true.mp (show (u_ws RX2 TX2 5).all goodWord = true by decide +kernel) w h)
set_option maxRecDepth 20000 in
theorem uw_X3 : ∀ w ∈ u_ws RX3 TX3 9, w ∈ gT := fun w h => gT_in (tb_in (mem_places (big := tables_1) [146, 148, 150, 152, 154, 156, 158, 160, 162] (by decide +kernel) w h)) (List.all_eq_true.mp (show (u_ws RX3 TX3 9).all goodWord = true by decide +kernel) w h)
set_option maxRecDepth 20000 in
theorem uw_X4 : ∀ w ∈ u_ws RX4 TX4 28, w ∈ gT := fun w h => gT_in (tb_in (mem_places (big := tables_1) [609, 611, 613, 615, 617, 619, 621, 623, 625, 627, 629, 631, 633, 635, 637, 639, 641, 643, 645, 647, 649, 651, 653, 655, 657, 659, 661, 663] (by decide +kernel) w h)) (List.all_eq_true.mp (show (u_ws RX4 TX4 28).all goodWord = true by decide +kernel) w h)
theorem mw_0 : Cond.initialized RL ∈ gT := gT_in (inT1 (List.mem_of_getElem? (i := 0) rfl)) rfl
theorem mw_1 : Cond.initialized RX3 ∈ gT := gT_in (inT1 (List.mem_of_getElem? (i := 1) rfl)) rfl
theorem mw_2 : Cond.initialized RX1 ∈ gT := gT_in (inT1 (List.mem_of_getElem? (i := 2) rfl)) rfl
theorem mw_3 : Cond.initialized RX0 ∈ gT := gT_in (inT1 (List.mem_of_getElem? (i := 3) rfl)) rfl
theorem mw_4 : Cond.initialized RX2 ∈ gT := gT_in (inT1 (List.mem_of_getElem? (i := 4) rfl)) rfl
theorem mw_5 : Cond.initialized RJ7 ∈ gT := gT_in (inT1 (List.mem_of_getElem? (i := 5) rfl)) rfl
theorem mw_6 : Cond.initialized RX4 ∈ gT := gT_in (inT1 (List.mem_of_getElem? (i := 6) rfl)) rfl
theorem mw_7 : Cond.initialized RJ10 ∈ gT := gT_in (inT1 (List.mem_of_getElem? (i := 7) rfl)) rfl
theorem mw_8 : Cond.initialized RJ9 ∈ gT := gT_in (inT1 (List.mem_of_getElem? (i := 8) rfl)) rfl
theorem mw_9 : Cond.initialized RJ0 ∈ gT := gT_in (inT1 (List.mem_of_getElem? (i := 9) rfl)) rfl
theorem mw_10 : Cond.initialized RJ1 ∈ gT := gT_in (inT1 (List.mem_of_getElem? (i := 10) rfl)) rfl
theorem mw_11 : Cond.initialized RJ3 ∈ gT := gT_in (inT1 (List.mem_of_getElem? (i := 11) rfl)) rfl
theorem mw_12 : Cond.initialized RJ2 ∈ gT := gT_in (inT1 (List.mem_of_getElem? (i := 12) rfl)) rfl
theorem mw_13 : Cond.initialized RJ6 ∈ gT := gT_in (inT1 (List.mem_of_getElem? (i := 13) rfl)) rfl
theorem mw_14 : Cond.classLink RL 7 RX3 ∈ gT := gT_in (inT1 (List.mem_of_getElem? (i := 14) rfl)) rfl
theorem mw_15 : Cond.instantiable RX3 9 ∈ gT := gT_in (inT1 (List.mem_of_getElem? (i := 15) rfl)) rfl
theorem mw_16 : Cond.methodLink RL 9 yX3_init ∈ gT := gT_in (inT1 (List.mem_of_getElem? (i := 16) rfl)) rfl
theorem mw_17 : Cond.instanceMethod yX3_init ∈ gT := gT_in (inT1 (List.mem_of_getElem? (i := 17) rfl)) rfl
theorem mw_18 : Cond.code yX3_init cX3_init 1 none ∈ gT := gT_in (inT1 (List.mem_of_getElem? (i := 18) rfl)) rfl
theorem mw_19 : Cond.methodLink RX3 1 objectInit ∈ gT := gT_in (inT1 (List.mem_of_getElem? (i := 19) rfl)) rfl
theorem mw_20 : Cond.instanceMethod objectInit ∈ gT := gT_in (inT1 (List.mem_of_getElem? (i := 20) rfl)) rfl
theorem mw_21 : Cond.code objectInit ⟨#[0xb1]⟩ 1 none ∈ gT := gT_in (inT1 (List.mem_of_getElem? (i := 21) rfl)) rfl
theorem mw_22 : Cond.classLink RX3 16 RX1 ∈ gT := gT_in (inT1 (List.mem_of_getElem? (i := 22) rfl)) rfl
theorem mw_23 : Cond.instantiable RX1 13 ∈ gT := gT_in (inT1 (List.mem_of_getElem? (i := 23) rfl)) rfl
theorem mw_24 : Cond.instanceMethod yX1_init ∈ gT := gT_in (inT1 (List.mem_of_getElem? (i := 25) rfl)) rfl
theorem mw_25 : Cond.code yX1_init cX1_init 1 none ∈ gT := gT_in (inT1 (List.mem_of_getElem? (i := 26) rfl)) rfl
theorem mw_26 : Cond.methodLink RX1 3 objectInit ∈ gT := gT_in (inT1 (List.mem_of_getElem? (i := 27) rfl)) rfl
theorem mw_27 : Cond.fieldLink RX1 9 "ColumnReader$Cut" "held" "[I" ∈ gT := gT_in (inT1 (List.mem_of_getElem? (i := 28) rfl)) rfl
theorem mw_28 : Cond.fieldLink RX1 15 "ColumnReader$Cut" "cellStart" "[I" ∈ gT := gT_in (inT1 (List.mem_of_getElem? (i := 29) rfl)) rfl
theorem mw_29 : Cond.fieldLink RX1 18 "ColumnReader$Cut" "rowStart" "[I" ∈ gT := gT_in (inT1 (List.mem_of_getElem? (i := 30) rfl)) rfl
theorem mw_30 : Cond.fieldLink RX1 64 "ColumnReader$Cut" "heldSize" "I" ∈ gT := gT_in (inT1 (List.mem_of_getElem? (i := 31) rfl)) rfl
theorem mw_31 : Cond.fieldLink RX1 67 "ColumnReader$Cut" "cells" "I" ∈ gT := gT_in (inT1 (List.mem_of_getElem? (i := 32) rfl)) rfl
theorem mw_32 : Cond.fieldLink RX1 70 "ColumnReader$Cut" "rows" "I" ∈ gT := gT_in (inT1 (List.mem_of_getElem? (i := 33) rfl)) rfl
theorem mw_33 : Cond.fieldLink RX0 67 "ColumnReader$Cut" "rows" "I" ∈ gT := gT_in (inT1 (List.mem_of_getElem? (i := 34) rfl)) rfl
theorem mw_34 : Cond.fieldLink RX3 84 "ColumnReader$Cut" "rows" "I" ∈ gT := gT_in (inT1 (List.mem_of_getElem? (i := 35) rfl)) rfl
theorem mw_35 : Cond.fieldLink RX1 43 "ColumnReader$Cut" "fault" "I" ∈ gT := gT_in (inT1 (List.mem_of_getElem? (i := 36) rfl)) rfl
theorem mw_36 : Cond.fieldLink RX3 74 "ColumnReader$Cut" "fault" "I" ∈ gT := gT_in (inT1 (List.mem_of_getElem? (i := 37) rfl)) rfl
theorem mw_37 : Cond.fieldLink RX1 73 "ColumnReader$Cut" "faultSpot" "I" ∈ gT := gT_in (inT1 (List.mem_of_getElem? (i := 38) rfl)) rfl
theorem mw_38 : Cond.fieldLink RX3 77 "ColumnReader$Cut" "faultSpot" "I" ∈ gT := gT_in (inT1 (List.mem_of_getElem? (i := 39) rfl)) rfl
theorem mw_39 : Cond.fieldLink RX1 58 "ColumnReader$Cut" "mark" "I" ∈ gT := gT_in (inT1 (List.mem_of_getElem? (i := 40) rfl)) rfl
theorem mw_40 : Cond.fieldLink RX1 61 "ColumnReader$Cut" "quote" "I" ∈ gT := gT_in (inT1 (List.mem_of_getElem? (i := 41) rfl)) rfl
theorem mw_41 : Cond.fieldLink RX1 35 "ColumnReader$Cut" "headed" "Z" ∈ gT := gT_in (inT1 (List.mem_of_getElem? (i := 42) rfl)) rfl
theorem mw_42 : Cond.fieldLink RX1 76 "ColumnReader$Cut" "phase" "I" ∈ gT := gT_in (inT1 (List.mem_of_getElem? (i := 43) rfl)) rfl
theorem mw_43 : Cond.fieldLink RX1 82 "ColumnReader$Cut" "cellSpot" "I" ∈ gT := gT_in (inT1 (List.mem_of_getElem? (i := 44) rfl)) rfl
theorem mw_44 : Cond.arrayClass .int ∈ gT := gT_in (inT1 (List.mem_of_getElem? (i := 72) rfl)) rfl
theorem mw_45 : Cond.classLink RX3 23 RX0 ∈ gT := gT_in (inT1 (List.mem_of_getElem? (i := 73) rfl)) rfl
theorem mw_46 : Cond.instantiable RX0 9 ∈ gT := gT_in (inT1 (List.mem_of_getElem? (i := 74) rfl)) rfl
theorem mw_47 : Cond.methodLink RX3 25 yX0_init ∈ gT := gT_in (inT1 (List.mem_of_getElem? (i := 75) rfl)) rfl
theorem mw_48 : Cond.instanceMethod yX0_init ∈ gT := gT_in (inT1 (List.mem_of_getElem? (i := 76) rfl)) rfl
theorem mw_49 : Cond.code yX0_init cX0_init 2 none ∈ gT := gT_in (inT1 (List.mem_of_getElem? (i := 77) rfl)) rfl
theorem mw_50 : Cond.methodLink RX0 3 objectInit ∈ gT := gT_in (inT1 (List.mem_of_getElem? (i := 78) rfl)) rfl
theorem mw_51 : Cond.classLink RX0 33 RX2 ∈ gT := gT_in (inT1 (List.mem_of_getElem? (i := 79) rfl)) rfl
theorem mw_52 : Cond.instantiable RX2 5 ∈ gT := gT_in (inT1 (List.mem_of_getElem? (i := 80) rfl)) rfl
theorem mw_53 : Cond.methodLink RX0 35 yX2_init ∈ gT := gT_in (inT1 (List.mem_of_getElem? (i := 81) rfl)) rfl
theorem mw_54 : Cond.instanceMethod yX2_init ∈ gT := gT_in (inT1 (List.mem_of_getElem? (i := 82) rfl)) rfl
theorem mw_55 : Cond.code yX2_init cX2_init 2 none ∈ gT := gT_in (inT1 (List.mem_of_getElem? (i := 83) rfl)) rfl
theorem mw_56 : Cond.methodLink RX2 3 objectInit ∈ gT := gT_in (inT1 (List.mem_of_getElem? (i := 84) rfl)) rfl
theorem mw_57 : Cond.fieldLink RX2 9 "ColumnReader$Forms" "cut" "LColumnReader$Cut;" ∈ gT := gT_in (inT1 (List.mem_of_getElem? (i := 85) rfl)) rfl
theorem mw_58 : Cond.fieldLink RX2 15 "ColumnReader$Forms" "first" "I" ∈ gT := gT_in (inT1 (List.mem_of_getElem? (i := 86) rfl)) rfl
theorem mw_59 : Cond.fieldLink RX2 19 "ColumnReader$Forms" "capped" "Z" ∈ gT := gT_in (inT1 (List.mem_of_getElem? (i := 87) rfl)) rfl
theorem mw_60 : Cond.fieldLink RX2 23 "ColumnReader$Forms" "worth" "I" ∈ gT := gT_in (inT1 (List.mem_of_getElem? (i := 88) rfl)) rfl
theorem mw_61 : Cond.fieldLink RX0 111 "ColumnReader$Forms" "worth" "I" ∈ gT := gT_in (inT1 (List.mem_of_getElem? (i := 89) rfl)) rfl
theorem mw_62 : Cond.fieldLink RX2 26 "ColumnReader$Forms" "digits" "I" ∈ gT := gT_in (inT1 (List.mem_of_getElem? (i := 90) rfl)) rfl
theorem mw_63 : Cond.fieldLink RX0 11 "ColumnReader$Columns" "formOf" "[I" ∈ gT := gT_in (inT1 (List.mem_of_getElem? (i := 102) rfl)) rfl
theorem mw_64 : Cond.fieldLink RX3 113 "ColumnReader$Columns" "formOf" "[I" ∈ gT := gT_in (inT1 (List.mem_of_getElem? (i := 103) rfl)) rfl
theorem mw_65 : Cond.fieldLink RX0 17 "ColumnReader$Columns" "codeOf" "[I" ∈ gT := gT_in (inT1 (List.mem_of_getElem? (i := 104) rfl)) rfl
theorem mw_66 : Cond.fieldLink RX3 116 "ColumnReader$Columns" "codeOf" "[I" ∈ gT := gT_in (inT1 (List.mem_of_getElem? (i := 105) rfl)) rfl
theorem mw_67 : Cond.fieldLink RX0 20 "ColumnReader$Columns" "priceOf" "[I" ∈ gT := gT_in (inT1 (List.mem_of_getElem? (i := 106) rfl)) rfl
theorem mw_68 : Cond.fieldLink RX3 173 "ColumnReader$Columns" "priceOf" "[I" ∈ gT := gT_in (inT1 (List.mem_of_getElem? (i := 107) rfl)) rfl
theorem mw_69 : Cond.fieldLink RX0 23 "ColumnReader$Columns" "fitting" "[I" ∈ gT := gT_in (inT1 (List.mem_of_getElem? (i := 108) rfl)) rfl
theorem mw_70 : Cond.fieldLink RX3 136 "ColumnReader$Columns" "fitting" "[I" ∈ gT := gT_in (inT1 (List.mem_of_getElem? (i := 109) rfl)) rfl
theorem mw_71 : Cond.fieldLink RX0 26 "ColumnReader$Columns" "cheapest" "[I" ∈ gT := gT_in (inT1 (List.mem_of_getElem? (i := 110) rfl)) rfl
theorem mw_72 : Cond.fieldLink RX0 29 "ColumnReader$Columns" "cut" "LColumnReader$Cut;" ∈ gT := gT_in (inT1 (List.mem_of_getElem? (i := 111) rfl)) rfl
theorem mw_73 : Cond.fieldLink RX0 38 "ColumnReader$Columns" "forms" "LColumnReader$Forms;" ∈ gT := gT_in (inT1 (List.mem_of_getElem? (i := 112) rfl)) rfl
theorem mw_74 : Cond.fieldLink RX0 60 "ColumnReader$Columns" "surveyedMissing" "I" ∈ gT := gT_in (inT1 (List.mem_of_getElem? (i := 113) rfl)) rfl
theorem mw_75 : Cond.fieldLink RX0 64 "ColumnReader$Columns" "firstPresent" "I" ∈ gT := gT_in (inT1 (List.mem_of_getElem? (i := 114) rfl)) rfl
theorem mw_76 : Cond.methodLink RX3 39 yJ7_fill_53178 ∈ gT := gT_in (inT1 (List.mem_of_getElem? (i := 134) rfl)) rfl
theorem mw_77 : Cond.static yJ7_fill_53178 ∈ gT := gT_in (inT1 (List.mem_of_getElem? (i := 135) rfl)) rfl
theorem mw_78 : Cond.code yJ7_fill_53178 cJ7_fill_53178 4 none ∈ gT := gT_in (inT1 (List.mem_of_getElem? (i := 136) rfl)) rfl
theorem mw_79 : Cond.fieldLink RX3 9 "ColumnReader" "text" "[I" ∈ gT := gT_in (inT1 (List.mem_of_getElem? (i := 137) rfl)) rfl
theorem mw_80 : Cond.fieldLink RX3 13 "ColumnReader" "tape" "[I" ∈ gT := gT_in (inT1 (List.mem_of_getElem? (i := 138) rfl)) rfl
theorem mw_81 : Cond.fieldLink RX3 19 "ColumnReader" "cut" "LColumnReader$Cut;" ∈ gT := gT_in (inT1 (List.mem_of_getElem? (i := 139) rfl)) rfl
theorem mw_82 : Cond.fieldLink RX3 28 "ColumnReader" "columns" "LColumnReader$Columns;" ∈ gT := gT_in (inT1 (List.mem_of_getElem? (i := 140) rfl)) rfl
theorem mw_83 : Cond.fieldLink RX3 32 "ColumnReader" "prices" "[I" ∈ gT := gT_in (inT1 (List.mem_of_getElem? (i := 141) rfl)) rfl
theorem mw_84 : Cond.fieldLink RX3 52 "ColumnReader" "textSize" "I" ∈ gT := gT_in (inT1 (List.mem_of_getElem? (i := 142) rfl)) rfl
theorem mw_85 : Cond.fieldLink RX3 45 "ColumnReader" "tapeSize" "I" ∈ gT := gT_in (inT1 (List.mem_of_getElem? (i := 143) rfl)) rfl
theorem mw_86 : Cond.fieldLink RX3 64 "ColumnReader" "used" "I" ∈ gT := gT_in (inT1 (List.mem_of_getElem? (i := 144) rfl)) rfl
theorem mw_87 : Cond.fieldLink RX3 35 "ColumnReader" "cutBy" "I" ∈ gT := gT_in (inT1 (List.mem_of_getElem? (i := 145) rfl)) rfl
theorem mw_88 : Cond.methodLink RL 13 yX3_feed ∈ gT := gT_in (inT1 (List.mem_of_getElem? (i := 165) rfl)) rfl
theorem mw_89 : Cond.instanceMethod yX3_feed ∈ gT := gT_in (inT1 (List.mem_of_getElem? (i := 166) rfl)) rfl
theorem mw_90 : Cond.selects RX3 yX3_feed yX3_feed ∈ gT := gT_in (inT1 (List.mem_of_getElem? (i := 167) rfl)) rfl
theorem mw_91 : Cond.code yX3_feed cX3_feed 6 (some .int) ∈ gT := gT_in (inT1 (List.mem_of_getElem? (i := 168) rfl)) rfl
theorem mw_92 : Cond.methodLink RX3 48 yX3_tapeNumber ∈ gT := gT_in (inT1 (List.mem_of_getElem? (i := 169) rfl)) rfl
theorem mw_93 : Cond.instanceMethod yX3_tapeNumber ∈ gT := gT_in (inT1 (List.mem_of_getElem? (i := 171) rfl)) rfl
theorem mw_94 : Cond.code yX3_tapeNumber cX3_tapeNumber 3 none ∈ gT := gT_in (inT1 (List.mem_of_getElem? (i := 172) rfl)) rfl
theorem mw_95 : Cond.methodLink RL 18 yX3_add ∈ gT := gT_in (inT1 (List.mem_of_getElem? (i := 173) rfl)) rfl
theorem mw_96 : Cond.instanceMethod yX3_add ∈ gT := gT_in (inT1 (List.mem_of_getElem? (i := 174) rfl)) rfl
theorem mw_97 : Cond.selects RX3 yX3_add yX3_add ∈ gT := gT_in (inT1 (List.mem_of_getElem? (i := 175) rfl)) rfl
theorem mw_98 : Cond.code yX3_add cX3_add 2 (some .int) ∈ gT := gT_in (inT1 (List.mem_of_getElem? (i := 176) rfl)) rfl
theorem mw_99 : Cond.methodLink RX3 55 arraycopyName ∈ gT := gT_in (inT1 (List.mem_of_getElem? (i := 177) rfl)) rfl
theorem mw_100 : Cond.static arraycopyName ∈ gT := gT_in (inT1 (List.mem_of_getElem? (i := 178) rfl)) rfl
theorem mw_101 : Cond.native arraycopyName ∈ gT := gT_in (inT1 (List.mem_of_getElem? (i := 179) rfl)) rfl
theorem mw_102 : Cond.methodLink RX3 61 yX3_forgetReadings ∈ gT := gT_in (inT1 (List.mem_of_getElem? (i := 180) rfl)) rfl
theorem mw_103 : Cond.instanceMethod yX3_forgetReadings ∈ gT := gT_in (inT1 (List.mem_of_getElem? (i := 182) rfl)) rfl
theorem mw_104 : Cond.code yX3_forgetReadings cX3_forgetReadings 1 none ∈ gT := gT_in (inT1 (List.mem_of_getElem? (i := 183) rfl)) rfl
theorem mw_105 : Cond.methodLink RL 23 yX3_clear ∈ gT := gT_in (inT1 (List.mem_of_getElem? (i := 184) rfl)) rfl
theorem mw_106 : Cond.instanceMethod yX3_clear ∈ gT := gT_in (inT1 (List.mem_of_getElem? (i := 185) rfl)) rfl
theorem mw_107 : Cond.selects RX3 yX3_clear yX3_clear ∈ gT := gT_in (inT1 (List.mem_of_getElem? (i := 186) rfl)) rfl
theorem mw_108 : Cond.code yX3_clear cX3_clear 1 none ∈ gT := gT_in (inT1 (List.mem_of_getElem? (i := 187) rfl)) rfl
theorem mw_109 : Cond.methodLink RL 27 yX3_reads ∈ gT := gT_in (inT1 (List.mem_of_getElem? (i := 188) rfl)) rfl
theorem mw_110 : Cond.instanceMethod yX3_reads ∈ gT := gT_in (inT1 (List.mem_of_getElem? (i := 189) rfl)) rfl
theorem mw_111 : Cond.selects RX3 yX3_reads yX3_reads ∈ gT := gT_in (inT1 (List.mem_of_getElem? (i := 190) rfl)) rfl
theorem mw_112 : Cond.code yX3_reads cX3_reads 2 (some .int) ∈ gT := gT_in (inT1 (List.mem_of_getElem? (i := 191) rfl)) rfl
theorem mw_113 : Cond.methodLink RX3 67 yX3_isMake ∈ gT := gT_in (inT1 (List.mem_of_getElem? (i := 192) rfl)) rfl
theorem mw_114 : Cond.static yX3_isMake ∈ gT := gT_in (inT1 (List.mem_of_getElem? (i := 193) rfl)) rfl
theorem mw_115 : Cond.code yX3_isMake cX3_isMake 1 (some .boolean) ∈ gT := gT_in (inT1 (List.mem_of_getElem? (i := 194) rfl)) rfl
theorem mw_116 : Cond.methodLink RX3 71 yX3_cutTextBy ∈ gT := gT_in (inT1 (List.mem_of_getElem? (i := 195) rfl)) rfl
theorem mw_117 : Cond.instanceMethod yX3_cutTextBy ∈ gT := gT_in (inT1 (List.mem_of_getElem? (i := 197) rfl)) rfl
theorem mw_118 : Cond.code yX3_cutTextBy cX3_cutTextBy 2 none ∈ gT := gT_in (inT1 (List.mem_of_getElem? (i := 198) rfl)) rfl
theorem mw_119 : Cond.methodLink RX3 160 yX1_cutText ∈ gT := gT_in (inT1 (List.mem_of_getElem? (i := 199) rfl)) rfl
theorem mw_120 : Cond.instanceMethod yX1_cutText ∈ gT := gT_in (inT1 (List.mem_of_getElem? (i := 200) rfl)) rfl
theorem mw_121 : Cond.selects RX1 yX1_cutText yX1_cutText ∈ gT := gT_in (inT1 (List.mem_of_getElem? (i := 201) rfl)) rfl
theorem mw_122 : Cond.code yX1_cutText cX1_cutText 6 none ∈ gT := gT_in (inT1 (List.mem_of_getElem? (i := 202) rfl)) rfl
theorem mw_123 : Cond.methodLink RX1 21 yX1_begin ∈ gT := gT_in (inT1 (List.mem_of_getElem? (i := 203) rfl)) rfl
theorem mw_124 : Cond.instanceMethod yX1_begin ∈ gT := gT_in (inT1 (List.mem_of_getElem? (i := 205) rfl)) rfl
theorem mw_125 : Cond.code yX1_begin cX1_begin 4 none ∈ gT := gT_in (inT1 (List.mem_of_getElem? (i := 206) rfl)) rfl
theorem mw_126 : Cond.fieldLink RX1 54 "ColumnReader$Cut" "MARKS" "[C" ∈ gT := gT_in (inT1 (List.mem_of_getElem? (i := 207) rfl)) rfl
theorem mw_127 : Cond.methodLink RX1 25 yJ9_min_7cf53 ∈ gT := gT_in (inT1 (List.mem_of_getElem? (i := 209) rfl)) rfl
theorem mw_128 : Cond.static yJ9_min_7cf53 ∈ gT := gT_in (inT1 (List.mem_of_getElem? (i := 210) rfl)) rfl
theorem mw_129 : Cond.code yJ9_min_7cf53 cJ9_min_7cf53 2 (some .int) ∈ gT := gT_in (inT1 (List.mem_of_getElem? (i := 211) rfl)) rfl
theorem mw_130 : Cond.methodLink RX1 31 yX1_openCell ∈ gT := gT_in (inT1 (List.mem_of_getElem? (i := 212) rfl)) rfl
theorem mw_131 : Cond.instanceMethod yX1_openCell ∈ gT := gT_in (inT1 (List.mem_of_getElem? (i := 214) rfl)) rfl
theorem mw_132 : Cond.code yX1_openCell cX1_openCell 4 none ∈ gT := gT_in (inT1 (List.mem_of_getElem? (i := 215) rfl)) rfl
theorem mw_133 : Cond.methodLink RX1 39 yX1_fail ∈ gT := gT_in (inT1 (List.mem_of_getElem? (i := 216) rfl)) rfl
theorem mw_134 : Cond.instanceMethod yX1_fail ∈ gT := gT_in (inT1 (List.mem_of_getElem? (i := 218) rfl)) rfl
theorem mw_135 : Cond.code yX1_fail cX1_fail 3 none ∈ gT := gT_in (inT1 (List.mem_of_getElem? (i := 219) rfl)) rfl
theorem mw_136 : Cond.methodLink RX1 47 yX1_take ∈ gT := gT_in (inT1 (List.mem_of_getElem? (i := 220) rfl)) rfl
theorem mw_137 : Cond.instanceMethod yX1_take ∈ gT := gT_in (inT1 (List.mem_of_getElem? (i := 222) rfl)) rfl
theorem mw_138 : Cond.code yX1_take cX1_take 4 none ∈ gT := gT_in (inT1 (List.mem_of_getElem? (i := 223) rfl)) rfl
theorem mw_139 : Cond.methodLink RX1 79 yX1_hold ∈ gT := gT_in (inT1 (List.mem_of_getElem? (i := 224) rfl)) rfl
theorem mw_140 : Cond.instanceMethod yX1_hold ∈ gT := gT_in (inT1 (List.mem_of_getElem? (i := 226) rfl)) rfl
theorem mw_141 : Cond.code yX1_hold cX1_hold 2 none ∈ gT := gT_in (inT1 (List.mem_of_getElem? (i := 227) rfl)) rfl
theorem mw_142 : Cond.methodLink RX1 51 yX1_finish ∈ gT := gT_in (inT1 (List.mem_of_getElem? (i := 228) rfl)) rfl
theorem mw_143 : Cond.instanceMethod yX1_finish ∈ gT := gT_in (inT1 (List.mem_of_getElem? (i := 230) rfl)) rfl
theorem mw_144 : Cond.code yX1_finish cX1_finish 1 none ∈ gT := gT_in (inT1 (List.mem_of_getElem? (i := 231) rfl)) rfl
theorem mw_145 : Cond.methodLink RX3 164 yX0_forget ∈ gT := gT_in (inT1 (List.mem_of_getElem? (i := 232) rfl)) rfl
theorem mw_146 : Cond.instanceMethod yX0_forget ∈ gT := gT_in (inT1 (List.mem_of_getElem? (i := 233) rfl)) rfl
theorem mw_147 : Cond.selects RX0 yX0_forget yX0_forget ∈ gT := gT_in (inT1 (List.mem_of_getElem? (i := 234) rfl)) rfl
theorem mw_148 : Cond.code yX0_forget cX0_forget 1 none ∈ gT := gT_in (inT1 (List.mem_of_getElem? (i := 235) rfl)) rfl
theorem mw_149 : Cond.methodLink RX0 42 yJ7_fill_53178 ∈ gT := gT_in (inT1 (List.mem_of_getElem? (i := 236) rfl)) rfl
theorem mw_150 : Cond.methodLink RL 31 yX3_faultAt ∈ gT := gT_in (inT1 (List.mem_of_getElem? (i := 237) rfl)) rfl
theorem mw_151 : Cond.instanceMethod yX3_faultAt ∈ gT := gT_in (inT1 (List.mem_of_getElem? (i := 238) rfl)) rfl
theorem mw_152 : Cond.selects RX3 yX3_faultAt yX3_faultAt ∈ gT := gT_in (inT1 (List.mem_of_getElem? (i := 239) rfl)) rfl
theorem mw_153 : Cond.code yX3_faultAt cX3_faultAt 2 (some .int) ∈ gT := gT_in (inT2 (List.mem_of_getElem? (i := 0) rfl)) rfl
theorem mw_154 : Cond.methodLink RL 35 yX3_cost ∈ gT := gT_in (inT2 (List.mem_of_getElem? (i := 1) rfl)) rfl
theorem mw_155 : Cond.instanceMethod yX3_cost ∈ gT := gT_in (inT2 (List.mem_of_getElem? (i := 2) rfl)) rfl
theorem mw_156 : Cond.selects RX3 yX3_cost yX3_cost ∈ gT := gT_in (inT2 (List.mem_of_getElem? (i := 3) rfl)) rfl
theorem mw_157 : Cond.code yX3_cost cX3_cost 2 (some .int) ∈ gT := gT_in (inT2 (List.mem_of_getElem? (i := 4) rfl)) rfl
theorem mw_158 : Cond.methodLink RX3 80 yX3_priceOfMake ∈ gT := gT_in (inT2 (List.mem_of_getElem? (i := 5) rfl)) rfl
theorem mw_159 : Cond.instanceMethod yX3_priceOfMake ∈ gT := gT_in (inT2 (List.mem_of_getElem? (i := 7) rfl)) rfl
theorem mw_160 : Cond.code yX3_priceOfMake cX3_priceOfMake 4 (some .int) ∈ gT := gT_in (inT2 (List.mem_of_getElem? (i := 8) rfl)) rfl
theorem mw_161 : Cond.methodLink RX3 170 yX1_priceBesideColumns ∈ gT := gT_in (inT2 (List.mem_of_getElem? (i := 9) rfl)) rfl
theorem mw_162 : Cond.instanceMethod yX1_priceBesideColumns ∈ gT := gT_in (inT2 (List.mem_of_getElem? (i := 10) rfl)) rfl
theorem mw_163 : Cond.selects RX1 yX1_priceBesideColumns yX1_priceBesideColumns ∈ gT := gT_in (inT2 (List.mem_of_getElem? (i := 11) rfl)) rfl
theorem mw_164 : Cond.code yX1_priceBesideColumns cX1_priceBesideColumns 3 (some .int) ∈ gT := gT_in (inT2 (List.mem_of_getElem? (i := 12) rfl)) rfl
theorem mw_165 : Cond.methodLink RX1 106 yX1_width ∈ gT := gT_in (inT2 (List.mem_of_getElem? (i := 13) rfl)) rfl
theorem mw_166 : Cond.instanceMethod yX1_width ∈ gT := gT_in (inT2 (List.mem_of_getElem? (i := 14) rfl)) rfl
theorem mw_167 : Cond.selects RX1 yX1_width yX1_width ∈ gT := gT_in (inT2 (List.mem_of_getElem? (i := 15) rfl)) rfl
theorem mw_168 : Cond.code yX1_width cX1_width 1 (some .int) ∈ gT := gT_in (inT2 (List.mem_of_getElem? (i := 16) rfl)) rfl
theorem mw_169 : Cond.methodLink RX1 109 yX1_bytesOf ∈ gT := gT_in (inT2 (List.mem_of_getElem? (i := 17) rfl)) rfl
theorem mw_170 : Cond.instanceMethod yX1_bytesOf ∈ gT := gT_in (inT2 (List.mem_of_getElem? (i := 19) rfl)) rfl
theorem mw_171 : Cond.code yX1_bytesOf cX1_bytesOf 2 (some .int) ∈ gT := gT_in (inT2 (List.mem_of_getElem? (i := 20) rfl)) rfl
theorem mw_172 : Cond.methodLink RX1 85 yX1_isOdd ∈ gT := gT_in (inT2 (List.mem_of_getElem? (i := 21) rfl)) rfl
theorem mw_173 : Cond.instanceMethod yX1_isOdd ∈ gT := gT_in (inT2 (List.mem_of_getElem? (i := 22) rfl)) rfl
theorem mw_174 : Cond.selects RX1 yX1_isOdd yX1_isOdd ∈ gT := gT_in (inT2 (List.mem_of_getElem? (i := 23) rfl)) rfl
theorem mw_175 : Cond.code yX1_isOdd cX1_isOdd 2 (some .boolean) ∈ gT := gT_in (inT2 (List.mem_of_getElem? (i := 24) rfl)) rfl
theorem mw_176 : Cond.methodLink RX3 87 yX1_width ∈ gT := gT_in (inT2 (List.mem_of_getElem? (i := 25) rfl)) rfl
theorem mw_177 : Cond.methodLink RX3 167 yX0_choose ∈ gT := gT_in (inT2 (List.mem_of_getElem? (i := 26) rfl)) rfl
theorem mw_178 : Cond.instanceMethod yX0_choose ∈ gT := gT_in (inT2 (List.mem_of_getElem? (i := 27) rfl)) rfl
theorem mw_179 : Cond.selects RX0 yX0_choose yX0_choose ∈ gT := gT_in (inT2 (List.mem_of_getElem? (i := 28) rfl)) rfl
theorem mw_180 : Cond.code yX0_choose cX0_choose 5 none ∈ gT := gT_in (inT2 (List.mem_of_getElem? (i := 29) rfl)) rfl
theorem mw_181 : Cond.methodLink RX0 48 yX0_survey ∈ gT := gT_in (inT2 (List.mem_of_getElem? (i := 30) rfl)) rfl
theorem mw_182 : Cond.instanceMethod yX0_survey ∈ gT := gT_in (inT2 (List.mem_of_getElem? (i := 31) rfl)) rfl
theorem mw_183 : Cond.selects RX0 yX0_survey yX0_survey ∈ gT := gT_in (inT2 (List.mem_of_getElem? (i := 32) rfl)) rfl
theorem mw_184 : Cond.code yX0_survey cX0_survey 5 none ∈ gT := gT_in (inT2 (List.mem_of_getElem? (i := 33) rfl)) rfl
theorem mw_185 : Cond.methodLink RX0 70 yX1_isInColumns ∈ gT := gT_in (inT2 (List.mem_of_getElem? (i := 34) rfl)) rfl
theorem mw_186 : Cond.instanceMethod yX1_isInColumns ∈ gT := gT_in (inT2 (List.mem_of_getElem? (i := 35) rfl)) rfl
theorem mw_187 : Cond.selects RX1 yX1_isInColumns yX1_isInColumns ∈ gT := gT_in (inT2 (List.mem_of_getElem? (i := 36) rfl)) rfl
theorem mw_188 : Cond.code yX1_isInColumns cX1_isInColumns 2 (some .boolean) ∈ gT := gT_in (inT2 (List.mem_of_getElem? (i := 37) rfl)) rfl
theorem mw_189 : Cond.methodLink RX0 74 yX1_cellIn ∈ gT := gT_in (inT2 (List.mem_of_getElem? (i := 38) rfl)) rfl
theorem mw_190 : Cond.instanceMethod yX1_cellIn ∈ gT := gT_in (inT2 (List.mem_of_getElem? (i := 39) rfl)) rfl
theorem mw_191 : Cond.selects RX1 yX1_cellIn yX1_cellIn ∈ gT := gT_in (inT2 (List.mem_of_getElem? (i := 40) rfl)) rfl
theorem mw_192 : Cond.code yX1_cellIn cX1_cellIn 3 (some .int) ∈ gT := gT_in (inT2 (List.mem_of_getElem? (i := 41) rfl)) rfl
theorem mw_193 : Cond.methodLink RX0 78 yX0_isMissing ∈ gT := gT_in (inT2 (List.mem_of_getElem? (i := 42) rfl)) rfl
theorem mw_194 : Cond.instanceMethod yX0_isMissing ∈ gT := gT_in (inT2 (List.mem_of_getElem? (i := 44) rfl)) rfl
theorem mw_195 : Cond.code yX0_isMissing cX0_isMissing 3 (some .boolean) ∈ gT := gT_in (inT2 (List.mem_of_getElem? (i := 45) rfl)) rfl
theorem mw_196 : Cond.methodLink RX0 88 yX1_isWord ∈ gT := gT_in (inT2 (List.mem_of_getElem? (i := 47) rfl)) rfl
theorem mw_197 : Cond.instanceMethod yX1_isWord ∈ gT := gT_in (inT2 (List.mem_of_getElem? (i := 48) rfl)) rfl
theorem mw_198 : Cond.selects RX1 yX1_isWord yX1_isWord ∈ gT := gT_in (inT2 (List.mem_of_getElem? (i := 49) rfl)) rfl
theorem mw_199 : Cond.code yX1_isWord cX1_isWord 5 (some .boolean) ∈ gT := gT_in (inT2 (List.mem_of_getElem? (i := 50) rfl)) rfl
theorem mw_200 : Cond.methodLink RX1 89 yJ0_length_8abf5 ∈ gT := gT_in (inT2 (List.mem_of_getElem? (i := 51) rfl)) rfl
theorem mw_201 : Cond.instanceMethod yJ0_length_8abf5 ∈ gT := gT_in (inT2 (List.mem_of_getElem? (i := 52) rfl)) rfl
theorem mw_202 : Cond.selects RJ0 yJ0_length_8abf5 yJ0_length_8abf5 ∈ gT := gT_in (inT2 (List.mem_of_getElem? (i := 53) rfl)) rfl
theorem mw_203 : Cond.code yJ0_length_8abf5 cJ0_length_8abf5 1 (some .int) ∈ gT := gT_in (inT2 (List.mem_of_getElem? (i := 54) rfl)) rfl
theorem mw_204 : Cond.methodLink RJ0 335 yJ0_coder_7d493 ∈ gT := gT_in (inT2 (List.mem_of_getElem? (i := 55) rfl)) rfl
theorem mw_205 : Cond.instanceMethod yJ0_coder_7d493 ∈ gT := gT_in (inT2 (List.mem_of_getElem? (i := 56) rfl)) rfl
theorem mw_206 : Cond.selects RJ0 yJ0_coder_7d493 yJ0_coder_7d493 ∈ gT := gT_in (inT2 (List.mem_of_getElem? (i := 57) rfl)) rfl
theorem mw_207 : Cond.code yJ0_coder_7d493 cJ0_coder_7d493 1 (some .byte) ∈ gT := gT_in (inT2 (List.mem_of_getElem? (i := 58) rfl)) rfl
theorem mw_208 : Cond.fieldLink RJ0 38 "java/lang/String" "COMPACT_STRINGS" "Z" ∈ gT := gT_in (inT2 (List.mem_of_getElem? (i := 59) rfl)) rfl
theorem mw_209 : Cond.methodLink RX1 95 yJ0_charAt_5068e ∈ gT := gT_in (inT2 (List.mem_of_getElem? (i := 61) rfl)) rfl
theorem mw_210 : Cond.instanceMethod yJ0_charAt_5068e ∈ gT := gT_in (inT2 (List.mem_of_getElem? (i := 62) rfl)) rfl
theorem mw_211 : Cond.selects RJ0 yJ0_charAt_5068e yJ0_charAt_5068e ∈ gT := gT_in (inT2 (List.mem_of_getElem? (i := 63) rfl)) rfl
theorem mw_212 : Cond.code yJ0_charAt_5068e cJ0_charAt_5068e 2 (some .char) ∈ gT := gT_in (inT2 (List.mem_of_getElem? (i := 64) rfl)) rfl
theorem mw_213 : Cond.methodLink RJ0 492 yJ0_isLatin1_aae02 ∈ gT := gT_in (inT2 (List.mem_of_getElem? (i := 65) rfl)) rfl
theorem mw_214 : Cond.instanceMethod yJ0_isLatin1_aae02 ∈ gT := gT_in (inT2 (List.mem_of_getElem? (i := 66) rfl)) rfl
theorem mw_215 : Cond.selects RJ0 yJ0_isLatin1_aae02 yJ0_isLatin1_aae02 ∈ gT := gT_in (inT2 (List.mem_of_getElem? (i := 67) rfl)) rfl
theorem mw_216 : Cond.code yJ0_isLatin1_aae02 cJ0_isLatin1_aae02 1 (some .boolean) ∈ gT := gT_in (inT2 (List.mem_of_getElem? (i := 68) rfl)) rfl
theorem mw_217 : Cond.methodLink RJ0 495 yJ1_charAt_3b067 ∈ gT := gT_in (inT2 (List.mem_of_getElem? (i := 69) rfl)) rfl
theorem mw_218 : Cond.static yJ1_charAt_3b067 ∈ gT := gT_in (inT2 (List.mem_of_getElem? (i := 70) rfl)) rfl
theorem mw_219 : Cond.code yJ1_charAt_3b067 cJ1_charAt_3b067 2 (some .char) ∈ gT := gT_in (inT2 (List.mem_of_getElem? (i := 71) rfl)) rfl
theorem mw_220 : Cond.methodLink RJ1 9 yJ0_checkIndex_df160 ∈ gT := gT_in (inT2 (List.mem_of_getElem? (i := 72) rfl)) rfl
theorem mw_221 : Cond.static yJ0_checkIndex_df160 ∈ gT := gT_in (inT2 (List.mem_of_getElem? (i := 73) rfl)) rfl
theorem mw_222 : Cond.code yJ0_checkIndex_df160 cJ0_checkIndex_df160 2 none ∈ gT := gT_in (inT2 (List.mem_of_getElem? (i := 74) rfl)) rfl
theorem mw_223 : Cond.fieldLink RJ0 1053 "jdk/internal/util/Preconditions" "SIOOBE_FORMATTER" "Ljava/util/function/BiFunction;" ∈ gT := gT_in (inT2 (List.mem_of_getElem? (i := 75) rfl)) rfl
theorem mw_224 : Cond.methodLink RJ0 1059 yJ3_checkIndex_8e157 ∈ gT := gT_in (inT2 (List.mem_of_getElem? (i := 77) rfl)) rfl
theorem mw_225 : Cond.static yJ3_checkIndex_8e157 ∈ gT := gT_in (inT2 (List.mem_of_getElem? (i := 78) rfl)) rfl
theorem mw_226 : Cond.code yJ3_checkIndex_8e157 cJ3_checkIndex_8e157 3 (some .int) ∈ gT := gT_in (inT2 (List.mem_of_getElem? (i := 79) rfl)) rfl
theorem mw_227 : Cond.methodLink RJ0 498 yJ2_charAt_3b067 ∈ gT := gT_in (inT2 (List.mem_of_getElem? (i := 80) rfl)) rfl
theorem mw_228 : Cond.static yJ2_charAt_3b067 ∈ gT := gT_in (inT2 (List.mem_of_getElem? (i := 81) rfl)) rfl
theorem mw_229 : Cond.code yJ2_charAt_3b067 cJ2_charAt_3b067 2 (some .char) ∈ gT := gT_in (inT2 (List.mem_of_getElem? (i := 82) rfl)) rfl
theorem mw_230 : Cond.methodLink RJ2 67 yJ2_checkIndex_2214a ∈ gT := gT_in (inT2 (List.mem_of_getElem? (i := 83) rfl)) rfl
theorem mw_231 : Cond.static yJ2_checkIndex_2214a ∈ gT := gT_in (inT2 (List.mem_of_getElem? (i := 84) rfl)) rfl
theorem mw_232 : Cond.code yJ2_checkIndex_2214a cJ2_checkIndex_2214a 2 none ∈ gT := gT_in (inT2 (List.mem_of_getElem? (i := 85) rfl)) rfl
theorem mw_233 : Cond.methodLink RJ2 48 yJ2_length_9d52b ∈ gT := gT_in (inT2 (List.mem_of_getElem? (i := 86) rfl)) rfl
theorem mw_234 : Cond.static yJ2_length_9d52b ∈ gT := gT_in (inT2 (List.mem_of_getElem? (i := 87) rfl)) rfl
theorem mw_235 : Cond.code yJ2_length_9d52b cJ2_length_9d52b 1 (some .int) ∈ gT := gT_in (inT2 (List.mem_of_getElem? (i := 88) rfl)) rfl
theorem mw_236 : Cond.methodLink RJ2 414 yJ0_checkIndex_df160 ∈ gT := gT_in (inT2 (List.mem_of_getElem? (i := 89) rfl)) rfl
theorem mw_237 : Cond.methodLink RJ2 71 yJ2_getChar_3b067 ∈ gT := gT_in (inT2 (List.mem_of_getElem? (i := 90) rfl)) rfl
theorem mw_238 : Cond.static yJ2_getChar_3b067 ∈ gT := gT_in (inT2 (List.mem_of_getElem? (i := 91) rfl)) rfl
theorem mw_239 : Cond.code yJ2_getChar_3b067 cJ2_getChar_3b067 2 (some .char) ∈ gT := gT_in (inT2 (List.mem_of_getElem? (i := 92) rfl)) rfl
theorem mw_240 : Cond.fieldLink RJ2 44 "java/lang/StringUTF16" "$assertionsDisabled" "Z" ∈ gT := gT_in (inT2 (List.mem_of_getElem? (i := 93) rfl)) rfl
theorem mw_241 : Cond.fieldLink RJ2 59 "java/lang/StringUTF16" "HI_BYTE_SHIFT" "I" ∈ gT := gT_in (inT2 (List.mem_of_getElem? (i := 95) rfl)) rfl
theorem mw_242 : Cond.fieldLink RJ2 63 "java/lang/StringUTF16" "LO_BYTE_SHIFT" "I" ∈ gT := gT_in (inT2 (List.mem_of_getElem? (i := 97) rfl)) rfl
theorem mw_243 : Cond.methodLink RX0 82 yX2_prepare ∈ gT := gT_in (inT2 (List.mem_of_getElem? (i := 102) rfl)) rfl
theorem mw_244 : Cond.instanceMethod yX2_prepare ∈ gT := gT_in (inT2 (List.mem_of_getElem? (i := 103) rfl)) rfl
theorem mw_245 : Cond.selects RX2 yX2_prepare yX2_prepare ∈ gT := gT_in (inT2 (List.mem_of_getElem? (i := 104) rfl)) rfl
theorem mw_246 : Cond.code yX2_prepare cX2_prepare 3 none ∈ gT := gT_in (inT2 (List.mem_of_getElem? (i := 105) rfl)) rfl
theorem mw_247 : Cond.methodLink RX0 52 yX0_price ∈ gT := gT_in (inT2 (List.mem_of_getElem? (i := 106) rfl)) rfl
theorem mw_248 : Cond.instanceMethod yX0_price ∈ gT := gT_in (inT2 (List.mem_of_getElem? (i := 107) rfl)) rfl
theorem mw_249 : Cond.selects RX0 yX0_price yX0_price ∈ gT := gT_in (inT2 (List.mem_of_getElem? (i := 108) rfl)) rfl
theorem mw_250 : Cond.code yX0_price cX0_price 7 (some .int) ∈ gT := gT_in (inT2 (List.mem_of_getElem? (i := 109) rfl)) rfl
theorem mw_251 : Cond.methodLink RX0 98 yX2_isNumber ∈ gT := gT_in (inT2 (List.mem_of_getElem? (i := 110) rfl)) rfl
theorem mw_252 : Cond.static yX2_isNumber ∈ gT := gT_in (inT2 (List.mem_of_getElem? (i := 111) rfl)) rfl
theorem mw_253 : Cond.code yX2_isNumber cX2_isNumber 1 (some .boolean) ∈ gT := gT_in (inT2 (List.mem_of_getElem? (i := 112) rfl)) rfl
theorem mw_254 : Cond.methodLink RX0 101 yX2_priceOfForm ∈ gT := gT_in (inT2 (List.mem_of_getElem? (i := 113) rfl)) rfl
theorem mw_255 : Cond.instanceMethod yX2_priceOfForm ∈ gT := gT_in (inT2 (List.mem_of_getElem? (i := 114) rfl)) rfl
theorem mw_256 : Cond.selects RX2 yX2_priceOfForm yX2_priceOfForm ∈ gT := gT_in (inT2 (List.mem_of_getElem? (i := 115) rfl)) rfl
theorem mw_257 : Cond.code yX2_priceOfForm cX2_priceOfForm 2 (some .int) ∈ gT := gT_in (inT2 (List.mem_of_getElem? (i := 116) rfl)) rfl
theorem mw_258 : Cond.methodLink RX2 84 yX1_lengthOf ∈ gT := gT_in (inT2 (List.mem_of_getElem? (i := 117) rfl)) rfl
theorem mw_259 : Cond.instanceMethod yX1_lengthOf ∈ gT := gT_in (inT2 (List.mem_of_getElem? (i := 118) rfl)) rfl
theorem mw_260 : Cond.selects RX1 yX1_lengthOf yX1_lengthOf ∈ gT := gT_in (inT2 (List.mem_of_getElem? (i := 119) rfl)) rfl
theorem mw_261 : Cond.code yX1_lengthOf cX1_lengthOf 2 (some .int) ∈ gT := gT_in (inT2 (List.mem_of_getElem? (i := 120) rfl)) rfl
theorem mw_262 : Cond.methodLink RX0 105 yX2_tells ∈ gT := gT_in (inT2 (List.mem_of_getElem? (i := 121) rfl)) rfl
theorem mw_263 : Cond.instanceMethod yX2_tells ∈ gT := gT_in (inT2 (List.mem_of_getElem? (i := 122) rfl)) rfl
theorem mw_264 : Cond.selects RX2 yX2_tells yX2_tells ∈ gT := gT_in (inT2 (List.mem_of_getElem? (i := 123) rfl)) rfl
theorem mw_265 : Cond.code yX2_tells cX2_tells 3 (some .boolean) ∈ gT := gT_in (inT2 (List.mem_of_getElem? (i := 124) rfl)) rfl
theorem mw_266 : Cond.methodLink RX2 29 yX2_tellsFlag ∈ gT := gT_in (inT2 (List.mem_of_getElem? (i := 125) rfl)) rfl
theorem mw_267 : Cond.instanceMethod yX2_tellsFlag ∈ gT := gT_in (inT2 (List.mem_of_getElem? (i := 127) rfl)) rfl
theorem mw_268 : Cond.code yX2_tellsFlag cX2_tellsFlag 3 (some .boolean) ∈ gT := gT_in (inT2 (List.mem_of_getElem? (i := 128) rfl)) rfl
theorem mw_269 : Cond.methodLink RX2 43 yX2_yesOf ∈ gT := gT_in (inT2 (List.mem_of_getElem? (i := 129) rfl)) rfl
theorem mw_270 : Cond.static yX2_yesOf ∈ gT := gT_in (inT2 (List.mem_of_getElem? (i := 130) rfl)) rfl
theorem mw_271 : Cond.code yX2_yesOf cX2_yesOf 1 (some (.object "java/lang/String")) ∈ gT := gT_in (inT2 (List.mem_of_getElem? (i := 131) rfl)) rfl
theorem mw_272 : Cond.methodLink RX2 47 yX1_isWord ∈ gT := gT_in (inT2 (List.mem_of_getElem? (i := 138) rfl)) rfl
theorem mw_273 : Cond.methodLink RX2 53 yX2_noOf ∈ gT := gT_in (inT2 (List.mem_of_getElem? (i := 139) rfl)) rfl
theorem mw_274 : Cond.static yX2_noOf ∈ gT := gT_in (inT2 (List.mem_of_getElem? (i := 140) rfl)) rfl
theorem mw_275 : Cond.code yX2_noOf cX2_noOf 1 (some (.object "java/lang/String")) ∈ gT := gT_in (inT2 (List.mem_of_getElem? (i := 141) rfl)) rfl
theorem mw_276 : Cond.methodLink RX2 33 yX2_tellsNumber ∈ gT := gT_in (inT2 (List.mem_of_getElem? (i := 148) rfl)) rfl
theorem mw_277 : Cond.instanceMethod yX2_tellsNumber ∈ gT := gT_in (inT2 (List.mem_of_getElem? (i := 150) rfl)) rfl
theorem mw_278 : Cond.code yX2_tellsNumber cX2_tellsNumber 12 (some .boolean) ∈ gT := gT_in (inT2 (List.mem_of_getElem? (i := 151) rfl)) rfl
theorem mw_279 : Cond.methodLink RX2 80 yX2_decimalsOf ∈ gT := gT_in (inT2 (List.mem_of_getElem? (i := 152) rfl)) rfl
theorem mw_280 : Cond.static yX2_decimalsOf ∈ gT := gT_in (inT2 (List.mem_of_getElem? (i := 153) rfl)) rfl
theorem mw_281 : Cond.code yX2_decimalsOf cX2_decimalsOf 1 (some .int) ∈ gT := gT_in (inT2 (List.mem_of_getElem? (i := 154) rfl)) rfl
theorem mw_282 : Cond.methodLink RX2 87 yX1_byteIn ∈ gT := gT_in (inT2 (List.mem_of_getElem? (i := 155) rfl)) rfl
theorem mw_283 : Cond.instanceMethod yX1_byteIn ∈ gT := gT_in (inT2 (List.mem_of_getElem? (i := 156) rfl)) rfl
theorem mw_284 : Cond.selects RX1 yX1_byteIn yX1_byteIn ∈ gT := gT_in (inT2 (List.mem_of_getElem? (i := 157) rfl)) rfl
theorem mw_285 : Cond.code yX1_byteIn cX1_byteIn 3 (some .int) ∈ gT := gT_in (inT2 (List.mem_of_getElem? (i := 158) rfl)) rfl
theorem mw_286 : Cond.methodLink RX2 91 yX2_pointOf ∈ gT := gT_in (inT2 (List.mem_of_getElem? (i := 159) rfl)) rfl
theorem mw_287 : Cond.static yX2_pointOf ∈ gT := gT_in (inT2 (List.mem_of_getElem? (i := 160) rfl)) rfl
theorem mw_288 : Cond.code yX2_pointOf cX2_pointOf 1 (some .int) ∈ gT := gT_in (inT2 (List.mem_of_getElem? (i := 161) rfl)) rfl
theorem mw_289 : Cond.methodLink RX2 94 yX2_thousandsOf ∈ gT := gT_in (inT2 (List.mem_of_getElem? (i := 162) rfl)) rfl
theorem mw_290 : Cond.static yX2_thousandsOf ∈ gT := gT_in (inT2 (List.mem_of_getElem? (i := 163) rfl)) rfl
theorem mw_291 : Cond.code yX2_thousandsOf cX2_thousandsOf 2 (some .int) ∈ gT := gT_in (inT2 (List.mem_of_getElem? (i := 164) rfl)) rfl
theorem mw_292 : Cond.methodLink RX2 97 yX2_signDue ∈ gT := gT_in (inT2 (List.mem_of_getElem? (i := 165) rfl)) rfl
theorem mw_293 : Cond.static yX2_signDue ∈ gT := gT_in (inT2 (List.mem_of_getElem? (i := 166) rfl)) rfl
theorem mw_294 : Cond.code yX2_signDue cX2_signDue 3 (some .int) ∈ gT := gT_in (inT2 (List.mem_of_getElem? (i := 167) rfl)) rfl
theorem mw_295 : Cond.methodLink RX2 101 yX2_bigOf ∈ gT := gT_in (inT2 (List.mem_of_getElem? (i := 168) rfl)) rfl
theorem mw_296 : Cond.static yX2_bigOf ∈ gT := gT_in (inT2 (List.mem_of_getElem? (i := 169) rfl)) rfl
theorem mw_297 : Cond.code yX2_bigOf cX2_bigOf 3 (some .int) ∈ gT := gT_in (inT2 (List.mem_of_getElem? (i := 170) rfl)) rfl
theorem mw_298 : Cond.methodLink RX2 36 yX2_tellsDay ∈ gT := gT_in (inT2 (List.mem_of_getElem? (i := 171) rfl)) rfl
theorem mw_299 : Cond.instanceMethod yX2_tellsDay ∈ gT := gT_in (inT2 (List.mem_of_getElem? (i := 173) rfl)) rfl
theorem mw_300 : Cond.code yX2_tellsDay cX2_tellsDay 9 (some .boolean) ∈ gT := gT_in (inT2 (List.mem_of_getElem? (i := 174) rfl)) rfl
theorem mw_301 : Cond.fieldLink RX2 104 "ColumnReader$Forms" "DAY_MARKS" "[C" ∈ gT := gT_in (inT2 (List.mem_of_getElem? (i := 175) rfl)) rfl
theorem mw_302 : Cond.methodLink RX2 108 yX1_numberIn ∈ gT := gT_in (inT2 (List.mem_of_getElem? (i := 177) rfl)) rfl
theorem mw_303 : Cond.instanceMethod yX1_numberIn ∈ gT := gT_in (inT2 (List.mem_of_getElem? (i := 178) rfl)) rfl
theorem mw_304 : Cond.selects RX1 yX1_numberIn yX1_numberIn ∈ gT := gT_in (inT2 (List.mem_of_getElem? (i := 179) rfl)) rfl
theorem mw_305 : Cond.code yX1_numberIn cX1_numberIn 7 (some .int) ∈ gT := gT_in (inT2 (List.mem_of_getElem? (i := 180) rfl)) rfl
theorem mw_306 : Cond.methodLink RX2 111 yX2_daysOf ∈ gT := gT_in (inT2 (List.mem_of_getElem? (i := 181) rfl)) rfl
theorem mw_307 : Cond.static yX2_daysOf ∈ gT := gT_in (inT2 (List.mem_of_getElem? (i := 182) rfl)) rfl
theorem mw_308 : Cond.code yX2_daysOf cX2_daysOf 3 (some .int) ∈ gT := gT_in (inT2 (List.mem_of_getElem? (i := 183) rfl)) rfl
theorem mw_309 : Cond.fieldLink RX2 114 "ColumnReader$Forms" "MONTH_DAYS" "[I" ∈ gT := gT_in (inT2 (List.mem_of_getElem? (i := 184) rfl)) rfl
theorem mw_310 : Cond.methodLink RX2 39 yX2_tellsCode ∈ gT := gT_in (inT2 (List.mem_of_getElem? (i := 186) rfl)) rfl
theorem mw_311 : Cond.instanceMethod yX2_tellsCode ∈ gT := gT_in (inT2 (List.mem_of_getElem? (i := 188) rfl)) rfl
theorem mw_312 : Cond.code yX2_tellsCode cX2_tellsCode 4 (some .boolean) ∈ gT := gT_in (inT2 (List.mem_of_getElem? (i := 189) rfl)) rfl
theorem mw_313 : Cond.methodLink RX2 118 yX2_sortOf ∈ gT := gT_in (inT2 (List.mem_of_getElem? (i := 190) rfl)) rfl
theorem mw_314 : Cond.static yX2_sortOf ∈ gT := gT_in (inT2 (List.mem_of_getElem? (i := 191) rfl)) rfl
theorem mw_315 : Cond.code yX2_sortOf cX2_sortOf 1 (some .int) ∈ gT := gT_in (inT2 (List.mem_of_getElem? (i := 192) rfl)) rfl
theorem mw_316 : Cond.methodLink RX0 108 yX2_priceOfCell ∈ gT := gT_in (inT2 (List.mem_of_getElem? (i := 193) rfl)) rfl
theorem mw_317 : Cond.instanceMethod yX2_priceOfCell ∈ gT := gT_in (inT2 (List.mem_of_getElem? (i := 194) rfl)) rfl
theorem mw_318 : Cond.selects RX2 yX2_priceOfCell yX2_priceOfCell ∈ gT := gT_in (inT2 (List.mem_of_getElem? (i := 195) rfl)) rfl
theorem mw_319 : Cond.code yX2_priceOfCell cX2_priceOfCell 3 (some .int) ∈ gT := gT_in (inT2 (List.mem_of_getElem? (i := 196) rfl)) rfl
theorem mw_320 : Cond.methodLink RX2 121 yX2_priceOfCode ∈ gT := gT_in (inT2 (List.mem_of_getElem? (i := 197) rfl)) rfl
theorem mw_321 : Cond.instanceMethod yX2_priceOfCode ∈ gT := gT_in (inT2 (List.mem_of_getElem? (i := 199) rfl)) rfl
theorem mw_322 : Cond.code yX2_priceOfCode cX2_priceOfCode 5 (some .int) ∈ gT := gT_in (inT2 (List.mem_of_getElem? (i := 200) rfl)) rfl
theorem mw_323 : Cond.methodLink RX0 56 yX0_weigh ∈ gT := gT_in (inT2 (List.mem_of_getElem? (i := 201) rfl)) rfl
theorem mw_324 : Cond.instanceMethod yX0_weigh ∈ gT := gT_in (inT2 (List.mem_of_getElem? (i := 203) rfl)) rfl
theorem mw_325 : Cond.code yX0_weigh cX0_weigh 7 none ∈ gT := gT_in (inT2 (List.mem_of_getElem? (i := 204) rfl)) rfl
theorem mw_326 : Cond.arrayClass .byte ∈ gT := gT_in (inT2 (List.mem_of_getElem? (i := 205) rfl)) rfl
theorem mw_327 : Cond.methodLink RL 39 yX3_best ∈ gT := gT_in (inT2 (List.mem_of_getElem? (i := 206) rfl)) rfl
theorem mw_328 : Cond.instanceMethod yX3_best ∈ gT := gT_in (inT2 (List.mem_of_getElem? (i := 207) rfl)) rfl
theorem mw_329 : Cond.selects RX3 yX3_best yX3_best ∈ gT := gT_in (inT2 (List.mem_of_getElem? (i := 208) rfl)) rfl
theorem mw_330 : Cond.code yX3_best cX3_best 5 (some .int) ∈ gT := gT_in (inT2 (List.mem_of_getElem? (i := 209) rfl)) rfl
theorem mw_331 : Cond.methodLink RL 44 yX3_use ∈ gT := gT_in (inT2 (List.mem_of_getElem? (i := 210) rfl)) rfl
theorem mw_332 : Cond.instanceMethod yX3_use ∈ gT := gT_in (inT2 (List.mem_of_getElem? (i := 211) rfl)) rfl
theorem mw_333 : Cond.selects RX3 yX3_use yX3_use ∈ gT := gT_in (inT2 (List.mem_of_getElem? (i := 212) rfl)) rfl
theorem mw_334 : Cond.code yX3_use cX3_use 2 (some .boolean) ∈ gT := gT_in (inT2 (List.mem_of_getElem? (i := 213) rfl)) rfl
theorem mw_335 : Cond.methodLink RL 49 yX3_about ∈ gT := gT_in (inT2 (List.mem_of_getElem? (i := 214) rfl)) rfl
theorem mw_336 : Cond.instanceMethod yX3_about ∈ gT := gT_in (inT2 (List.mem_of_getElem? (i := 215) rfl)) rfl
theorem mw_337 : Cond.selects RX3 yX3_about yX3_about ∈ gT := gT_in (inT2 (List.mem_of_getElem? (i := 216) rfl)) rfl
theorem mw_338 : Cond.code yX3_about cX3_about 2 (some .int) ∈ gT := gT_in (inT2 (List.mem_of_getElem? (i := 217) rfl)) rfl
theorem mw_339 : Cond.methodLink RX3 91 yX1_oddRows ∈ gT := gT_in (inT2 (List.mem_of_getElem? (i := 218) rfl)) rfl
theorem mw_340 : Cond.instanceMethod yX1_oddRows ∈ gT := gT_in (inT2 (List.mem_of_getElem? (i := 219) rfl)) rfl
theorem mw_341 : Cond.selects RX1 yX1_oddRows yX1_oddRows ∈ gT := gT_in (inT2 (List.mem_of_getElem? (i := 220) rfl)) rfl
theorem mw_342 : Cond.code yX1_oddRows cX1_oddRows 3 (some .int) ∈ gT := gT_in (inT2 (List.mem_of_getElem? (i := 221) rfl)) rfl
theorem mw_343 : Cond.methodLink RL 53 yX3_odd ∈ gT := gT_in (inT2 (List.mem_of_getElem? (i := 222) rfl)) rfl
theorem mw_344 : Cond.instanceMethod yX3_odd ∈ gT := gT_in (inT2 (List.mem_of_getElem? (i := 223) rfl)) rfl
theorem mw_345 : Cond.selects RX3 yX3_odd yX3_odd ∈ gT := gT_in (inT2 (List.mem_of_getElem? (i := 224) rfl)) rfl
theorem mw_346 : Cond.code yX3_odd cX3_odd 4 (some .int) ∈ gT := gT_in (inT2 (List.mem_of_getElem? (i := 225) rfl)) rfl
theorem mw_347 : Cond.methodLink RX3 94 yX1_isOdd ∈ gT := gT_in (inT2 (List.mem_of_getElem? (i := 226) rfl)) rfl
theorem mw_348 : Cond.methodLink RL 57 yX3_breadth ∈ gT := gT_in (inT2 (List.mem_of_getElem? (i := 227) rfl)) rfl
theorem mw_349 : Cond.instanceMethod yX3_breadth ∈ gT := gT_in (inT2 (List.mem_of_getElem? (i := 228) rfl)) rfl
theorem mw_350 : Cond.selects RX3 yX3_breadth yX3_breadth ∈ gT := gT_in (inT2 (List.mem_of_getElem? (i := 229) rfl)) rfl
theorem mw_351 : Cond.code yX3_breadth cX3_breadth 2 (some .int) ∈ gT := gT_in (inT2 (List.mem_of_getElem? (i := 230) rfl)) rfl
theorem mw_352 : Cond.methodLink RX3 97 yX1_cellsOf ∈ gT := gT_in (inT2 (List.mem_of_getElem? (i := 231) rfl)) rfl
theorem mw_353 : Cond.instanceMethod yX1_cellsOf ∈ gT := gT_in (inT2 (List.mem_of_getElem? (i := 232) rfl)) rfl
theorem mw_354 : Cond.selects RX1 yX1_cellsOf yX1_cellsOf ∈ gT := gT_in (inT2 (List.mem_of_getElem? (i := 233) rfl)) rfl
theorem mw_355 : Cond.code yX1_cellsOf cX1_cellsOf 2 (some .int) ∈ gT := gT_in (inT2 (List.mem_of_getElem? (i := 234) rfl)) rfl
theorem mw_356 : Cond.methodLink RL 61 yX3_size ∈ gT := gT_in (inT2 (List.mem_of_getElem? (i := 235) rfl)) rfl
theorem mw_357 : Cond.instanceMethod yX3_size ∈ gT := gT_in (inT2 (List.mem_of_getElem? (i := 236) rfl)) rfl
theorem mw_358 : Cond.selects RX3 yX3_size yX3_size ∈ gT := gT_in (inT2 (List.mem_of_getElem? (i := 237) rfl)) rfl
theorem mw_359 : Cond.code yX3_size cX3_size 3 (some .int) ∈ gT := gT_in (inT2 (List.mem_of_getElem? (i := 238) rfl)) rfl
theorem mw_360 : Cond.methodLink RX3 100 yX1_cellIn ∈ gT := gT_in (inT2 (List.mem_of_getElem? (i := 239) rfl)) rfl
theorem mw_361 : Cond.methodLink RX3 104 yX1_lengthOf ∈ gT := gT_in (inT3 (List.mem_of_getElem? (i := 0) rfl)) rfl
theorem mw_362 : Cond.methodLink RL 66 yX3_at ∈ gT := gT_in (inT3 (List.mem_of_getElem? (i := 1) rfl)) rfl
theorem mw_363 : Cond.instanceMethod yX3_at ∈ gT := gT_in (inT3 (List.mem_of_getElem? (i := 2) rfl)) rfl
theorem mw_364 : Cond.selects RX3 yX3_at yX3_at ∈ gT := gT_in (inT3 (List.mem_of_getElem? (i := 3) rfl)) rfl
theorem mw_365 : Cond.code yX3_at cX3_at 4 (some .int) ∈ gT := gT_in (inT3 (List.mem_of_getElem? (i := 4) rfl)) rfl
theorem mw_366 : Cond.methodLink RX3 107 yX1_byteIn ∈ gT := gT_in (inT3 (List.mem_of_getElem? (i := 5) rfl)) rfl
theorem mw_367 : Cond.methodLink RL 71 yX3_form ∈ gT := gT_in (inT3 (List.mem_of_getElem? (i := 6) rfl)) rfl
theorem mw_368 : Cond.instanceMethod yX3_form ∈ gT := gT_in (inT3 (List.mem_of_getElem? (i := 7) rfl)) rfl
theorem mw_369 : Cond.selects RX3 yX3_form yX3_form ∈ gT := gT_in (inT3 (List.mem_of_getElem? (i := 8) rfl)) rfl
theorem mw_370 : Cond.code yX3_form cX3_form 2 (some .int) ∈ gT := gT_in (inT3 (List.mem_of_getElem? (i := 9) rfl)) rfl
theorem mw_371 : Cond.methodLink RX3 110 yX3_hasChosen ∈ gT := gT_in (inT3 (List.mem_of_getElem? (i := 10) rfl)) rfl
theorem mw_372 : Cond.instanceMethod yX3_hasChosen ∈ gT := gT_in (inT3 (List.mem_of_getElem? (i := 12) rfl)) rfl
theorem mw_373 : Cond.code yX3_hasChosen cX3_hasChosen 2 (some .boolean) ∈ gT := gT_in (inT3 (List.mem_of_getElem? (i := 13) rfl)) rfl
theorem mw_374 : Cond.methodLink RL 75 yX3_missing ∈ gT := gT_in (inT3 (List.mem_of_getElem? (i := 14) rfl)) rfl
theorem mw_375 : Cond.instanceMethod yX3_missing ∈ gT := gT_in (inT3 (List.mem_of_getElem? (i := 15) rfl)) rfl
theorem mw_376 : Cond.selects RX3 yX3_missing yX3_missing ∈ gT := gT_in (inT3 (List.mem_of_getElem? (i := 16) rfl)) rfl
theorem mw_377 : Cond.code yX3_missing cX3_missing 2 (some .int) ∈ gT := gT_in (inT3 (List.mem_of_getElem? (i := 17) rfl)) rfl
theorem mw_378 : Cond.methodLink RL 79 yX3_lacks ∈ gT := gT_in (inT3 (List.mem_of_getElem? (i := 18) rfl)) rfl
theorem mw_379 : Cond.instanceMethod yX3_lacks ∈ gT := gT_in (inT3 (List.mem_of_getElem? (i := 19) rfl)) rfl
theorem mw_380 : Cond.selects RX3 yX3_lacks yX3_lacks ∈ gT := gT_in (inT3 (List.mem_of_getElem? (i := 20) rfl)) rfl
theorem mw_381 : Cond.code yX3_lacks cX3_lacks 2 (some .int) ∈ gT := gT_in (inT3 (List.mem_of_getElem? (i := 21) rfl)) rfl
theorem mw_382 : Cond.methodLink RX3 119 yX0_countMissing ∈ gT := gT_in (inT3 (List.mem_of_getElem? (i := 22) rfl)) rfl
theorem mw_383 : Cond.instanceMethod yX0_countMissing ∈ gT := gT_in (inT3 (List.mem_of_getElem? (i := 23) rfl)) rfl
theorem mw_384 : Cond.selects RX0 yX0_countMissing yX0_countMissing ∈ gT := gT_in (inT3 (List.mem_of_getElem? (i := 24) rfl)) rfl
theorem mw_385 : Cond.code yX0_countMissing cX0_countMissing 3 (some .int) ∈ gT := gT_in (inT3 (List.mem_of_getElem? (i := 25) rfl)) rfl
theorem mw_386 : Cond.methodLink RL 83 yX3_costOf ∈ gT := gT_in (inT3 (List.mem_of_getElem? (i := 26) rfl)) rfl
theorem mw_387 : Cond.instanceMethod yX3_costOf ∈ gT := gT_in (inT3 (List.mem_of_getElem? (i := 27) rfl)) rfl
theorem mw_388 : Cond.selects RX3 yX3_costOf yX3_costOf ∈ gT := gT_in (inT3 (List.mem_of_getElem? (i := 28) rfl)) rfl
theorem mw_389 : Cond.code yX3_costOf cX3_costOf 4 (some .int) ∈ gT := gT_in (inT3 (List.mem_of_getElem? (i := 29) rfl)) rfl
theorem mw_390 : Cond.methodLink RX3 122 yX0_isForm ∈ gT := gT_in (inT3 (List.mem_of_getElem? (i := 30) rfl)) rfl
theorem mw_391 : Cond.static yX0_isForm ∈ gT := gT_in (inT3 (List.mem_of_getElem? (i := 31) rfl)) rfl
theorem mw_392 : Cond.code yX0_isForm cX0_isForm 1 (some .boolean) ∈ gT := gT_in (inT3 (List.mem_of_getElem? (i := 32) rfl)) rfl
theorem mw_393 : Cond.methodLink RX3 125 yX0_isCode ∈ gT := gT_in (inT3 (List.mem_of_getElem? (i := 33) rfl)) rfl
theorem mw_394 : Cond.static yX0_isCode ∈ gT := gT_in (inT3 (List.mem_of_getElem? (i := 34) rfl)) rfl
theorem mw_395 : Cond.code yX0_isCode cX0_isCode 1 (some .boolean) ∈ gT := gT_in (inT3 (List.mem_of_getElem? (i := 35) rfl)) rfl
theorem mw_396 : Cond.methodLink RX3 128 yX0_survey ∈ gT := gT_in (inT3 (List.mem_of_getElem? (i := 36) rfl)) rfl
theorem mw_397 : Cond.methodLink RX3 132 yX0_price ∈ gT := gT_in (inT3 (List.mem_of_getElem? (i := 37) rfl)) rfl
theorem mw_398 : Cond.methodLink RL 87 yX3_fits ∈ gT := gT_in (inT3 (List.mem_of_getElem? (i := 38) rfl)) rfl
theorem mw_399 : Cond.instanceMethod yX3_fits ∈ gT := gT_in (inT3 (List.mem_of_getElem? (i := 39) rfl)) rfl
theorem mw_400 : Cond.selects RX3 yX3_fits yX3_fits ∈ gT := gT_in (inT3 (List.mem_of_getElem? (i := 40) rfl)) rfl
theorem mw_401 : Cond.code yX3_fits cX3_fits 2 (some .int) ∈ gT := gT_in (inT3 (List.mem_of_getElem? (i := 41) rfl)) rfl
theorem mw_402 : Cond.methodLink RX3 139 yJ6_bitCount_0f7a4 ∈ gT := gT_in (inT3 (List.mem_of_getElem? (i := 42) rfl)) rfl
theorem mw_403 : Cond.static yJ6_bitCount_0f7a4 ∈ gT := gT_in (inT3 (List.mem_of_getElem? (i := 43) rfl)) rfl
theorem mw_404 : Cond.code yJ6_bitCount_0f7a4 cJ6_bitCount_0f7a4 1 (some .int) ∈ gT := gT_in (inT3 (List.mem_of_getElem? (i := 44) rfl)) rfl
theorem mw_405 : Cond.constant RJ6 265 1431655765 ∈ gT := gT_in (inT3 (List.mem_of_getElem? (i := 45) rfl)) rfl
theorem mw_406 : Cond.constant RJ6 266 858993459 ∈ gT := gT_in (inT3 (List.mem_of_getElem? (i := 46) rfl)) rfl
theorem mw_407 : Cond.constant RJ6 267 252645135 ∈ gT := gT_in (inT3 (List.mem_of_getElem? (i := 47) rfl)) rfl
theorem mw_408 : Cond.methodLink RL 91 yX3_doubt ∈ gT := gT_in (inT3 (List.mem_of_getElem? (i := 48) rfl)) rfl
theorem mw_409 : Cond.instanceMethod yX3_doubt ∈ gT := gT_in (inT3 (List.mem_of_getElem? (i := 49) rfl)) rfl
theorem mw_410 : Cond.selects RX3 yX3_doubt yX3_doubt ∈ gT := gT_in (inT3 (List.mem_of_getElem? (i := 50) rfl)) rfl
theorem mw_411 : Cond.code yX3_doubt cX3_doubt 2 (some .int) ∈ gT := gT_in (inT3 (List.mem_of_getElem? (i := 51) rfl)) rfl
theorem mw_412 : Cond.methodLink RX3 144 yX0_rivalOf ∈ gT := gT_in (inT3 (List.mem_of_getElem? (i := 52) rfl)) rfl
theorem mw_413 : Cond.instanceMethod yX0_rivalOf ∈ gT := gT_in (inT3 (List.mem_of_getElem? (i := 53) rfl)) rfl
theorem mw_414 : Cond.selects RX0 yX0_rivalOf yX0_rivalOf ∈ gT := gT_in (inT3 (List.mem_of_getElem? (i := 54) rfl)) rfl
theorem mw_415 : Cond.code yX0_rivalOf cX0_rivalOf 3 (some .int) ∈ gT := gT_in (inT3 (List.mem_of_getElem? (i := 55) rfl)) rfl
theorem mw_416 : Cond.methodLink RL 95 yX3_parts ∈ gT := gT_in (inT3 (List.mem_of_getElem? (i := 56) rfl)) rfl
theorem mw_417 : Cond.instanceMethod yX3_parts ∈ gT := gT_in (inT3 (List.mem_of_getElem? (i := 57) rfl)) rfl
theorem mw_418 : Cond.selects RX3 yX3_parts yX3_parts ∈ gT := gT_in (inT3 (List.mem_of_getElem? (i := 58) rfl)) rfl
theorem mw_419 : Cond.code yX3_parts cX3_parts 5 (some .int) ∈ gT := gT_in (inT3 (List.mem_of_getElem? (i := 59) rfl)) rfl
theorem mw_420 : Cond.methodLink RX3 147 yX0_partingRow ∈ gT := gT_in (inT3 (List.mem_of_getElem? (i := 60) rfl)) rfl
theorem mw_421 : Cond.instanceMethod yX0_partingRow ∈ gT := gT_in (inT3 (List.mem_of_getElem? (i := 61) rfl)) rfl
theorem mw_422 : Cond.selects RX0 yX0_partingRow yX0_partingRow ∈ gT := gT_in (inT3 (List.mem_of_getElem? (i := 62) rfl)) rfl
theorem mw_423 : Cond.code yX0_partingRow cX0_partingRow 7 (some .int) ∈ gT := gT_in (inT3 (List.mem_of_getElem? (i := 63) rfl)) rfl
theorem mw_424 : Cond.methodLink RL 100 yX3_value ∈ gT := gT_in (inT3 (List.mem_of_getElem? (i := 64) rfl)) rfl
theorem mw_425 : Cond.instanceMethod yX3_value ∈ gT := gT_in (inT3 (List.mem_of_getElem? (i := 65) rfl)) rfl
theorem mw_426 : Cond.selects RX3 yX3_value yX3_value ∈ gT := gT_in (inT3 (List.mem_of_getElem? (i := 66) rfl)) rfl
theorem mw_427 : Cond.code yX3_value cX3_value 3 (some .long) ∈ gT := gT_in (inT3 (List.mem_of_getElem? (i := 67) rfl)) rfl
theorem mw_428 : Cond.methodLink RX3 151 yX0_worthOf ∈ gT := gT_in (inT3 (List.mem_of_getElem? (i := 68) rfl)) rfl
theorem mw_429 : Cond.instanceMethod yX0_worthOf ∈ gT := gT_in (inT3 (List.mem_of_getElem? (i := 69) rfl)) rfl
theorem mw_430 : Cond.selects RX0 yX0_worthOf yX0_worthOf ∈ gT := gT_in (inT3 (List.mem_of_getElem? (i := 70) rfl)) rfl
theorem mw_431 : Cond.code yX0_worthOf cX0_worthOf 4 (some .int) ∈ gT := gT_in (inT3 (List.mem_of_getElem? (i := 71) rfl)) rfl
theorem mw_432 : Cond.methodLink RL 105 yX3_back ∈ gT := gT_in (inT3 (List.mem_of_getElem? (i := 72) rfl)) rfl
theorem mw_433 : Cond.instanceMethod yX3_back ∈ gT := gT_in (inT3 (List.mem_of_getElem? (i := 73) rfl)) rfl
theorem mw_434 : Cond.selects RX3 yX3_back yX3_back ∈ gT := gT_in (inT3 (List.mem_of_getElem? (i := 74) rfl)) rfl
theorem mw_435 : Cond.code yX3_back cX3_back 4 (some .int) ∈ gT := gT_in (inT3 (List.mem_of_getElem? (i := 75) rfl)) rfl
theorem mw_436 : Cond.methodLink RX3 154 yX1_isInColumns ∈ gT := gT_in (inT3 (List.mem_of_getElem? (i := 76) rfl)) rfl
theorem mw_437 : Cond.methodLink RL 109 yX3_key ∈ gT := gT_in (inT3 (List.mem_of_getElem? (i := 77) rfl)) rfl
theorem mw_438 : Cond.instanceMethod yX3_key ∈ gT := gT_in (inT3 (List.mem_of_getElem? (i := 78) rfl)) rfl
theorem mw_439 : Cond.selects RX3 yX3_key yX3_key ∈ gT := gT_in (inT3 (List.mem_of_getElem? (i := 79) rfl)) rfl
theorem mw_440 : Cond.code yX3_key cX3_key 2 (some .int) ∈ gT := gT_in (inT3 (List.mem_of_getElem? (i := 80) rfl)) rfl
theorem mw_441 : Cond.methodLink RX3 157 yX0_allUnlike ∈ gT := gT_in (inT3 (List.mem_of_getElem? (i := 81) rfl)) rfl
theorem mw_442 : Cond.instanceMethod yX0_allUnlike ∈ gT := gT_in (inT3 (List.mem_of_getElem? (i := 82) rfl)) rfl
theorem mw_443 : Cond.selects RX0 yX0_allUnlike yX0_allUnlike ∈ gT := gT_in (inT3 (List.mem_of_getElem? (i := 83) rfl)) rfl
theorem mw_444 : Cond.code yX0_allUnlike cX0_allUnlike 3 (some .boolean) ∈ gT := gT_in (inT3 (List.mem_of_getElem? (i := 84) rfl)) rfl
theorem mw_445 : Cond.methodLink RX0 114 yX0_isRepeated ∈ gT := gT_in (inT3 (List.mem_of_getElem? (i := 85) rfl)) rfl
theorem mw_446 : Cond.instanceMethod yX0_isRepeated ∈ gT := gT_in (inT3 (List.mem_of_getElem? (i := 87) rfl)) rfl
theorem mw_447 : Cond.code yX0_isRepeated cX0_isRepeated 5 (some .boolean) ∈ gT := gT_in (inT3 (List.mem_of_getElem? (i := 88) rfl)) rfl
theorem mw_448 : Cond.methodLink RX0 117 yX1_areAlike ∈ gT := gT_in (inT3 (List.mem_of_getElem? (i := 89) rfl)) rfl
theorem mw_449 : Cond.instanceMethod yX1_areAlike ∈ gT := gT_in (inT3 (List.mem_of_getElem? (i := 90) rfl)) rfl
theorem mw_450 : Cond.selects RX1 yX1_areAlike yX1_areAlike ∈ gT := gT_in (inT3 (List.mem_of_getElem? (i := 91) rfl)) rfl
theorem mw_451 : Cond.code yX1_areAlike cX1_areAlike 5 (some .boolean) ∈ gT := gT_in (inT3 (List.mem_of_getElem? (i := 92) rfl)) rfl
theorem mw_452 : Cond.methodLink RX1 99 yX1_lengthOf ∈ gT := gT_in (inT3 (List.mem_of_getElem? (i := 93) rfl)) rfl
theorem mw_453 : Cond.methodLink RX1 103 yX1_byteIn ∈ gT := gT_in (inT3 (List.mem_of_getElem? (i := 94) rfl)) rfl
theorem mw_454 : Cond.classLink RL 10 RX4 ∈ gT := gT_in (inT3 (List.mem_of_getElem? (i := 95) rfl)) rfl
theorem mw_455 : Cond.instantiable RX4 28 ∈ gT := gT_in (inT3 (List.mem_of_getElem? (i := 96) rfl)) rfl
theorem mw_456 : Cond.methodLink RL 12 yX4_init ∈ gT := gT_in (inT3 (List.mem_of_getElem? (i := 97) rfl)) rfl
theorem mw_457 : Cond.instanceMethod yX4_init ∈ gT := gT_in (inT3 (List.mem_of_getElem? (i := 98) rfl)) rfl
theorem mw_458 : Cond.code yX4_init cX4_init 1 none ∈ gT := gT_in (inT3 (List.mem_of_getElem? (i := 99) rfl)) rfl
theorem mw_459 : Cond.methodLink RX4 1 objectInit ∈ gT := gT_in (inT3 (List.mem_of_getElem? (i := 100) rfl)) rfl
theorem mw_460 : Cond.fieldLink RX4 7 "ColumnReaderModel" "tape" "[B" ∈ gT := gT_in (inT3 (List.mem_of_getElem? (i := 101) rfl)) rfl
theorem mw_461 : Cond.fieldLink RX4 13 "ColumnReaderModel" "text" "[B" ∈ gT := gT_in (inT3 (List.mem_of_getElem? (i := 102) rfl)) rfl
theorem mw_462 : Cond.fieldLink RX4 49 "ColumnReaderModel" "taped" "I" ∈ gT := gT_in (inT3 (List.mem_of_getElem? (i := 103) rfl)) rfl
theorem mw_463 : Cond.fieldLink RX4 60 "ColumnReaderModel" "size" "I" ∈ gT := gT_in (inT3 (List.mem_of_getElem? (i := 104) rfl)) rfl
theorem mw_464 : Cond.fieldLink RX4 66 "ColumnReaderModel" "used" "I" ∈ gT := gT_in (inT3 (List.mem_of_getElem? (i := 105) rfl)) rfl
theorem mw_465 : Cond.fieldLink RX4 16 "ColumnReaderModel" "loaded" "I" ∈ gT := gT_in (inT3 (List.mem_of_getElem? (i := 106) rfl)) rfl
theorem mw_466 : Cond.fieldLink RX4 92 "ColumnReaderModel" "rows" "I" ∈ gT := gT_in (inT3 (List.mem_of_getElem? (i := 107) rfl)) rfl
theorem mw_467 : Cond.fieldLink RX4 78 "ColumnReaderModel" "cellMany" "I" ∈ gT := gT_in (inT3 (List.mem_of_getElem? (i := 108) rfl)) rfl
theorem mw_468 : Cond.fieldLink RX4 69 "ColumnReaderModel" "fault" "I" ∈ gT := gT_in (inT3 (List.mem_of_getElem? (i := 109) rfl)) rfl
theorem mw_469 : Cond.fieldLink RX4 72 "ColumnReaderModel" "faultPlace" "I" ∈ gT := gT_in (inT3 (List.mem_of_getElem? (i := 110) rfl)) rfl
theorem mw_470 : Cond.fieldLink RX4 95 "ColumnReaderModel" "odds" "I" ∈ gT := gT_in (inT3 (List.mem_of_getElem? (i := 111) rfl)) rfl
theorem mw_471 : Cond.fieldLink RX4 20 "ColumnReaderModel" "rowFrom" "[I" ∈ gT := gT_in (inT3 (List.mem_of_getElem? (i := 112) rfl)) rfl
theorem mw_472 : Cond.fieldLink RX4 24 "ColumnReaderModel" "cellFrom" "[I" ∈ gT := gT_in (inT3 (List.mem_of_getElem? (i := 113) rfl)) rfl
theorem mw_473 : Cond.fieldLink RX4 27 "ColumnReaderModel" "cellSize" "[I" ∈ gT := gT_in (inT3 (List.mem_of_getElem? (i := 114) rfl)) rfl
theorem mw_474 : Cond.fieldLink RX4 30 "ColumnReaderModel" "bytes" "[B" ∈ gT := gT_in (inT3 (List.mem_of_getElem? (i := 115) rfl)) rfl
theorem mw_475 : Cond.fieldLink RX4 75 "ColumnReaderModel" "byteMany" "I" ∈ gT := gT_in (inT3 (List.mem_of_getElem? (i := 116) rfl)) rfl
theorem mw_476 : Cond.fieldLink RX4 33 "ColumnReaderModel" "isKnown" "[Z" ∈ gT := gT_in (inT3 (List.mem_of_getElem? (i := 117) rfl)) rfl
theorem mw_477 : Cond.fieldLink RX4 37 "ColumnReaderModel" "costs" "[I" ∈ gT := gT_in (inT3 (List.mem_of_getElem? (i := 118) rfl)) rfl
theorem mw_478 : Cond.fieldLink RX4 176 "ColumnReaderModel" "value" "J" ∈ gT := gT_in (inT3 (List.mem_of_getElem? (i := 119) rfl)) rfl
theorem mw_479 : Cond.fieldLink RX4 183 "ColumnReaderModel" "digits" "I" ∈ gT := gT_in (inT3 (List.mem_of_getElem? (i := 120) rfl)) rfl
theorem mw_480 : Cond.fieldLink RX4 40 "ColumnReaderModel" "column" "[I" ∈ gT := gT_in (inT3 (List.mem_of_getElem? (i := 121) rfl)) rfl
theorem mw_481 : Cond.fieldLink RX4 43 "ColumnReaderModel" "columnRow" "[I" ∈ gT := gT_in (inT3 (List.mem_of_getElem? (i := 122) rfl)) rfl
theorem mw_482 : Cond.fieldLink RX4 237 "ColumnReaderModel" "columnMany" "I" ∈ gT := gT_in (inT3 (List.mem_of_getElem? (i := 123) rfl)) rfl
theorem mw_483 : Cond.fieldLink RX4 261 "ColumnReaderModel" "bestForm" "I" ∈ gT := gT_in (inT3 (List.mem_of_getElem? (i := 124) rfl)) rfl
theorem mw_484 : Cond.fieldLink RX4 264 "ColumnReaderModel" "bestCode" "I" ∈ gT := gT_in (inT3 (List.mem_of_getElem? (i := 125) rfl)) rfl
theorem mw_485 : Cond.fieldLink RX4 267 "ColumnReaderModel" "bestCost" "I" ∈ gT := gT_in (inT3 (List.mem_of_getElem? (i := 126) rfl)) rfl
theorem mw_486 : Cond.fieldLink RX4 46 "ColumnReaderModel" "out" "[B" ∈ gT := gT_in (inT3 (List.mem_of_getElem? (i := 127) rfl)) rfl
theorem mw_487 : Cond.fieldLink RX4 297 "ColumnReaderModel" "outs" "I" ∈ gT := gT_in (inT3 (List.mem_of_getElem? (i := 128) rfl)) rfl
theorem mw_488 : Cond.arrayClass .boolean ∈ gT := gT_in (inT3 (List.mem_of_getElem? (i := 186) rfl)) rfl
theorem mw_489 : Cond.methodLink RL 17 yX4_feed ∈ gT := gT_in (inT3 (List.mem_of_getElem? (i := 187) rfl)) rfl
theorem mw_490 : Cond.instanceMethod yX4_feed ∈ gT := gT_in (inT3 (List.mem_of_getElem? (i := 188) rfl)) rfl
theorem mw_491 : Cond.selects RX4 yX4_feed yX4_feed ∈ gT := gT_in (inT3 (List.mem_of_getElem? (i := 189) rfl)) rfl
theorem mw_492 : Cond.code yX4_feed cX4_feed 6 (some .int) ∈ gT := gT_in (inT3 (List.mem_of_getElem? (i := 190) rfl)) rfl
theorem mw_493 : Cond.methodLink RX4 52 yX4_feedOne ∈ gT := gT_in (inT3 (List.mem_of_getElem? (i := 191) rfl)) rfl
theorem mw_494 : Cond.instanceMethod yX4_feedOne ∈ gT := gT_in (inT3 (List.mem_of_getElem? (i := 193) rfl)) rfl
theorem mw_495 : Cond.code yX4_feedOne cX4_feedOne 3 none ∈ gT := gT_in (inT3 (List.mem_of_getElem? (i := 194) rfl)) rfl
theorem mw_496 : Cond.methodLink RL 22 yX4_add ∈ gT := gT_in (inT3 (List.mem_of_getElem? (i := 195) rfl)) rfl
theorem mw_497 : Cond.instanceMethod yX4_add ∈ gT := gT_in (inT3 (List.mem_of_getElem? (i := 196) rfl)) rfl
theorem mw_498 : Cond.selects RX4 yX4_add yX4_add ∈ gT := gT_in (inT3 (List.mem_of_getElem? (i := 197) rfl)) rfl
theorem mw_499 : Cond.code yX4_add cX4_add 3 (some .int) ∈ gT := gT_in (inT3 (List.mem_of_getElem? (i := 198) rfl)) rfl
theorem mw_500 : Cond.methodLink RX4 56 yX4_in ∈ gT := gT_in (inT3 (List.mem_of_getElem? (i := 199) rfl)) rfl
theorem mw_501 : Cond.static yX4_in ∈ gT := gT_in (inT3 (List.mem_of_getElem? (i := 200) rfl)) rfl
theorem mw_502 : Cond.code yX4_in cX4_in 3 (some .boolean) ∈ gT := gT_in (inT3 (List.mem_of_getElem? (i := 201) rfl)) rfl
theorem mw_503 : Cond.methodLink RX4 63 yX4_changes ∈ gT := gT_in (inT3 (List.mem_of_getElem? (i := 202) rfl)) rfl
theorem mw_504 : Cond.instanceMethod yX4_changes ∈ gT := gT_in (inT3 (List.mem_of_getElem? (i := 204) rfl)) rfl
theorem mw_505 : Cond.code yX4_changes cX4_changes 2 none ∈ gT := gT_in (inT3 (List.mem_of_getElem? (i := 205) rfl)) rfl
theorem mw_506 : Cond.methodLink RL 26 yX4_clear ∈ gT := gT_in (inT3 (List.mem_of_getElem? (i := 206) rfl)) rfl
theorem mw_507 : Cond.instanceMethod yX4_clear ∈ gT := gT_in (inT3 (List.mem_of_getElem? (i := 207) rfl)) rfl
theorem mw_508 : Cond.selects RX4 yX4_clear yX4_clear ∈ gT := gT_in (inT3 (List.mem_of_getElem? (i := 208) rfl)) rfl
theorem mw_509 : Cond.code yX4_clear cX4_clear 1 none ∈ gT := gT_in (inT3 (List.mem_of_getElem? (i := 209) rfl)) rfl
theorem mw_510 : Cond.methodLink RL 30 yX4_reads ∈ gT := gT_in (inT3 (List.mem_of_getElem? (i := 210) rfl)) rfl
theorem mw_511 : Cond.instanceMethod yX4_reads ∈ gT := gT_in (inT3 (List.mem_of_getElem? (i := 211) rfl)) rfl
theorem mw_512 : Cond.selects RX4 yX4_reads yX4_reads ∈ gT := gT_in (inT3 (List.mem_of_getElem? (i := 212) rfl)) rfl
theorem mw_513 : Cond.code yX4_reads cX4_reads 2 (some .int) ∈ gT := gT_in (inT3 (List.mem_of_getElem? (i := 213) rfl)) rfl
theorem mw_514 : Cond.methodLink RX4 126 yX4_isMake ∈ gT := gT_in (inT3 (List.mem_of_getElem? (i := 214) rfl)) rfl
theorem mw_515 : Cond.static yX4_isMake ∈ gT := gT_in (inT3 (List.mem_of_getElem? (i := 215) rfl)) rfl
theorem mw_516 : Cond.code yX4_isMake cX4_isMake 1 (some .boolean) ∈ gT := gT_in (inT3 (List.mem_of_getElem? (i := 216) rfl)) rfl
theorem mw_517 : Cond.methodLink RX4 129 yX4_load ∈ gT := gT_in (inT3 (List.mem_of_getElem? (i := 217) rfl)) rfl
theorem mw_518 : Cond.instanceMethod yX4_load ∈ gT := gT_in (inT3 (List.mem_of_getElem? (i := 219) rfl)) rfl
theorem mw_519 : Cond.code yX4_load cX4_load 4 none ∈ gT := gT_in (inT3 (List.mem_of_getElem? (i := 220) rfl)) rfl
theorem mw_520 : Cond.methodLink RX4 88 yX4_wrong ∈ gT := gT_in (inT3 (List.mem_of_getElem? (i := 221) rfl)) rfl
theorem mw_521 : Cond.instanceMethod yX4_wrong ∈ gT := gT_in (inT3 (List.mem_of_getElem? (i := 223) rfl)) rfl
theorem mw_522 : Cond.code yX4_wrong cX4_wrong 3 none ∈ gT := gT_in (inT3 (List.mem_of_getElem? (i := 224) rfl)) rfl
theorem mw_523 : Cond.methodLink RX4 98 yX4_row ∈ gT := gT_in (inT3 (List.mem_of_getElem? (i := 225) rfl)) rfl
theorem mw_524 : Cond.instanceMethod yX4_row ∈ gT := gT_in (inT3 (List.mem_of_getElem? (i := 227) rfl)) rfl
theorem mw_525 : Cond.code yX4_row cX4_row 5 (some .int) ∈ gT := gT_in (inT3 (List.mem_of_getElem? (i := 228) rfl)) rfl
theorem mw_526 : Cond.methodLink RX4 109 yX4_markOf ∈ gT := gT_in (inT3 (List.mem_of_getElem? (i := 229) rfl)) rfl
theorem mw_527 : Cond.static yX4_markOf ∈ gT := gT_in (inT3 (List.mem_of_getElem? (i := 230) rfl)) rfl
theorem mw_528 : Cond.code yX4_markOf cX4_markOf 2 (some .int) ∈ gT := gT_in (inT3 (List.mem_of_getElem? (i := 231) rfl)) rfl
theorem mw_529 : Cond.methodLink RX4 112 yX4_quoteOf ∈ gT := gT_in (inT3 (List.mem_of_getElem? (i := 232) rfl)) rfl
theorem mw_530 : Cond.static yX4_quoteOf ∈ gT := gT_in (inT3 (List.mem_of_getElem? (i := 233) rfl)) rfl
theorem mw_531 : Cond.code yX4_quoteOf cX4_quoteOf 2 (some .int) ∈ gT := gT_in (inT3 (List.mem_of_getElem? (i := 234) rfl)) rfl
theorem mw_532 : Cond.methodLink RX4 115 yX4_cell ∈ gT := gT_in (inT3 (List.mem_of_getElem? (i := 235) rfl)) rfl
theorem mw_533 : Cond.instanceMethod yX4_cell ∈ gT := gT_in (inT3 (List.mem_of_getElem? (i := 237) rfl)) rfl
theorem mw_534 : Cond.code yX4_cell cX4_cell 5 (some .int) ∈ gT := gT_in (inT3 (List.mem_of_getElem? (i := 238) rfl)) rfl
theorem mw_535 : Cond.methodLink RX4 81 yX4_textAt ∈ gT := gT_in (inT3 (List.mem_of_getElem? (i := 239) rfl)) rfl
theorem mw_536 : Cond.instanceMethod yX4_textAt ∈ gT := gT_in (inT4 (List.mem_of_getElem? (i := 1) rfl)) rfl
theorem mw_537 : Cond.code yX4_textAt cX4_textAt 2 (some .int) ∈ gT := gT_in (inT4 (List.mem_of_getElem? (i := 2) rfl)) rfl
theorem mw_538 : Cond.methodLink RX4 85 yX4_take ∈ gT := gT_in (inT4 (List.mem_of_getElem? (i := 3) rfl)) rfl
theorem mw_539 : Cond.instanceMethod yX4_take ∈ gT := gT_in (inT4 (List.mem_of_getElem? (i := 5) rfl)) rfl
theorem mw_540 : Cond.code yX4_take cX4_take 2 none ∈ gT := gT_in (inT4 (List.mem_of_getElem? (i := 6) rfl)) rfl
theorem mw_541 : Cond.methodLink RX4 102 yX4_hasHead ∈ gT := gT_in (inT4 (List.mem_of_getElem? (i := 7) rfl)) rfl
theorem mw_542 : Cond.static yX4_hasHead ∈ gT := gT_in (inT4 (List.mem_of_getElem? (i := 8) rfl)) rfl
theorem mw_543 : Cond.code yX4_hasHead cX4_hasHead 1 (some .boolean) ∈ gT := gT_in (inT4 (List.mem_of_getElem? (i := 9) rfl)) rfl
theorem mw_544 : Cond.methodLink RX4 106 yX4_isOdd ∈ gT := gT_in (inT4 (List.mem_of_getElem? (i := 10) rfl)) rfl
theorem mw_545 : Cond.instanceMethod yX4_isOdd ∈ gT := gT_in (inT4 (List.mem_of_getElem? (i := 12) rfl)) rfl
theorem mw_546 : Cond.code yX4_isOdd cX4_isOdd 2 (some .boolean) ∈ gT := gT_in (inT4 (List.mem_of_getElem? (i := 13) rfl)) rfl
theorem mw_547 : Cond.methodLink RX4 119 yX4_cellsOf ∈ gT := gT_in (inT4 (List.mem_of_getElem? (i := 14) rfl)) rfl
theorem mw_548 : Cond.instanceMethod yX4_cellsOf ∈ gT := gT_in (inT4 (List.mem_of_getElem? (i := 16) rfl)) rfl
theorem mw_549 : Cond.code yX4_cellsOf cX4_cellsOf 2 (some .int) ∈ gT := gT_in (inT4 (List.mem_of_getElem? (i := 17) rfl)) rfl
theorem mw_550 : Cond.methodLink RX4 122 yX4_width ∈ gT := gT_in (inT4 (List.mem_of_getElem? (i := 18) rfl)) rfl
theorem mw_551 : Cond.instanceMethod yX4_width ∈ gT := gT_in (inT4 (List.mem_of_getElem? (i := 20) rfl)) rfl
theorem mw_552 : Cond.code yX4_width cX4_width 1 (some .int) ∈ gT := gT_in (inT4 (List.mem_of_getElem? (i := 21) rfl)) rfl
theorem mw_553 : Cond.methodLink RL 34 yX4_faultAt ∈ gT := gT_in (inT4 (List.mem_of_getElem? (i := 22) rfl)) rfl
theorem mw_554 : Cond.instanceMethod yX4_faultAt ∈ gT := gT_in (inT4 (List.mem_of_getElem? (i := 23) rfl)) rfl
theorem mw_555 : Cond.selects RX4 yX4_faultAt yX4_faultAt ∈ gT := gT_in (inT4 (List.mem_of_getElem? (i := 24) rfl)) rfl
theorem mw_556 : Cond.code yX4_faultAt cX4_faultAt 2 (some .int) ∈ gT := gT_in (inT4 (List.mem_of_getElem? (i := 25) rfl)) rfl
theorem mw_557 : Cond.methodLink RL 38 yX4_cost ∈ gT := gT_in (inT4 (List.mem_of_getElem? (i := 26) rfl)) rfl
theorem mw_558 : Cond.instanceMethod yX4_cost ∈ gT := gT_in (inT4 (List.mem_of_getElem? (i := 27) rfl)) rfl
theorem mw_559 : Cond.selects RX4 yX4_cost yX4_cost ∈ gT := gT_in (inT4 (List.mem_of_getElem? (i := 28) rfl)) rfl
theorem mw_560 : Cond.code yX4_cost cX4_cost 4 (some .int) ∈ gT := gT_in (inT4 (List.mem_of_getElem? (i := 29) rfl)) rfl
theorem mw_561 : Cond.methodLink RX4 273 yX4_gather ∈ gT := gT_in (inT4 (List.mem_of_getElem? (i := 30) rfl)) rfl
theorem mw_562 : Cond.instanceMethod yX4_gather ∈ gT := gT_in (inT4 (List.mem_of_getElem? (i := 32) rfl)) rfl
theorem mw_563 : Cond.code yX4_gather cX4_gather 3 none ∈ gT := gT_in (inT4 (List.mem_of_getElem? (i := 33) rfl)) rfl
theorem mw_564 : Cond.methodLink RX4 240 yX4_isPlain ∈ gT := gT_in (inT4 (List.mem_of_getElem? (i := 34) rfl)) rfl
theorem mw_565 : Cond.instanceMethod yX4_isPlain ∈ gT := gT_in (inT4 (List.mem_of_getElem? (i := 36) rfl)) rfl
theorem mw_566 : Cond.code yX4_isPlain cX4_isPlain 2 (some .boolean) ∈ gT := gT_in (inT4 (List.mem_of_getElem? (i := 37) rfl)) rfl
theorem mw_567 : Cond.methodLink RX4 276 yX4_judge ∈ gT := gT_in (inT4 (List.mem_of_getElem? (i := 38) rfl)) rfl
theorem mw_568 : Cond.instanceMethod yX4_judge ∈ gT := gT_in (inT4 (List.mem_of_getElem? (i := 40) rfl)) rfl
theorem mw_569 : Cond.code yX4_judge cX4_judge 4 none ∈ gT := gT_in (inT4 (List.mem_of_getElem? (i := 41) rfl)) rfl
theorem mw_570 : Cond.methodLink RX4 270 yX4_costBy ∈ gT := gT_in (inT4 (List.mem_of_getElem? (i := 42) rfl)) rfl
theorem mw_571 : Cond.instanceMethod yX4_costBy ∈ gT := gT_in (inT4 (List.mem_of_getElem? (i := 44) rfl)) rfl
theorem mw_572 : Cond.code yX4_costBy cX4_costBy 8 (some .int) ∈ gT := gT_in (inT4 (List.mem_of_getElem? (i := 45) rfl)) rfl
theorem mw_573 : Cond.methodLink RX4 248 yX4_firstOf ∈ gT := gT_in (inT4 (List.mem_of_getElem? (i := 46) rfl)) rfl
theorem mw_574 : Cond.instanceMethod yX4_firstOf ∈ gT := gT_in (inT4 (List.mem_of_getElem? (i := 48) rfl)) rfl
theorem mw_575 : Cond.code yX4_firstOf cX4_firstOf 3 (some .int) ∈ gT := gT_in (inT4 (List.mem_of_getElem? (i := 49) rfl)) rfl
theorem mw_576 : Cond.methodLink RX4 243 yX4_isMissing ∈ gT := gT_in (inT4 (List.mem_of_getElem? (i := 50) rfl)) rfl
theorem mw_577 : Cond.instanceMethod yX4_isMissing ∈ gT := gT_in (inT4 (List.mem_of_getElem? (i := 52) rfl)) rfl
theorem mw_578 : Cond.code yX4_isMissing cX4_isMissing 3 (some .boolean) ∈ gT := gT_in (inT4 (List.mem_of_getElem? (i := 53) rfl)) rfl
theorem mw_579 : Cond.methodLink RX4 172 yX4_isWord ∈ gT := gT_in (inT4 (List.mem_of_getElem? (i := 55) rfl)) rfl
theorem mw_580 : Cond.instanceMethod yX4_isWord ∈ gT := gT_in (inT4 (List.mem_of_getElem? (i := 57) rfl)) rfl
theorem mw_581 : Cond.code yX4_isWord cX4_isWord 4 (some .boolean) ∈ gT := gT_in (inT4 (List.mem_of_getElem? (i := 58) rfl)) rfl
theorem mw_582 : Cond.methodLink RX4 132 yJ0_length_8abf5 ∈ gT := gT_in (inT4 (List.mem_of_getElem? (i := 59) rfl)) rfl
theorem mw_583 : Cond.methodLink RX4 137 yX4_byteOf ∈ gT := gT_in (inT4 (List.mem_of_getElem? (i := 60) rfl)) rfl
theorem mw_584 : Cond.instanceMethod yX4_byteOf ∈ gT := gT_in (inT4 (List.mem_of_getElem? (i := 62) rfl)) rfl
theorem mw_585 : Cond.code yX4_byteOf cX4_byteOf 3 (some .int) ∈ gT := gT_in (inT4 (List.mem_of_getElem? (i := 63) rfl)) rfl
theorem mw_586 : Cond.methodLink RX4 140 yJ0_charAt_5068e ∈ gT := gT_in (inT4 (List.mem_of_getElem? (i := 64) rfl)) rfl
theorem mw_587 : Cond.methodLink RX4 251 yX4_tells ∈ gT := gT_in (inT4 (List.mem_of_getElem? (i := 67) rfl)) rfl
theorem mw_588 : Cond.instanceMethod yX4_tells ∈ gT := gT_in (inT4 (List.mem_of_getElem? (i := 69) rfl)) rfl
theorem mw_589 : Cond.code yX4_tells cX4_tells 4 (some .boolean) ∈ gT := gT_in (inT4 (List.mem_of_getElem? (i := 70) rfl)) rfl
theorem mw_590 : Cond.methodLink RX4 224 yX4_isFlag ∈ gT := gT_in (inT4 (List.mem_of_getElem? (i := 71) rfl)) rfl
theorem mw_591 : Cond.instanceMethod yX4_isFlag ∈ gT := gT_in (inT4 (List.mem_of_getElem? (i := 73) rfl)) rfl
theorem mw_592 : Cond.code yX4_isFlag cX4_isFlag 3 (some .boolean) ∈ gT := gT_in (inT4 (List.mem_of_getElem? (i := 74) rfl)) rfl
theorem mw_593 : Cond.methodLink RX4 168 yX4_flag ∈ gT := gT_in (inT4 (List.mem_of_getElem? (i := 75) rfl)) rfl
theorem mw_594 : Cond.static yX4_flag ∈ gT := gT_in (inT4 (List.mem_of_getElem? (i := 76) rfl)) rfl
theorem mw_595 : Cond.code yX4_flag cX4_flag 2 (some (.object "java/lang/String")) ∈ gT := gT_in (inT4 (List.mem_of_getElem? (i := 77) rfl)) rfl
theorem mw_596 : Cond.methodLink RX4 228 yX4_isNumber ∈ gT := gT_in (inT4 (List.mem_of_getElem? (i := 90) rfl)) rfl
theorem mw_597 : Cond.instanceMethod yX4_isNumber ∈ gT := gT_in (inT4 (List.mem_of_getElem? (i := 92) rfl)) rfl
theorem mw_598 : Cond.code yX4_isNumber cX4_isNumber 9 (some .boolean) ∈ gT := gT_in (inT4 (List.mem_of_getElem? (i := 93) rfl)) rfl
theorem mw_599 : Cond.methodLink RX4 180 yX4_decimals ∈ gT := gT_in (inT4 (List.mem_of_getElem? (i := 94) rfl)) rfl
theorem mw_600 : Cond.static yX4_decimals ∈ gT := gT_in (inT4 (List.mem_of_getElem? (i := 95) rfl)) rfl
theorem mw_601 : Cond.code yX4_decimals cX4_decimals 1 (some .int) ∈ gT := gT_in (inT4 (List.mem_of_getElem? (i := 96) rfl)) rfl
theorem mw_602 : Cond.methodLink RX4 186 yX4_pointOf ∈ gT := gT_in (inT4 (List.mem_of_getElem? (i := 97) rfl)) rfl
theorem mw_603 : Cond.static yX4_pointOf ∈ gT := gT_in (inT4 (List.mem_of_getElem? (i := 98) rfl)) rfl
theorem mw_604 : Cond.code yX4_pointOf cX4_pointOf 1 (some .int) ∈ gT := gT_in (inT4 (List.mem_of_getElem? (i := 99) rfl)) rfl
theorem mw_605 : Cond.methodLink RX4 189 yX4_thousandsOf ∈ gT := gT_in (inT4 (List.mem_of_getElem? (i := 100) rfl)) rfl
theorem mw_606 : Cond.static yX4_thousandsOf ∈ gT := gT_in (inT4 (List.mem_of_getElem? (i := 101) rfl)) rfl
theorem mw_607 : Cond.code yX4_thousandsOf cX4_thousandsOf 2 (some .int) ∈ gT := gT_in (inT4 (List.mem_of_getElem? (i := 102) rfl)) rfl
theorem mw_608 : Cond.methodLink RX4 192 yX4_isDigit ∈ gT := gT_in (inT4 (List.mem_of_getElem? (i := 103) rfl)) rfl
theorem mw_609 : Cond.static yX4_isDigit ∈ gT := gT_in (inT4 (List.mem_of_getElem? (i := 104) rfl)) rfl
theorem mw_610 : Cond.code yX4_isDigit cX4_isDigit 1 (some .boolean) ∈ gT := gT_in (inT4 (List.mem_of_getElem? (i := 105) rfl)) rfl
theorem mw_611 : Cond.methodLink RX4 195 yX4_more ∈ gT := gT_in (inT4 (List.mem_of_getElem? (i := 106) rfl)) rfl
theorem mw_612 : Cond.instanceMethod yX4_more ∈ gT := gT_in (inT4 (List.mem_of_getElem? (i := 108) rfl)) rfl
theorem mw_613 : Cond.code yX4_more cX4_more 2 (some .boolean) ∈ gT := gT_in (inT4 (List.mem_of_getElem? (i := 109) rfl)) rfl
theorem mw_614 : Cond.constantLong RX4 198 10 ∈ gT := gT_in (inT4 (List.mem_of_getElem? (i := 110) rfl)) rfl
theorem mw_615 : Cond.constantLong RX4 200 48 ∈ gT := gT_in (inT4 (List.mem_of_getElem? (i := 111) rfl)) rfl
theorem mw_616 : Cond.methodLink RX4 231 yX4_isDay ∈ gT := gT_in (inT4 (List.mem_of_getElem? (i := 112) rfl)) rfl
theorem mw_617 : Cond.instanceMethod yX4_isDay ∈ gT := gT_in (inT4 (List.mem_of_getElem? (i := 114) rfl)) rfl
theorem mw_618 : Cond.code yX4_isDay cX4_isDay 8 (some .boolean) ∈ gT := gT_in (inT4 (List.mem_of_getElem? (i := 115) rfl)) rfl
theorem mw_619 : Cond.methodLink RX4 202 yX4_betweenOf ∈ gT := gT_in (inT4 (List.mem_of_getElem? (i := 116) rfl)) rfl
theorem mw_620 : Cond.static yX4_betweenOf ∈ gT := gT_in (inT4 (List.mem_of_getElem? (i := 117) rfl)) rfl
theorem mw_621 : Cond.code yX4_betweenOf cX4_betweenOf 2 (some .int) ∈ gT := gT_in (inT4 (List.mem_of_getElem? (i := 118) rfl)) rfl
theorem mw_622 : Cond.methodLink RX4 205 yX4_whole ∈ gT := gT_in (inT4 (List.mem_of_getElem? (i := 119) rfl)) rfl
theorem mw_623 : Cond.instanceMethod yX4_whole ∈ gT := gT_in (inT4 (List.mem_of_getElem? (i := 121) rfl)) rfl
theorem mw_624 : Cond.code yX4_whole cX4_whole 6 (some .int) ∈ gT := gT_in (inT4 (List.mem_of_getElem? (i := 122) rfl)) rfl
theorem mw_625 : Cond.methodLink RX4 208 yX4_daysOf ∈ gT := gT_in (inT4 (List.mem_of_getElem? (i := 123) rfl)) rfl
theorem mw_626 : Cond.static yX4_daysOf ∈ gT := gT_in (inT4 (List.mem_of_getElem? (i := 124) rfl)) rfl
theorem mw_627 : Cond.code yX4_daysOf cX4_daysOf 2 (some .int) ∈ gT := gT_in (inT4 (List.mem_of_getElem? (i := 125) rfl)) rfl
theorem mw_628 : Cond.constantLong RX4 211 10000 ∈ gT := gT_in (inT4 (List.mem_of_getElem? (i := 126) rfl)) rfl
theorem mw_629 : Cond.constantLong RX4 213 100 ∈ gT := gT_in (inT4 (List.mem_of_getElem? (i := 127) rfl)) rfl
theorem mw_630 : Cond.methodLink RX4 234 yX4_isCode ∈ gT := gT_in (inT4 (List.mem_of_getElem? (i := 128) rfl)) rfl
theorem mw_631 : Cond.instanceMethod yX4_isCode ∈ gT := gT_in (inT4 (List.mem_of_getElem? (i := 130) rfl)) rfl
theorem mw_632 : Cond.code yX4_isCode cX4_isCode 4 (some .boolean) ∈ gT := gT_in (inT4 (List.mem_of_getElem? (i := 131) rfl)) rfl
theorem mw_633 : Cond.methodLink RX4 215 yX4_sortOf ∈ gT := gT_in (inT4 (List.mem_of_getElem? (i := 132) rfl)) rfl
theorem mw_634 : Cond.static yX4_sortOf ∈ gT := gT_in (inT4 (List.mem_of_getElem? (i := 133) rfl)) rfl
theorem mw_635 : Cond.code yX4_sortOf cX4_sortOf 1 (some .int) ∈ gT := gT_in (inT4 (List.mem_of_getElem? (i := 134) rfl)) rfl
theorem mw_636 : Cond.methodLink RX4 254 yX4_topOf ∈ gT := gT_in (inT4 (List.mem_of_getElem? (i := 135) rfl)) rfl
theorem mw_637 : Cond.static yX4_topOf ∈ gT := gT_in (inT4 (List.mem_of_getElem? (i := 136) rfl)) rfl
theorem mw_638 : Cond.code yX4_topOf cX4_topOf 4 (some .long) ∈ gT := gT_in (inT4 (List.mem_of_getElem? (i := 137) rfl)) rfl
theorem mw_639 : Cond.constantLong RX4 246 9999 ∈ gT := gT_in (inT4 (List.mem_of_getElem? (i := 138) rfl)) rfl
theorem mw_640 : Cond.methodLink RX4 258 yX4_cellCost ∈ gT := gT_in (inT4 (List.mem_of_getElem? (i := 139) rfl)) rfl
theorem mw_641 : Cond.instanceMethod yX4_cellCost ∈ gT := gT_in (inT4 (List.mem_of_getElem? (i := 141) rfl)) rfl
theorem mw_642 : Cond.code yX4_cellCost cX4_cellCost 7 (some .int) ∈ gT := gT_in (inT4 (List.mem_of_getElem? (i := 142) rfl)) rfl
theorem mw_643 : Cond.methodLink RX4 279 yX4_rowCost ∈ gT := gT_in (inT4 (List.mem_of_getElem? (i := 143) rfl)) rfl
theorem mw_644 : Cond.instanceMethod yX4_rowCost ∈ gT := gT_in (inT4 (List.mem_of_getElem? (i := 145) rfl)) rfl
theorem mw_645 : Cond.code yX4_rowCost cX4_rowCost 6 (some .int) ∈ gT := gT_in (inT4 (List.mem_of_getElem? (i := 146) rfl)) rfl
theorem mw_646 : Cond.methodLink RL 43 yX4_best ∈ gT := gT_in (inT4 (List.mem_of_getElem? (i := 147) rfl)) rfl
theorem mw_647 : Cond.instanceMethod yX4_best ∈ gT := gT_in (inT4 (List.mem_of_getElem? (i := 148) rfl)) rfl
theorem mw_648 : Cond.selects RX4 yX4_best yX4_best ∈ gT := gT_in (inT4 (List.mem_of_getElem? (i := 149) rfl)) rfl
theorem mw_649 : Cond.code yX4_best cX4_best 3 (some .int) ∈ gT := gT_in (inT4 (List.mem_of_getElem? (i := 150) rfl)) rfl
theorem mw_650 : Cond.methodLink RX4 282 yX4_cost ∈ gT := gT_in (inT4 (List.mem_of_getElem? (i := 151) rfl)) rfl
theorem mw_651 : Cond.methodLink RL 48 yX4_use ∈ gT := gT_in (inT4 (List.mem_of_getElem? (i := 152) rfl)) rfl
theorem mw_652 : Cond.instanceMethod yX4_use ∈ gT := gT_in (inT4 (List.mem_of_getElem? (i := 153) rfl)) rfl
theorem mw_653 : Cond.selects RX4 yX4_use yX4_use ∈ gT := gT_in (inT4 (List.mem_of_getElem? (i := 154) rfl)) rfl
theorem mw_654 : Cond.code yX4_use cX4_use 2 (some .boolean) ∈ gT := gT_in (inT4 (List.mem_of_getElem? (i := 155) rfl)) rfl
theorem mw_655 : Cond.methodLink RL 52 yX4_about ∈ gT := gT_in (inT4 (List.mem_of_getElem? (i := 156) rfl)) rfl
theorem mw_656 : Cond.instanceMethod yX4_about ∈ gT := gT_in (inT4 (List.mem_of_getElem? (i := 157) rfl)) rfl
theorem mw_657 : Cond.selects RX4 yX4_about yX4_about ∈ gT := gT_in (inT4 (List.mem_of_getElem? (i := 158) rfl)) rfl
theorem mw_658 : Cond.code yX4_about cX4_about 2 (some .int) ∈ gT := gT_in (inT4 (List.mem_of_getElem? (i := 159) rfl)) rfl
theorem mw_659 : Cond.methodLink RL 56 yX4_odd ∈ gT := gT_in (inT4 (List.mem_of_getElem? (i := 160) rfl)) rfl
theorem mw_660 : Cond.instanceMethod yX4_odd ∈ gT := gT_in (inT4 (List.mem_of_getElem? (i := 161) rfl)) rfl
theorem mw_661 : Cond.selects RX4 yX4_odd yX4_odd ∈ gT := gT_in (inT4 (List.mem_of_getElem? (i := 162) rfl)) rfl
theorem mw_662 : Cond.code yX4_odd cX4_odd 4 (some .int) ∈ gT := gT_in (inT4 (List.mem_of_getElem? (i := 163) rfl)) rfl
theorem mw_663 : Cond.methodLink RL 60 yX4_breadth ∈ gT := gT_in (inT4 (List.mem_of_getElem? (i := 164) rfl)) rfl
theorem mw_664 : Cond.instanceMethod yX4_breadth ∈ gT := gT_in (inT4 (List.mem_of_getElem? (i := 165) rfl)) rfl
theorem mw_665 : Cond.selects RX4 yX4_breadth yX4_breadth ∈ gT := gT_in (inT4 (List.mem_of_getElem? (i := 166) rfl)) rfl
theorem mw_666 : Cond.code yX4_breadth cX4_breadth 2 (some .int) ∈ gT := gT_in (inT4 (List.mem_of_getElem? (i := 167) rfl)) rfl
theorem mw_667 : Cond.methodLink RX4 285 yX4_isRow ∈ gT := gT_in (inT4 (List.mem_of_getElem? (i := 168) rfl)) rfl
theorem mw_668 : Cond.instanceMethod yX4_isRow ∈ gT := gT_in (inT4 (List.mem_of_getElem? (i := 170) rfl)) rfl
theorem mw_669 : Cond.code yX4_isRow cX4_isRow 2 (some .boolean) ∈ gT := gT_in (inT4 (List.mem_of_getElem? (i := 171) rfl)) rfl
theorem mw_670 : Cond.methodLink RL 65 yX4_size ∈ gT := gT_in (inT4 (List.mem_of_getElem? (i := 172) rfl)) rfl
theorem mw_671 : Cond.instanceMethod yX4_size ∈ gT := gT_in (inT4 (List.mem_of_getElem? (i := 173) rfl)) rfl
theorem mw_672 : Cond.selects RX4 yX4_size yX4_size ∈ gT := gT_in (inT4 (List.mem_of_getElem? (i := 174) rfl)) rfl
theorem mw_673 : Cond.code yX4_size cX4_size 4 (some .int) ∈ gT := gT_in (inT4 (List.mem_of_getElem? (i := 175) rfl)) rfl
theorem mw_674 : Cond.methodLink RX4 288 yX4_cellAt ∈ gT := gT_in (inT4 (List.mem_of_getElem? (i := 176) rfl)) rfl
theorem mw_675 : Cond.instanceMethod yX4_cellAt ∈ gT := gT_in (inT4 (List.mem_of_getElem? (i := 178) rfl)) rfl
theorem mw_676 : Cond.code yX4_cellAt cX4_cellAt 3 (some .int) ∈ gT := gT_in (inT4 (List.mem_of_getElem? (i := 179) rfl)) rfl
theorem mw_677 : Cond.methodLink RL 70 yX4_at ∈ gT := gT_in (inT4 (List.mem_of_getElem? (i := 180) rfl)) rfl
theorem mw_678 : Cond.instanceMethod yX4_at ∈ gT := gT_in (inT4 (List.mem_of_getElem? (i := 181) rfl)) rfl
theorem mw_679 : Cond.selects RX4 yX4_at yX4_at ∈ gT := gT_in (inT4 (List.mem_of_getElem? (i := 182) rfl)) rfl
theorem mw_680 : Cond.code yX4_at cX4_at 5 (some .int) ∈ gT := gT_in (inT4 (List.mem_of_getElem? (i := 183) rfl)) rfl
theorem mw_681 : Cond.methodLink RL 74 yX4_form ∈ gT := gT_in (inT4 (List.mem_of_getElem? (i := 184) rfl)) rfl
theorem mw_682 : Cond.instanceMethod yX4_form ∈ gT := gT_in (inT4 (List.mem_of_getElem? (i := 185) rfl)) rfl
theorem mw_683 : Cond.selects RX4 yX4_form yX4_form ∈ gT := gT_in (inT4 (List.mem_of_getElem? (i := 186) rfl)) rfl
theorem mw_684 : Cond.code yX4_form cX4_form 2 (some .int) ∈ gT := gT_in (inT4 (List.mem_of_getElem? (i := 187) rfl)) rfl
theorem mw_685 : Cond.methodLink RX4 291 yX4_isColumn ∈ gT := gT_in (inT4 (List.mem_of_getElem? (i := 188) rfl)) rfl
theorem mw_686 : Cond.instanceMethod yX4_isColumn ∈ gT := gT_in (inT4 (List.mem_of_getElem? (i := 190) rfl)) rfl
theorem mw_687 : Cond.code yX4_isColumn cX4_isColumn 2 (some .boolean) ∈ gT := gT_in (inT4 (List.mem_of_getElem? (i := 191) rfl)) rfl
theorem mw_688 : Cond.methodLink RL 78 yX4_missing ∈ gT := gT_in (inT4 (List.mem_of_getElem? (i := 192) rfl)) rfl
theorem mw_689 : Cond.instanceMethod yX4_missing ∈ gT := gT_in (inT4 (List.mem_of_getElem? (i := 193) rfl)) rfl
theorem mw_690 : Cond.selects RX4 yX4_missing yX4_missing ∈ gT := gT_in (inT4 (List.mem_of_getElem? (i := 194) rfl)) rfl
theorem mw_691 : Cond.code yX4_missing cX4_missing 2 (some .int) ∈ gT := gT_in (inT4 (List.mem_of_getElem? (i := 195) rfl)) rfl
theorem mw_692 : Cond.methodLink RL 82 yX4_lacks ∈ gT := gT_in (inT4 (List.mem_of_getElem? (i := 196) rfl)) rfl
theorem mw_693 : Cond.instanceMethod yX4_lacks ∈ gT := gT_in (inT4 (List.mem_of_getElem? (i := 197) rfl)) rfl
theorem mw_694 : Cond.selects RX4 yX4_lacks yX4_lacks ∈ gT := gT_in (inT4 (List.mem_of_getElem? (i := 198) rfl)) rfl
theorem mw_695 : Cond.code yX4_lacks cX4_lacks 4 (some .int) ∈ gT := gT_in (inT4 (List.mem_of_getElem? (i := 199) rfl)) rfl
theorem mw_696 : Cond.methodLink RL 86 yX4_costOf ∈ gT := gT_in (inT4 (List.mem_of_getElem? (i := 200) rfl)) rfl
theorem mw_697 : Cond.instanceMethod yX4_costOf ∈ gT := gT_in (inT4 (List.mem_of_getElem? (i := 201) rfl)) rfl
theorem mw_698 : Cond.selects RX4 yX4_costOf yX4_costOf ∈ gT := gT_in (inT4 (List.mem_of_getElem? (i := 202) rfl)) rfl
theorem mw_699 : Cond.code yX4_costOf cX4_costOf 4 (some .int) ∈ gT := gT_in (inT4 (List.mem_of_getElem? (i := 203) rfl)) rfl
theorem mw_700 : Cond.methodLink RL 90 yX4_fits ∈ gT := gT_in (inT4 (List.mem_of_getElem? (i := 204) rfl)) rfl
theorem mw_701 : Cond.instanceMethod yX4_fits ∈ gT := gT_in (inT4 (List.mem_of_getElem? (i := 205) rfl)) rfl
theorem mw_702 : Cond.selects RX4 yX4_fits yX4_fits ∈ gT := gT_in (inT4 (List.mem_of_getElem? (i := 206) rfl)) rfl
theorem mw_703 : Cond.code yX4_fits cX4_fits 6 (some .int) ∈ gT := gT_in (inT4 (List.mem_of_getElem? (i := 207) rfl)) rfl
theorem mw_704 : Cond.methodLink RL 94 yX4_doubt ∈ gT := gT_in (inT4 (List.mem_of_getElem? (i := 208) rfl)) rfl
theorem mw_705 : Cond.instanceMethod yX4_doubt ∈ gT := gT_in (inT4 (List.mem_of_getElem? (i := 209) rfl)) rfl
theorem mw_706 : Cond.selects RX4 yX4_doubt yX4_doubt ∈ gT := gT_in (inT4 (List.mem_of_getElem? (i := 210) rfl)) rfl
theorem mw_707 : Cond.code yX4_doubt cX4_doubt 4 (some .int) ∈ gT := gT_in (inT4 (List.mem_of_getElem? (i := 211) rfl)) rfl
theorem mw_708 : Cond.methodLink RL 99 yX4_parts ∈ gT := gT_in (inT4 (List.mem_of_getElem? (i := 212) rfl)) rfl
theorem mw_709 : Cond.instanceMethod yX4_parts ∈ gT := gT_in (inT4 (List.mem_of_getElem? (i := 213) rfl)) rfl
theorem mw_710 : Cond.selects RX4 yX4_parts yX4_parts ∈ gT := gT_in (inT4 (List.mem_of_getElem? (i := 214) rfl)) rfl
theorem mw_711 : Cond.code yX4_parts cX4_parts 8 (some .int) ∈ gT := gT_in (inT4 (List.mem_of_getElem? (i := 215) rfl)) rfl
theorem mw_712 : Cond.methodLink RL 104 yX4_value ∈ gT := gT_in (inT4 (List.mem_of_getElem? (i := 216) rfl)) rfl
theorem mw_713 : Cond.instanceMethod yX4_value ∈ gT := gT_in (inT4 (List.mem_of_getElem? (i := 217) rfl)) rfl
theorem mw_714 : Cond.selects RX4 yX4_value yX4_value ∈ gT := gT_in (inT4 (List.mem_of_getElem? (i := 218) rfl)) rfl
theorem mw_715 : Cond.code yX4_value cX4_value 3 (some .long) ∈ gT := gT_in (inT4 (List.mem_of_getElem? (i := 219) rfl)) rfl
theorem mw_716 : Cond.methodLink RX4 294 yX4_told ∈ gT := gT_in (inT4 (List.mem_of_getElem? (i := 220) rfl)) rfl
theorem mw_717 : Cond.instanceMethod yX4_told ∈ gT := gT_in (inT4 (List.mem_of_getElem? (i := 222) rfl)) rfl
theorem mw_718 : Cond.code yX4_told cX4_told 4 (some .int) ∈ gT := gT_in (inT4 (List.mem_of_getElem? (i := 223) rfl)) rfl
theorem mw_719 : Cond.methodLink RL 108 yX4_back ∈ gT := gT_in (inT4 (List.mem_of_getElem? (i := 224) rfl)) rfl
theorem mw_720 : Cond.instanceMethod yX4_back ∈ gT := gT_in (inT4 (List.mem_of_getElem? (i := 225) rfl)) rfl
theorem mw_721 : Cond.selects RX4 yX4_back yX4_back ∈ gT := gT_in (inT4 (List.mem_of_getElem? (i := 226) rfl)) rfl
theorem mw_722 : Cond.code yX4_back cX4_back 6 (some .int) ∈ gT := gT_in (inT4 (List.mem_of_getElem? (i := 227) rfl)) rfl
theorem mw_723 : Cond.methodLink RX4 311 yX4_writeWord ∈ gT := gT_in (inT4 (List.mem_of_getElem? (i := 229) rfl)) rfl
theorem mw_724 : Cond.instanceMethod yX4_writeWord ∈ gT := gT_in (inT4 (List.mem_of_getElem? (i := 231) rfl)) rfl
theorem mw_725 : Cond.code yX4_writeWord cX4_writeWord 3 none ∈ gT := gT_in (inT4 (List.mem_of_getElem? (i := 232) rfl)) rfl
theorem mw_726 : Cond.methodLink RX4 300 yX4_write ∈ gT := gT_in (inT4 (List.mem_of_getElem? (i := 233) rfl)) rfl
theorem mw_727 : Cond.instanceMethod yX4_write ∈ gT := gT_in (inT4 (List.mem_of_getElem? (i := 235) rfl)) rfl
theorem mw_728 : Cond.code yX4_write cX4_write 2 none ∈ gT := gT_in (inT4 (List.mem_of_getElem? (i := 236) rfl)) rfl
theorem mw_729 : Cond.methodLink RX4 315 yX4_writeNumber ∈ gT := gT_in (inT4 (List.mem_of_getElem? (i := 237) rfl)) rfl
theorem mw_730 : Cond.instanceMethod yX4_writeNumber ∈ gT := gT_in (inT4 (List.mem_of_getElem? (i := 239) rfl)) rfl
theorem mw_731 : Cond.code yX4_writeNumber cX4_writeNumber 7 none ∈ gT := gT_in (inT5 (List.mem_of_getElem? (i := 0) rfl)) rfl
theorem mw_732 : Cond.methodLink RX4 303 yX4_tens ∈ gT := gT_in (inT5 (List.mem_of_getElem? (i := 1) rfl)) rfl
theorem mw_733 : Cond.static yX4_tens ∈ gT := gT_in (inT5 (List.mem_of_getElem? (i := 2) rfl)) rfl
theorem mw_734 : Cond.code yX4_tens cX4_tens 4 (some .long) ∈ gT := gT_in (inT5 (List.mem_of_getElem? (i := 3) rfl)) rfl
theorem mw_735 : Cond.methodLink RX4 318 yX4_writeDay ∈ gT := gT_in (inT5 (List.mem_of_getElem? (i := 4) rfl)) rfl
theorem mw_736 : Cond.instanceMethod yX4_writeDay ∈ gT := gT_in (inT5 (List.mem_of_getElem? (i := 6) rfl)) rfl
theorem mw_737 : Cond.code yX4_writeDay cX4_writeDay 5 none ∈ gT := gT_in (inT5 (List.mem_of_getElem? (i := 7) rfl)) rfl
theorem mw_738 : Cond.methodLink RX4 306 yX4_writeWhole ∈ gT := gT_in (inT5 (List.mem_of_getElem? (i := 8) rfl)) rfl
theorem mw_739 : Cond.instanceMethod yX4_writeWhole ∈ gT := gT_in (inT5 (List.mem_of_getElem? (i := 10) rfl)) rfl
theorem mw_740 : Cond.code yX4_writeWhole cX4_writeWhole 4 none ∈ gT := gT_in (inT5 (List.mem_of_getElem? (i := 11) rfl)) rfl
theorem mw_741 : Cond.methodLink RL 112 yX4_key ∈ gT := gT_in (inT5 (List.mem_of_getElem? (i := 12) rfl)) rfl
theorem mw_742 : Cond.instanceMethod yX4_key ∈ gT := gT_in (inT5 (List.mem_of_getElem? (i := 13) rfl)) rfl
theorem mw_743 : Cond.selects RX4 yX4_key yX4_key ∈ gT := gT_in (inT5 (List.mem_of_getElem? (i := 14) rfl)) rfl
theorem mw_744 : Cond.code yX4_key cX4_key 4 (some .int) ∈ gT := gT_in (inT5 (List.mem_of_getElem? (i := 15) rfl)) rfl
theorem mw_745 : Cond.methodLink RX4 321 yX4_isSame ∈ gT := gT_in (inT5 (List.mem_of_getElem? (i := 16) rfl)) rfl
theorem mw_746 : Cond.instanceMethod yX4_isSame ∈ gT := gT_in (inT5 (List.mem_of_getElem? (i := 18) rfl)) rfl
theorem mw_747 : Cond.code yX4_isSame cX4_isSame 4 (some .boolean) ∈ gT := gT_in (inT5 (List.mem_of_getElem? (i := 19) rfl)) rfl
theorem mw_748 : Cond.fieldLink RJ0 9 "java/lang/String" "value" "[B" ∈ gT := gT_in (inT5 (List.mem_of_getElem? (i := 20) rfl)) rfl
theorem mw_749 : Cond.fieldLink RJ0 15 "java/lang/String" "coder" "B" ∈ gT := gT_in (inT5 (List.mem_of_getElem? (i := 21) rfl)) rfl
theorem mw_750 : Cond.arrayClass .char ∈ gT := gT_in (inT5 (List.mem_of_getElem? (i := 22) rfl)) rfl
theorem mw_751 : Cond.selects RX3 yX3_tapeNumber yX3_tapeNumber ∈ gT := gT_in (inP1 (List.mem_of_getElem? (l := lw_privs_1) (i := 0) rfl)) rfl
theorem mw_752 : Cond.selects RX3 yX3_forgetReadings yX3_forgetReadings ∈ gT := gT_in (inP1 (List.mem_of_getElem? (l := lw_privs_1) (i := 1) rfl)) rfl
theorem mw_753 : Cond.selects RX3 yX3_cutTextBy yX3_cutTextBy ∈ gT := gT_in (inP1 (List.mem_of_getElem? (l := lw_privs_1) (i := 2) rfl)) rfl
theorem mw_754 : Cond.selects RX1 yX1_begin yX1_begin ∈ gT := gT_in (inP1 (List.mem_of_getElem? (l := lw_privs_1) (i := 3) rfl)) rfl
theorem mw_755 : Cond.selects RX1 yX1_openCell yX1_openCell ∈ gT := gT_in (inP1 (List.mem_of_getElem? (l := lw_privs_1) (i := 4) rfl)) rfl
theorem mw_756 : Cond.selects RX1 yX1_fail yX1_fail ∈ gT := gT_in (inP1 (List.mem_of_getElem? (l := lw_privs_1) (i := 5) rfl)) rfl
theorem mw_757 : Cond.selects RX1 yX1_take yX1_take ∈ gT := gT_in (inP1 (List.mem_of_getElem? (l := lw_privs_1) (i := 6) rfl)) rfl
theorem mw_758 : Cond.selects RX1 yX1_hold yX1_hold ∈ gT := gT_in (inP1 (List.mem_of_getElem? (l := lw_privs_1) (i := 7) rfl)) rfl
theorem mw_759 : Cond.selects RX1 yX1_finish yX1_finish ∈ gT := gT_in (inP1 (List.mem_of_getElem? (l := lw_privs_1) (i := 8) rfl)) rfl
theorem mw_760 : Cond.selects RX3 yX3_priceOfMake yX3_priceOfMake ∈ gT := gT_in (inP1 (List.mem_of_getElem? (l := lw_privs_1) (i := 9) rfl)) rfl
theorem mw_761 : Cond.selects RX1 yX1_bytesOf yX1_bytesOf ∈ gT := gT_in (inP1 (List.mem_of_getElem? (l := lw_privs_1) (i := 10) rfl)) rfl
theorem mw_762 : Cond.selects RX0 yX0_isMissing yX0_isMissing ∈ gT := gT_in (inP1 (List.mem_of_getElem? (l := lw_privs_1) (i := 11) rfl)) rfl
theorem mw_763 : Cond.selects RX2 yX2_tellsFlag yX2_tellsFlag ∈ gT := gT_in (inP1 (List.mem_of_getElem? (l := lw_privs_1) (i := 12) rfl)) rfl
theorem mw_764 : Cond.selects RX2 yX2_tellsNumber yX2_tellsNumber ∈ gT := gT_in (inP1 (List.mem_of_getElem? (l := lw_privs_1) (i := 13) rfl)) rfl
theorem mw_765 : Cond.selects RX2 yX2_tellsDay yX2_tellsDay ∈ gT := gT_in (inP1 (List.mem_of_getElem? (l := lw_privs_1) (i := 14) rfl)) rfl
theorem mw_766 : Cond.selects RX2 yX2_tellsCode yX2_tellsCode ∈ gT := gT_in (inP1 (List.mem_of_getElem? (l := lw_privs_1) (i := 15) rfl)) rfl
theorem mw_767 : Cond.selects RX2 yX2_priceOfCode yX2_priceOfCode ∈ gT := gT_in (inP2 (List.mem_of_getElem? (l := lw_privs_2) (i := 0) rfl)) rfl
theorem mw_768 : Cond.selects RX0 yX0_weigh yX0_weigh ∈ gT := gT_in (inP2 (List.mem_of_getElem? (l := lw_privs_2) (i := 1) rfl)) rfl
theorem mw_769 : Cond.selects RX3 yX3_hasChosen yX3_hasChosen ∈ gT := gT_in (inP2 (List.mem_of_getElem? (l := lw_privs_2) (i := 2) rfl)) rfl
theorem mw_770 : Cond.selects RX0 yX0_isRepeated yX0_isRepeated ∈ gT := gT_in (inP2 (List.mem_of_getElem? (l := lw_privs_2) (i := 3) rfl)) rfl
theorem mw_771 : Cond.selects RX4 yX4_feedOne yX4_feedOne ∈ gT := gT_in (inP2 (List.mem_of_getElem? (l := lw_privs_2) (i := 4) rfl)) rfl
theorem mw_772 : Cond.selects RX4 yX4_changes yX4_changes ∈ gT := gT_in (inP2 (List.mem_of_getElem? (l := lw_privs_2) (i := 5) rfl)) rfl
theorem mw_773 : Cond.selects RX4 yX4_load yX4_load ∈ gT := gT_in (inP2 (List.mem_of_getElem? (l := lw_privs_2) (i := 6) rfl)) rfl
theorem mw_774 : Cond.selects RX4 yX4_wrong yX4_wrong ∈ gT := gT_in (inP2 (List.mem_of_getElem? (l := lw_privs_2) (i := 7) rfl)) rfl
theorem mw_775 : Cond.selects RX4 yX4_row yX4_row ∈ gT := gT_in (inP2 (List.mem_of_getElem? (l := lw_privs_2) (i := 8) rfl)) rfl
theorem mw_776 : Cond.selects RX4 yX4_cell yX4_cell ∈ gT := gT_in (inP2 (List.mem_of_getElem? (l := lw_privs_2) (i := 9) rfl)) rfl
theorem mw_777 : Cond.selects RX4 yX4_textAt yX4_textAt ∈ gT := gT_in (inP2 (List.mem_of_getElem? (l := lw_privs_2) (i := 10) rfl)) rfl
theorem mw_778 : Cond.selects RX4 yX4_take yX4_take ∈ gT := gT_in (inP2 (List.mem_of_getElem? (l := lw_privs_2) (i := 11) rfl)) rfl
theorem mw_779 : Cond.selects RX4 yX4_isOdd yX4_isOdd ∈ gT := gT_in (inP2 (List.mem_of_getElem? (l := lw_privs_2) (i := 12) rfl)) rfl
theorem mw_780 : Cond.selects RX4 yX4_cellsOf yX4_cellsOf ∈ gT := gT_in (inP2 (List.mem_of_getElem? (l := lw_privs_2) (i := 13) rfl)) rfl
theorem mw_781 : Cond.selects RX4 yX4_width yX4_width ∈ gT := gT_in (inP2 (List.mem_of_getElem? (l := lw_privs_2) (i := 14) rfl)) rfl
theorem mw_782 : Cond.selects RX4 yX4_gather yX4_gather ∈ gT := gT_in (inP2 (List.mem_of_getElem? (l := lw_privs_2) (i := 15) rfl)) rfl
theorem mw_783 : Cond.selects RX4 yX4_isPlain yX4_isPlain ∈ gT := gT_in (inP3 (List.mem_of_getElem? (l := lw_privs_3) (i := 0) rfl)) rfl
theorem mw_784 : Cond.selects RX4 yX4_judge yX4_judge ∈ gT := gT_in (inP3 (List.mem_of_getElem? (l := lw_privs_3) (i := 1) rfl)) rfl
theorem mw_785 : Cond.selects RX4 yX4_costBy yX4_costBy ∈ gT := gT_in (inP3 (List.mem_of_getElem? (l := lw_privs_3) (i := 2) rfl)) rfl
theorem mw_786 : Cond.selects RX4 yX4_firstOf yX4_firstOf ∈ gT := gT_in (inP3 (List.mem_of_getElem? (l := lw_privs_3) (i := 3) rfl)) rfl
theorem mw_787 : Cond.selects RX4 yX4_isMissing yX4_isMissing ∈ gT := gT_in (inP3 (List.mem_of_getElem? (l := lw_privs_3) (i := 4) rfl)) rfl
theorem mw_788 : Cond.selects RX4 yX4_isWord yX4_isWord ∈ gT := gT_in (inP3 (List.mem_of_getElem? (l := lw_privs_3) (i := 5) rfl)) rfl
theorem mw_789 : Cond.selects RX4 yX4_byteOf yX4_byteOf ∈ gT := gT_in (inP3 (List.mem_of_getElem? (l := lw_privs_3) (i := 6) rfl)) rfl
theorem mw_790 : Cond.selects RX4 yX4_tells yX4_tells ∈ gT := gT_in (inP3 (List.mem_of_getElem? (l := lw_privs_3) (i := 7) rfl)) rfl
theorem mw_791 : Cond.selects RX4 yX4_isFlag yX4_isFlag ∈ gT := gT_in (inP3 (List.mem_of_getElem? (l := lw_privs_3) (i := 8) rfl)) rfl
theorem mw_792 : Cond.selects RX4 yX4_isNumber yX4_isNumber ∈ gT := gT_in (inP3 (List.mem_of_getElem? (l := lw_privs_3) (i := 9) rfl)) rfl
theorem mw_793 : Cond.selects RX4 yX4_more yX4_more ∈ gT := gT_in (inP3 (List.mem_of_getElem? (l := lw_privs_3) (i := 10) rfl)) rfl
theorem mw_794 : Cond.selects RX4 yX4_isDay yX4_isDay ∈ gT := gT_in (inP3 (List.mem_of_getElem? (l := lw_privs_3) (i := 11) rfl)) rfl
theorem mw_795 : Cond.selects RX4 yX4_whole yX4_whole ∈ gT := gT_in (inP3 (List.mem_of_getElem? (l := lw_privs_3) (i := 12) rfl)) rfl
theorem mw_796 : Cond.selects RX4 yX4_isCode yX4_isCode ∈ gT := gT_in (inP3 (List.mem_of_getElem? (l := lw_privs_3) (i := 13) rfl)) rfl
theorem mw_797 : Cond.selects RX4 yX4_cellCost yX4_cellCost ∈ gT := gT_in (inP3 (List.mem_of_getElem? (l := lw_privs_3) (i := 14) rfl)) rfl
theorem mw_798 : Cond.selects RX4 yX4_rowCost yX4_rowCost ∈ gT := gT_in (inP3 (List.mem_of_getElem? (l := lw_privs_3) (i := 15) rfl)) rfl
theorem mw_799 : Cond.selects RX4 yX4_isRow yX4_isRow ∈ gT := gT_in (inP4 (List.mem_of_getElem? (l := lw_privs_4) (i := 0) rfl)) rfl
theorem mw_800 : Cond.selects RX4 yX4_cellAt yX4_cellAt ∈ gT := gT_in (inP4 (List.mem_of_getElem? (l := lw_privs_4) (i := 1) rfl)) rfl
theorem mw_801 : Cond.selects RX4 yX4_isColumn yX4_isColumn ∈ gT := gT_in (inP4 (List.mem_of_getElem? (l := lw_privs_4) (i := 2) rfl)) rfl
theorem mw_802 : Cond.selects RX4 yX4_told yX4_told ∈ gT := gT_in (inP4 (List.mem_of_getElem? (l := lw_privs_4) (i := 3) rfl)) rfl
theorem mw_803 : Cond.selects RX4 yX4_writeWord yX4_writeWord ∈ gT := gT_in (inP4 (List.mem_of_getElem? (l := lw_privs_4) (i := 4) rfl)) rfl
theorem mw_804 : Cond.selects RX4 yX4_write yX4_write ∈ gT := gT_in (inP4 (List.mem_of_getElem? (l := lw_privs_4) (i := 5) rfl)) rfl
theorem mw_805 : Cond.selects RX4 yX4_writeNumber yX4_writeNumber ∈ gT := gT_in (inP4 (List.mem_of_getElem? (l := lw_privs_4) (i := 6) rfl)) rfl
theorem mw_806 : Cond.selects RX4 yX4_writeDay yX4_writeDay ∈ gT := gT_in (inP4 (List.mem_of_getElem? (l := lw_privs_4) (i := 7) rfl)) rfl
theorem mw_807 : Cond.selects RX4 yX4_writeWhole yX4_writeWhole ∈ gT := gT_in (inP4 (List.mem_of_getElem? (l := lw_privs_4) (i := 8) rfl)) rfl
theorem mw_808 : Cond.selects RX4 yX4_isSame yX4_isSame ∈ gT := gT_in (inP4 (List.mem_of_getElem? (l := lw_privs_4) (i := 9) rfl)) rfl
