theorem q0 : Cond.selects RX8 yX8_append yX8_append ∈ wAll := w_in (k := 0) (by decide +kernel) rfl
theorem q3 : Cond.selects RX8 yX8_behindLetters yX8_behindLetters ∈ wAll := w_in (k := 3) (by decide +kernel) rfl
theorem q5 : Cond.selects RX8 yX8_addToken yX8_addToken ∈ wAll := w_in (k := 5) (by decide +kernel) rfl
theorem q8 : Cond.selects RX8 yX8_behindDigits yX8_behindDigits ∈ wAll := w_in (k := 8) (by decide +kernel) rfl
theorem q9 : Cond.selects RX8 yX8_numberFrom yX8_numberFrom ∈ wAll := w_in (k := 9) (by decide +kernel) rfl
theorem q10 : Cond.selects RX8 yX8_close yX8_close ∈ wAll := w_in (k := 10) (by decide +kernel) rfl
theorem q11 : Cond.selects RX8 yX8_statement yX8_statement ∈ wAll := w_in (k := 11) (by decide +kernel) rfl
theorem q12 : Cond.selects RX8 yX8_blame yX8_blame ∈ wAll := w_in (k := 12) (by decide +kernel) rfl
theorem q13 : Cond.selects RX8 yX8_behindWord yX8_behindWord ∈ wAll := w_in (k := 13) (by decide +kernel) rfl
theorem q14 : Cond.selects RX8 yX8_sums yX8_sums ∈ wAll := w_in (k := 14) (by decide +kernel) rfl
theorem q15 : Cond.selects RX8 yX8_sum yX8_sum ∈ wAll := w_in (k := 15) (by decide +kernel) rfl
theorem q16 : Cond.selects RX8 yX8_factor yX8_factor ∈ wAll := w_in (k := 16) (by decide +kernel) rfl
theorem q17 : Cond.selects RX8 yX8_take yX8_take ∈ wAll := w_in (k := 17) (by decide +kernel) rfl
theorem q18 : Cond.selects RX8 yX8_times yX8_times ∈ wAll := w_in (k := 18) (by decide +kernel) rfl
theorem q19 : Cond.selects RX8 yX8_open yX8_open ∈ wAll := w_in (k := 19) (by decide +kernel) rfl
theorem q21 : Cond.selects RX10 yX10_copyFrom yX10_copyFrom ∈ wAll := w_in (k := 21) (by decide +kernel) rfl
theorem q22 : Cond.selects RX2 yX2_copyFrom yX2_copyFrom ∈ wAll := w_in (k := 22) (by decide +kernel) rfl
theorem q23 : Cond.selects RX1 yX1_copyFrom yX1_copyFrom ∈ wAll := w_in (k := 23) (by decide +kernel) rfl
theorem q24 : Cond.selects RX3 yX3_copyFrom yX3_copyFrom ∈ wAll := w_in (k := 24) (by decide +kernel) rfl
theorem q25 : Cond.selects RX5 yX5_copyFrom yX5_copyFrom ∈ wAll := w_in (k := 25) (by decide +kernel) rfl
theorem q26 : Cond.selects RX0 yX0_copyFrom yX0_copyFrom ∈ wAll := w_in (k := 26) (by decide +kernel) rfl
theorem q27 : Cond.selects RX10 yX10_readBlock yX10_readBlock ∈ wAll := w_in (k := 27) (by decide +kernel) rfl
theorem q28 : Cond.selects RX10 yX10_note yX10_note ∈ wAll := w_in (k := 28) (by decide +kernel) rfl
theorem q29 : Cond.selects RX3 yX3_advance yX3_advance ∈ wAll := w_in (k := 29) (by decide +kernel) rfl
theorem q30 : Cond.selects RX2 yX2_warm yX2_warm ∈ wAll := w_in (k := 30) (by decide +kernel) rfl
theorem q31 : Cond.selects RX1 yX1_fastAt yX1_fastAt ∈ wAll := w_in (k := 31) (by decide +kernel) rfl
theorem q32 : Cond.selects RX10 yX10_writeBlock yX10_writeBlock ∈ wAll := w_in (k := 32) (by decide +kernel) rfl
theorem q33 : Cond.selects RX1 yX1_putFast yX1_putFast ∈ wAll := w_in (k := 33) (by decide +kernel) rfl
theorem q34 : Cond.selects RX5 yX5_find yX5_find ∈ wAll := w_in (k := 34) (by decide +kernel) rfl
theorem q35 : Cond.selects RX10 yX10_readExtents yX10_readExtents ∈ wAll := w_in (k := 35) (by decide +kernel) rfl
theorem q36 : Cond.selects RX10 yX10_writeDown yX10_writeDown ∈ wAll := w_in (k := 36) (by decide +kernel) rfl
theorem q37 : Cond.selects RX0 yX0_add yX0_add ∈ wAll := w_in (k := 37) (by decide +kernel) rfl
theorem q38 : Cond.selects RX5 yX5_add yX5_add ∈ wAll := w_in (k := 38) (by decide +kernel) rfl
theorem q39 : Cond.selects RX10 yX10_dropMove yX10_dropMove ∈ wAll := w_in (k := 39) (by decide +kernel) rfl
theorem q40 : Cond.selects RX5 yX5_holdsSlots yX5_holdsSlots ∈ wAll := w_in (k := 40) (by decide +kernel) rfl
theorem q41 : Cond.selects RX1 yX1_leaveSlots yX1_leaveSlots ∈ wAll := w_in (k := 41) (by decide +kernel) rfl
theorem q42 : Cond.selects RX5 yX5_remove yX5_remove ∈ wAll := w_in (k := 42) (by decide +kernel) rfl
theorem q43 : Cond.selects RX10 yX10_pass yX10_pass ∈ wAll := w_in (k := 43) (by decide +kernel) rfl
theorem q44 : Cond.selects RX10 yX10_tick yX10_tick ∈ wAll := w_in (k := 44) (by decide +kernel) rfl
theorem q45 : Cond.selects RX10 yX10_moveBlocks yX10_moveBlocks ∈ wAll := w_in (k := 45) (by decide +kernel) rfl
theorem q46 : Cond.selects RX10 yX10_begin yX10_begin ∈ wAll := w_in (k := 46) (by decide +kernel) rfl
theorem q47 : Cond.selects RX1 yX1_freeSlots yX1_freeSlots ∈ wAll := w_in (k := 47) (by decide +kernel) rfl
theorem q48 : Cond.selects RX1 yX1_takeSlots yX1_takeSlots ∈ wAll := w_in (k := 48) (by decide +kernel) rfl
theorem q49 : Cond.selects RX10 yX10_copyBlocks yX10_copyBlocks ∈ wAll := w_in (k := 49) (by decide +kernel) rfl
theorem q50 : Cond.selects RX10 yX10_blocksToCopy yX10_blocksToCopy ∈ wAll := w_in (k := 50) (by decide +kernel) rfl
theorem q51 : Cond.selects RX10 yX10_copyBlock yX10_copyBlock ∈ wAll := w_in (k := 51) (by decide +kernel) rfl
theorem q52 : Cond.selects RX10 yX10_switchWhole yX10_switchWhole ∈ wAll := w_in (k := 52) (by decide +kernel) rfl
theorem q53 : Cond.selects RX10 yX10_switchOver yX10_switchOver ∈ wAll := w_in (k := 53) (by decide +kernel) rfl
theorem q54 : Cond.selects RX10 yX10_makePlan yX10_makePlan ∈ wAll := w_in (k := 54) (by decide +kernel) rfl
theorem q55 : Cond.selects RX6 yX6_makeFor yX6_makeFor ∈ wAll := w_in (k := 55) (by decide +kernel) rfl
theorem q56 : Cond.selects RX6 yX6_weigh yX6_weigh ∈ wAll := w_in (k := 56) (by decide +kernel) rfl
theorem q57 : Cond.selects RX6 yX6_bind yX6_bind ∈ wAll := w_in (k := 57) (by decide +kernel) rfl
theorem q58 : Cond.selects RX6 yX6_choose yX6_choose ∈ wAll := w_in (k := 58) (by decide +kernel) rfl
theorem q59 : Cond.selects RX6 yX6_listMoves yX6_listMoves ∈ wAll := w_in (k := 59) (by decide +kernel) rfl
theorem q60 : Cond.selects RX2 yX2_hotter yX2_hotter ∈ wAll := w_in (k := 60) (by decide +kernel) rfl
theorem q61 : Cond.selects RX2 yX2_age yX2_age ∈ wAll := w_in (k := 61) (by decide +kernel) rfl
theorem q62 : Cond.selects RX10 yX10_loseMemory yX10_loseMemory ∈ wAll := w_in (k := 62) (by decide +kernel) rfl
theorem q63 : Cond.selects RX2 yX2_forget yX2_forget ∈ wAll := w_in (k := 63) (by decide +kernel) rfl
theorem q66 : Cond.selects RX7 yX7_statement yX7_statement ∈ wAll := w_in (k := 66) (by decide +kernel) rfl
theorem q67 : Cond.selects RX9 yX9_kindAt yX9_kindAt ∈ wAll := w_in (k := 67) (by decide +kernel) rfl
theorem q68 : Cond.selects RX7 yX7_readOne yX7_readOne ∈ wAll := w_in (k := 68) (by decide +kernel) rfl
theorem q69 : Cond.selects RX7 yX7_sum yX7_sum ∈ wAll := w_in (k := 69) (by decide +kernel) rfl
theorem q70 : Cond.selects RX7 yX7_product yX7_product ∈ wAll := w_in (k := 70) (by decide +kernel) rfl
theorem q71 : Cond.selects RX7 yX7_factor yX7_factor ∈ wAll := w_in (k := 71) (by decide +kernel) rfl
theorem q72 : Cond.selects RX9 yX9_valueAt yX9_valueAt ∈ wAll := w_in (k := 72) (by decide +kernel) rfl
theorem q73 : Cond.selects RX7 yX7_writeOne yX7_writeOne ∈ wAll := w_in (k := 73) (by decide +kernel) rfl
theorem q74 : Cond.selects RX7 yX7_scanSome yX7_scanSome ∈ wAll := w_in (k := 74) (by decide +kernel) rfl
theorem q75 : Cond.selects RX7 yX7_enter yX7_enter ∈ wAll := w_in (k := 75) (by decide +kernel) rfl
theorem q76 : Cond.selects RX7 yX7_enterIf yX7_enterIf ∈ wAll := w_in (k := 76) (by decide +kernel) rfl
theorem q77 : Cond.selects RX7 yX7_leave yX7_leave ∈ wAll := w_in (k := 77) (by decide +kernel) rfl
theorem q78 : Cond.selects RX10 yX10_live yX10_live ∈ wAll := w_in (k := 78) (by decide +kernel) rfl
theorem q79 : Cond.selects RX10 yX10_happen yX10_happen ∈ wAll := w_in (k := 79) (by decide +kernel) rfl
theorem q81 : Cond.selects RX1 yX1_lowestFree yX1_lowestFree ∈ wAll := w_in (k := 81) (by decide +kernel) rfl
theorem q82 : Cond.selects RX2 yX2_detail yX2_detail ∈ wAll := w_in (k := 82) (by decide +kernel) rfl
theorem q83 : Cond.selects RX3 yX3_detail yX3_detail ∈ wAll := w_in (k := 83) (by decide +kernel) rfl
theorem q84 : Cond.selects RX5 yX5_detail yX5_detail ∈ wAll := w_in (k := 84) (by decide +kernel) rfl
theorem q85 : Cond.selects RX6 yX6_allows yX6_allows ∈ wAll := w_in (k := 85) (by decide +kernel) rfl
theorem q86 : Cond.selects RX6 yX6_needOf yX6_needOf ∈ wAll := w_in (k := 86) (by decide +kernel) rfl
theorem q87 : Cond.selects RX6 yX6_worthOf yX6_worthOf ∈ wAll := w_in (k := 87) (by decide +kernel) rfl
theorem q88 : Cond.selects RX6 yX6_leastHeat yX6_leastHeat ∈ wAll := w_in (k := 88) (by decide +kernel) rfl
theorem q89 : Cond.selects RX6 yX6_force yX6_force ∈ wAll := w_in (k := 89) (by decide +kernel) rfl
theorem q90 : Cond.selects RX2 yX2_hotterThan yX2_hotterThan ∈ wAll := w_in (k := 90) (by decide +kernel) rfl
theorem q91 : Cond.selects RX0 yX0_detail yX0_detail ∈ wAll := w_in (k := 91) (by decide +kernel) rfl
theorem q92 : Cond.selects RX0 yX0_linesOf yX0_linesOf ∈ wAll := w_in (k := 92) (by decide +kernel) rfl
theorem q94 : Cond.selects RX12 yX12_four yX12_four ∈ wAll := w_in (k := 94) (by decide +kernel) rfl
theorem q95 : Cond.selects RX12 yX12_readText yX12_readText ∈ wAll := w_in (k := 95) (by decide +kernel) rfl
theorem q96 : Cond.selects RX12 yX12_nextToken yX12_nextToken ∈ wAll := w_in (k := 96) (by decide +kernel) rfl
theorem q97 : Cond.selects RX12 yX12_byteAt yX12_byteAt ∈ wAll := w_in (k := 97) (by decide +kernel) rfl
theorem q98 : Cond.selects RX12 yX12_wordOf yX12_wordOf ∈ wAll := w_in (k := 98) (by decide +kernel) rfl
theorem q99 : Cond.selects RX12 yX12_isWord yX12_isWord ∈ wAll := w_in (k := 99) (by decide +kernel) rfl
theorem q100 : Cond.selects RX12 yX12_closed yX12_closed ∈ wAll := w_in (k := 100) (by decide +kernel) rfl
theorem q101 : Cond.selects RX12 yX12_statement yX12_statement ∈ wAll := w_in (k := 101) (by decide +kernel) rfl
theorem q102 : Cond.selects RX12 yX12_sums yX12_sums ∈ wAll := w_in (k := 102) (by decide +kernel) rfl
theorem q103 : Cond.selects RX12 yX12_summed yX12_summed ∈ wAll := w_in (k := 103) (by decide +kernel) rfl
theorem q104 : Cond.selects RX12 yX12_one yX12_one ∈ wAll := w_in (k := 104) (by decide +kernel) rfl
theorem q105 : Cond.selects RX12 yX12_loopHead yX12_loopHead ∈ wAll := w_in (k := 105) (by decide +kernel) rfl
theorem q106 : Cond.selects RX12 yX12_opened yX12_opened ∈ wAll := w_in (k := 106) (by decide +kernel) rfl
theorem q107 : Cond.selects RX12 yX12_choiceHead yX12_choiceHead ∈ wAll := w_in (k := 107) (by decide +kernel) rfl
theorem q108 : Cond.selects RX12 yX12_keep yX12_keep ∈ wAll := w_in (k := 108) (by decide +kernel) rfl
theorem q109 : Cond.selects RX12 yX12_readNow yX12_readNow ∈ wAll := w_in (k := 109) (by decide +kernel) rfl
theorem q110 : Cond.selects RX12 yX12_access yX12_access ∈ wAll := w_in (k := 110) (by decide +kernel) rfl
theorem q111 : Cond.selects RX12 yX12_isFast yX12_isFast ∈ wAll := w_in (k := 111) (by decide +kernel) rfl
theorem q112 : Cond.selects RX12 yX12_headed yX12_headed ∈ wAll := w_in (k := 112) (by decide +kernel) rfl
theorem q113 : Cond.selects RX12 yX12_headAt yX12_headAt ∈ wAll := w_in (k := 113) (by decide +kernel) rfl
theorem q114 : Cond.selects RX12 yX12_outHead yX12_outHead ∈ wAll := w_in (k := 114) (by decide +kernel) rfl
theorem q115 : Cond.selects RX12 yX12_slotOf yX12_slotOf ∈ wAll := w_in (k := 115) (by decide +kernel) rfl
theorem q116 : Cond.selects RX12 yX12_writeNow yX12_writeNow ∈ wAll := w_in (k := 116) (by decide +kernel) rfl
theorem q117 : Cond.selects RX12 yX12_moveAt yX12_moveAt ∈ wAll := w_in (k := 117) (by decide +kernel) rfl
theorem q118 : Cond.selects RX12 yX12_scanNow yX12_scanNow ∈ wAll := w_in (k := 118) (by decide +kernel) rfl
theorem q119 : Cond.selects RX12 yX12_writeDown yX12_writeDown ∈ wAll := w_in (k := 119) (by decide +kernel) rfl
theorem q120 : Cond.selects RX12 yX12_addMove yX12_addMove ∈ wAll := w_in (k := 120) (by decide +kernel) rfl
theorem q121 : Cond.selects RX12 yX12_dropMove yX12_dropMove ∈ wAll := w_in (k := 121) (by decide +kernel) rfl
theorem q122 : Cond.selects RX12 yX12_ofMove yX12_ofMove ∈ wAll := w_in (k := 122) (by decide +kernel) rfl
theorem q123 : Cond.selects RX12 yX12_freeSlots yX12_freeSlots ∈ wAll := w_in (k := 123) (by decide +kernel) rfl
theorem q124 : Cond.selects RX12 yX12_outMove yX12_outMove ∈ wAll := w_in (k := 124) (by decide +kernel) rfl
theorem q125 : Cond.selects RX12 yX12_ticks yX12_ticks ∈ wAll := w_in (k := 125) (by decide +kernel) rfl
theorem q126 : Cond.selects RX12 yX12_tick yX12_tick ∈ wAll := w_in (k := 126) (by decide +kernel) rfl
theorem q127 : Cond.selects RX12 yX12_goMoves yX12_goMoves ∈ wAll := w_in (k := 127) (by decide +kernel) rfl
theorem q128 : Cond.selects RX12 yX12_isBegun yX12_isBegun ∈ wAll := w_in (k := 128) (by decide +kernel) rfl
theorem q129 : Cond.selects RX12 yX12_manyFree yX12_manyFree ∈ wAll := w_in (k := 129) (by decide +kernel) rfl
theorem q130 : Cond.selects RX12 yX12_freeFrom yX12_freeFrom ∈ wAll := w_in (k := 130) (by decide +kernel) rfl
theorem q131 : Cond.selects RX12 yX12_holderOf yX12_holderOf ∈ wAll := w_in (k := 131) (by decide +kernel) rfl
theorem q132 : Cond.selects RX12 yX12_toCopy yX12_toCopy ∈ wAll := w_in (k := 132) (by decide +kernel) rfl
theorem q133 : Cond.selects RX12 yX12_copyBlock yX12_copyBlock ∈ wAll := w_in (k := 133) (by decide +kernel) rfl
theorem q134 : Cond.selects RX12 yX12_switchMove yX12_switchMove ∈ wAll := w_in (k := 134) (by decide +kernel) rfl
theorem q135 : Cond.selects RX12 yX12_endEpoch yX12_endEpoch ∈ wAll := w_in (k := 135) (by decide +kernel) rfl
theorem q136 : Cond.selects RX12 yX12_makePlan yX12_makePlan ∈ wAll := w_in (k := 136) (by decide +kernel) rfl
theorem q137 : Cond.selects RX12 yX12_bestSet yX12_bestSet ∈ wAll := w_in (k := 137) (by decide +kernel) rfl
theorem q138 : Cond.selects RX12 yX12_isAllowed yX12_isAllowed ∈ wAll := w_in (k := 138) (by decide +kernel) rfl
theorem q139 : Cond.selects RX12 yX12_mayBe yX12_mayBe ∈ wAll := w_in (k := 139) (by decide +kernel) rfl
theorem q140 : Cond.selects RX12 yX12_begunOf yX12_begunOf ∈ wAll := w_in (k := 140) (by decide +kernel) rfl
theorem q141 : Cond.selects RX12 yX12_copiedFor yX12_copiedFor ∈ wAll := w_in (k := 141) (by decide +kernel) rfl
theorem q142 : Cond.selects RX12 yX12_worthOf yX12_worthOf ∈ wAll := w_in (k := 142) (by decide +kernel) rfl
theorem q143 : Cond.selects RX12 yX12_layNew yX12_layNew ∈ wAll := w_in (k := 143) (by decide +kernel) rfl
theorem q144 : Cond.selects RX12 yX12_crashNow yX12_crashNow ∈ wAll := w_in (k := 144) (by decide +kernel) rfl
theorem q145 : Cond.selects RX12 yX12_goText yX12_goText ∈ wAll := w_in (k := 145) (by decide +kernel) rfl
theorem q146 : Cond.selects RX12 yX12_tokenAt yX12_tokenAt ∈ wAll := w_in (k := 146) (by decide +kernel) rfl
theorem q147 : Cond.selects RX12 yX12_isOver yX12_isOver ∈ wAll := w_in (k := 147) (by decide +kernel) rfl
theorem q148 : Cond.selects RX12 yX12_goStatement yX12_goStatement ∈ wAll := w_in (k := 148) (by decide +kernel) rfl
theorem q149 : Cond.selects RX12 yX12_goAround yX12_goAround ∈ wAll := w_in (k := 149) (by decide +kernel) rfl
theorem q150 : Cond.selects RX12 yX12_numberAt yX12_numberAt ∈ wAll := w_in (k := 150) (by decide +kernel) rfl
theorem q151 : Cond.selects RX12 yX12_goInto yX12_goInto ∈ wAll := w_in (k := 151) (by decide +kernel) rfl
theorem q152 : Cond.selects RX12 yX12_goChoice yX12_goChoice ∈ wAll := w_in (k := 152) (by decide +kernel) rfl
theorem q153 : Cond.selects RX12 yX12_goSum yX12_goSum ∈ wAll := w_in (k := 153) (by decide +kernel) rfl
theorem q154 : Cond.selects RX12 yX12_goProduct yX12_goProduct ∈ wAll := w_in (k := 154) (by decide +kernel) rfl
theorem q155 : Cond.selects RX12 yX12_goOne yX12_goOne ∈ wAll := w_in (k := 155) (by decide +kernel) rfl
theorem q156 : Cond.selects RX12 yX12_passBlock yX12_passBlock ∈ wAll := w_in (k := 156) (by decide +kernel) rfl
theorem q157 : Cond.selects RX12 yX12_goAct yX12_goAct ∈ wAll := w_in (k := 157) (by decide +kernel) rfl
theorem q158 : Cond.selects RX12 yX12_goScan yX12_goScan ∈ wAll := w_in (k := 158) (by decide +kernel) rfl
theorem q159 : Cond.selects RX12 yX12_drawn yX12_drawn ∈ wAll := w_in (k := 159) (by decide +kernel) rfl
theorem q160 : Cond.selects RX12 yX12_happens yX12_happens ∈ wAll := w_in (k := 160) (by decide +kernel) rfl
theorem q161 : Cond.selects RX12 yX12_layBests yX12_layBests ∈ wAll := w_in (k := 161) (by decide +kernel) rfl
theorem q162 : Cond.selects RX12 yX12_shareOf yX12_shareOf ∈ wAll := w_in (k := 162) (by decide +kernel) rfl
theorem q163 : Cond.selects RX12 yX12_isInWith yX12_isInWith ∈ wAll := w_in (k := 163) (by decide +kernel) rfl
theorem q164 : Cond.selects RX12 yX12_putAside yX12_putAside ∈ wAll := w_in (k := 164) (by decide +kernel) rfl
theorem q165 : Cond.selects RX12 yX12_bringBack yX12_bringBack ∈ wAll := w_in (k := 165) (by decide +kernel) rfl
theorem q166 : Cond.selects RX12 yX12_isHotter yX12_isHotter ∈ wAll := w_in (k := 166) (by decide +kernel) rfl
theorem q169 : Cond.initialized RX10 ∈ wAll := w_in (k := 169) (by decide +kernel) rfl
theorem q170 : Cond.initialized RX2 ∈ wAll := w_in (k := 170) (by decide +kernel) rfl
theorem q171 : Cond.initialized RX1 ∈ wAll := w_in (k := 171) (by decide +kernel) rfl
theorem q172 : Cond.initialized RX3 ∈ wAll := w_in (k := 172) (by decide +kernel) rfl
theorem q173 : Cond.initialized RX5 ∈ wAll := w_in (k := 173) (by decide +kernel) rfl
theorem q174 : Cond.initialized RX0 ∈ wAll := w_in (k := 174) (by decide +kernel) rfl
theorem q176 : Cond.initialized RX6 ∈ wAll := w_in (k := 176) (by decide +kernel) rfl
theorem q177 : Cond.initialized RX7 ∈ wAll := w_in (k := 177) (by decide +kernel) rfl
theorem q178 : Cond.initialized RX8 ∈ wAll := w_in (k := 178) (by decide +kernel) rfl
theorem q179 : Cond.initialized RX12 ∈ wAll := w_in (k := 179) (by decide +kernel) rfl
theorem q184 : Cond.initialized RJ9 ∈ wAll := w_in (k := 184) (by decide +kernel) rfl
theorem q185 : Cond.initialized RX9 ∈ wAll := w_in (k := 185) (by decide +kernel) rfl
theorem q186 : Cond.initialized RJ10 ∈ wAll := w_in (k := 186) (by decide +kernel) rfl
theorem q187 : Cond.initialized RJ6 ∈ wAll := w_in (k := 187) (by decide +kernel) rfl
theorem q210 : Cond.fieldLink RX2 9 "WarmExtents$Extents" "fast" "[I" ∈ wAll := w_in (k := 210) (by decide +kernel) rfl
theorem q211 : Cond.fieldLinkNest RX6 76 "WarmExtents$Extents" "fast" "[I" "WarmExtents" ∈ nwAll := nw_in (k := 211) (by decide +kernel) rfl
theorem q212 : Cond.fieldLinkNest RX10 76 "WarmExtents$Extents" "fast" "[I" "WarmExtents" ∈ nwAll := nw_in (k := 212) (by decide +kernel) rfl
theorem q214 : Cond.fieldLink RX2 15 "WarmExtents$Extents" "pinned" "[I" ∈ wAll := w_in (k := 214) (by decide +kernel) rfl
theorem q215 : Cond.fieldLinkNest RX6 110 "WarmExtents$Extents" "pinned" "[I" "WarmExtents" ∈ nwAll := nw_in (k := 215) (by decide +kernel) rfl
theorem q217 : Cond.fieldLink RX2 18 "WarmExtents$Extents" "rest" "[I" ∈ wAll := w_in (k := 217) (by decide +kernel) rfl
theorem q218 : Cond.fieldLinkNest RX6 81 "WarmExtents$Extents" "rest" "[I" "WarmExtents" ∈ nwAll := nw_in (k := 218) (by decide +kernel) rfl
theorem q219 : Cond.fieldLinkNest RX10 184 "WarmExtents$Extents" "rest" "[I" "WarmExtents" ∈ nwAll := nw_in (k := 219) (by decide +kernel) rfl
theorem q220 : Cond.fieldLink RX2 21 "WarmExtents$Extents" "dirty" "[I" ∈ wAll := w_in (k := 220) (by decide +kernel) rfl
theorem q221 : Cond.fieldLinkNest RX6 94 "WarmExtents$Extents" "dirty" "[I" "WarmExtents" ∈ nwAll := nw_in (k := 221) (by decide +kernel) rfl
theorem q222 : Cond.fieldLinkNest RX10 109 "WarmExtents$Extents" "dirty" "[I" "WarmExtents" ∈ nwAll := nw_in (k := 222) (by decide +kernel) rfl
theorem q223 : Cond.fieldLink RX2 24 "WarmExtents$Extents" "switched" "[I" ∈ wAll := w_in (k := 223) (by decide +kernel) rfl
theorem q224 : Cond.fieldLinkNest RX10 187 "WarmExtents$Extents" "switched" "[I" "WarmExtents" ∈ nwAll := nw_in (k := 224) (by decide +kernel) rfl
theorem q225 : Cond.fieldLink RX2 27 "WarmExtents$Extents" "earned" "[I" ∈ wAll := w_in (k := 225) (by decide +kernel) rfl
theorem q226 : Cond.fieldLinkNest RX10 97 "WarmExtents$Extents" "earned" "[I" "WarmExtents" ∈ nwAll := nw_in (k := 226) (by decide +kernel) rfl
theorem q228 : Cond.fieldLink RX2 30 "WarmExtents$Extents" "heat" "[I" ∈ wAll := w_in (k := 228) (by decide +kernel) rfl
theorem q229 : Cond.fieldLinkNest RX6 103 "WarmExtents$Extents" "heat" "[I" "WarmExtents" ∈ nwAll := nw_in (k := 229) (by decide +kernel) rfl
theorem q231 : Cond.fieldLink RX2 33 "WarmExtents$Extents" "seen" "[I" ∈ wAll := w_in (k := 231) (by decide +kernel) rfl
theorem q232 : Cond.fieldLinkNest RX6 130 "WarmExtents$Extents" "seen" "[I" "WarmExtents" ∈ nwAll := nw_in (k := 232) (by decide +kernel) rfl
theorem q233 : Cond.fieldLink RX2 36 "WarmExtents$Extents" "plain" "[I" ∈ wAll := w_in (k := 233) (by decide +kernel) rfl
theorem q234 : Cond.fieldLinkNest RX6 136 "WarmExtents$Extents" "plain" "[I" "WarmExtents" ∈ nwAll := nw_in (k := 234) (by decide +kernel) rfl
theorem q235 : Cond.fieldLink RX2 39 "WarmExtents$Extents" "streamed" "[I" ∈ wAll := w_in (k := 235) (by decide +kernel) rfl
theorem q236 : Cond.fieldLinkNest RX10 86 "WarmExtents$Extents" "streamed" "[I" "WarmExtents" ∈ nwAll := nw_in (k := 236) (by decide +kernel) rfl
theorem q237 : Cond.fieldLinkNest RX6 133 "WarmExtents$Extents" "streamed" "[I" "WarmExtents" ∈ nwAll := nw_in (k := 237) (by decide +kernel) rfl
theorem q238 : Cond.fieldLink RX2 42 "WarmExtents$Extents" "savedHeat" "[I" ∈ wAll := w_in (k := 238) (by decide +kernel) rfl
theorem q239 : Cond.fieldLink RX2 45 "WarmExtents$Extents" "savedSeen" "[I" ∈ wAll := w_in (k := 239) (by decide +kernel) rfl
theorem q272 : Cond.fieldLink RX1 9 "WarmExtents$Disks" "slowValue" "[I" ∈ wAll := w_in (k := 272) (by decide +kernel) rfl
theorem q273 : Cond.fieldLinkNest RX10 103 "WarmExtents$Disks" "slowValue" "[I" "WarmExtents" ∈ nwAll := nw_in (k := 273) (by decide +kernel) rfl
theorem q275 : Cond.fieldLink RX1 15 "WarmExtents$Disks" "fastValue" "[I" ∈ wAll := w_in (k := 275) (by decide +kernel) rfl
theorem q277 : Cond.fieldLink RX1 18 "WarmExtents$Disks" "slotOf" "[I" ∈ wAll := w_in (k := 277) (by decide +kernel) rfl
theorem q279 : Cond.fieldLink RX1 21 "WarmExtents$Disks" "holderOf" "[I" ∈ wAll := w_in (k := 279) (by decide +kernel) rfl
theorem q296 : Cond.fieldLink RX3 9 "WarmExtents$Heads" "many" "I" ∈ wAll := w_in (k := 296) (by decide +kernel) rfl
theorem q297 : Cond.fieldLinkNest RX10 222 "WarmExtents$Heads" "many" "I" "WarmExtents" ∈ nwAll := nw_in (k := 297) (by decide +kernel) rfl
theorem q298 : Cond.fieldLink RX3 15 "WarmExtents$Heads" "awaited" "[I" ∈ wAll := w_in (k := 298) (by decide +kernel) rfl
theorem q299 : Cond.fieldLink RX3 19 "WarmExtents$Heads" "length" "[I" ∈ wAll := w_in (k := 299) (by decide +kernel) rfl
theorem q313 : Cond.fieldLink RX5 9 "WarmExtents$Moves" "many" "I" ∈ wAll := w_in (k := 313) (by decide +kernel) rfl
theorem q314 : Cond.fieldLinkNest RX6 116 "WarmExtents$Moves" "many" "I" "WarmExtents" ∈ nwAll := nw_in (k := 314) (by decide +kernel) rfl
theorem q315 : Cond.fieldLinkNest RX10 141 "WarmExtents$Moves" "many" "I" "WarmExtents" ∈ nwAll := nw_in (k := 315) (by decide +kernel) rfl
theorem q317 : Cond.fieldLink RX5 15 "WarmExtents$Moves" "extent" "[I" ∈ wAll := w_in (k := 317) (by decide +kernel) rfl
theorem q318 : Cond.fieldLinkNest RX6 124 "WarmExtents$Moves" "extent" "[I" "WarmExtents" ∈ nwAll := nw_in (k := 318) (by decide +kernel) rfl
theorem q319 : Cond.fieldLinkNest RX10 155 "WarmExtents$Moves" "extent" "[I" "WarmExtents" ∈ nwAll := nw_in (k := 319) (by decide +kernel) rfl
theorem q320 : Cond.fieldLink RX5 19 "WarmExtents$Moves" "toFast" "[I" ∈ wAll := w_in (k := 320) (by decide +kernel) rfl
theorem q321 : Cond.fieldLinkNest RX6 127 "WarmExtents$Moves" "toFast" "[I" "WarmExtents" ∈ nwAll := nw_in (k := 321) (by decide +kernel) rfl
theorem q322 : Cond.fieldLinkNest RX10 158 "WarmExtents$Moves" "toFast" "[I" "WarmExtents" ∈ nwAll := nw_in (k := 322) (by decide +kernel) rfl
theorem q323 : Cond.fieldLink RX5 22 "WarmExtents$Moves" "begun" "[I" ∈ wAll := w_in (k := 323) (by decide +kernel) rfl
theorem q324 : Cond.fieldLinkNest RX6 121 "WarmExtents$Moves" "begun" "[I" "WarmExtents" ∈ nwAll := nw_in (k := 324) (by decide +kernel) rfl
theorem q325 : Cond.fieldLinkNest RX10 145 "WarmExtents$Moves" "begun" "[I" "WarmExtents" ∈ nwAll := nw_in (k := 325) (by decide +kernel) rfl
theorem q326 : Cond.fieldLink RX5 25 "WarmExtents$Moves" "copied" "[I" ∈ wAll := w_in (k := 326) (by decide +kernel) rfl
theorem q327 : Cond.fieldLinkNest RX10 115 "WarmExtents$Moves" "copied" "[I" "WarmExtents" ∈ nwAll := nw_in (k := 327) (by decide +kernel) rfl
theorem q345 : Cond.fieldLink RX0 9 "WarmExtents$Book" "many" "I" ∈ wAll := w_in (k := 345) (by decide +kernel) rfl
theorem q346 : Cond.fieldLink RX0 15 "WarmExtents$Book" "cells" "[I" ∈ wAll := w_in (k := 346) (by decide +kernel) rfl
theorem q352 : Cond.fieldLink RX10 9 "WarmExtents$World" "count" "[I" ∈ wAll := w_in (k := 352) (by decide +kernel) rfl
theorem q353 : Cond.fieldLinkNest RX6 84 "WarmExtents$World" "count" "[I" "WarmExtents" ∈ nwAll := nw_in (k := 353) (by decide +kernel) rfl
theorem q355 : Cond.fieldLink RX10 18 "WarmExtents$World" "extents" "LWarmExtents$Extents;" ∈ wAll := w_in (k := 355) (by decide +kernel) rfl
theorem q356 : Cond.fieldLinkNest RX6 72 "WarmExtents$World" "extents" "LWarmExtents$Extents;" "WarmExtents" ∈ nwAll := nw_in (k := 356) (by decide +kernel) rfl
theorem q358 : Cond.fieldLink RX10 25 "WarmExtents$World" "disks" "LWarmExtents$Disks;" ∈ wAll := w_in (k := 358) (by decide +kernel) rfl
theorem q360 : Cond.fieldLink RX10 32 "WarmExtents$World" "heads" "LWarmExtents$Heads;" ∈ wAll := w_in (k := 360) (by decide +kernel) rfl
theorem q362 : Cond.fieldLink RX10 39 "WarmExtents$World" "moves" "LWarmExtents$Moves;" ∈ wAll := w_in (k := 362) (by decide +kernel) rfl
theorem q363 : Cond.fieldLinkNest RX6 62 "WarmExtents$World" "moves" "LWarmExtents$Moves;" "WarmExtents" ∈ nwAll := nw_in (k := 363) (by decide +kernel) rfl
theorem q365 : Cond.fieldLink RX10 46 "WarmExtents$World" "book" "LWarmExtents$Book;" ∈ wAll := w_in (k := 365) (by decide +kernel) rfl
theorem q406 : Cond.fieldLink RX6 9 "WarmExtents$Planner" "mayBeIn" "[Z" ∈ wAll := w_in (k := 406) (by decide +kernel) rfl
theorem q407 : Cond.fieldLink RX6 15 "WarmExtents$Planner" "mayBeOut" "[Z" ∈ wAll := w_in (k := 407) (by decide +kernel) rfl
theorem q408 : Cond.fieldLink RX6 18 "WarmExtents$Planner" "bound" "[Z" ∈ wAll := w_in (k := 408) (by decide +kernel) rfl
theorem q409 : Cond.fieldLink RX6 21 "WarmExtents$Planner" "worthIn" "[I" ∈ wAll := w_in (k := 409) (by decide +kernel) rfl
theorem q410 : Cond.fieldLink RX6 25 "WarmExtents$Planner" "worthOut" "[I" ∈ wAll := w_in (k := 410) (by decide +kernel) rfl
theorem q411 : Cond.fieldLink RX6 28 "WarmExtents$Planner" "needIn" "[I" ∈ wAll := w_in (k := 411) (by decide +kernel) rfl
theorem q412 : Cond.fieldLink RX6 31 "WarmExtents$Planner" "needOut" "[I" ∈ wAll := w_in (k := 412) (by decide +kernel) rfl
theorem q413 : Cond.fieldLink RX6 34 "WarmExtents$Planner" "room" "I" ∈ wAll := w_in (k := 413) (by decide +kernel) rfl
theorem q414 : Cond.fieldLink RX6 38 "WarmExtents$Planner" "found" "Z" ∈ wAll := w_in (k := 414) (by decide +kernel) rfl
theorem q415 : Cond.fieldLink RX6 42 "WarmExtents$Planner" "bestSet" "I" ∈ wAll := w_in (k := 415) (by decide +kernel) rfl
theorem q416 : Cond.fieldLinkNest RX10 216 "WarmExtents$Planner" "bestSet" "I" "WarmExtents" ∈ nwAll := nw_in (k := 416) (by decide +kernel) rfl
theorem q418 : Cond.fieldLink RX6 45 "WarmExtents$Planner" "bestWorth" "I" ∈ wAll := w_in (k := 418) (by decide +kernel) rfl
theorem q420 : Cond.fieldLink RX6 48 "WarmExtents$Planner" "newMoves" "[I" ∈ wAll := w_in (k := 420) (by decide +kernel) rfl
theorem q421 : Cond.fieldLinkNest RX10 211 "WarmExtents$Planner" "newMoves" "[I" "WarmExtents" ∈ nwAll := nw_in (k := 421) (by decide +kernel) rfl
theorem q423 : Cond.fieldLink RX6 51 "WarmExtents$Planner" "newMany" "I" ∈ wAll := w_in (k := 423) (by decide +kernel) rfl
theorem q424 : Cond.fieldLinkNest RX10 208 "WarmExtents$Planner" "newMany" "I" "WarmExtents" ∈ nwAll := nw_in (k := 424) (by decide +kernel) rfl
theorem q460 : Cond.fieldLink RX7 9 "WarmExtents$Player" "script" "LWarmExtents$Text;" ∈ wAll := w_in (k := 460) (by decide +kernel) rfl
theorem q461 : Cond.fieldLink RX7 15 "WarmExtents$Player" "world" "LWarmExtents$World;" ∈ wAll := w_in (k := 461) (by decide +kernel) rfl
theorem q462 : Cond.fieldLink RX7 19 "WarmExtents$Player" "planner" "LWarmExtents$Planner;" ∈ wAll := w_in (k := 462) (by decide +kernel) rfl
theorem q463 : Cond.fieldLink RX7 23 "WarmExtents$Player" "at" "I" ∈ wAll := w_in (k := 463) (by decide +kernel) rfl
theorem q464 : Cond.fieldLink RX7 27 "WarmExtents$Player" "acts" "I" ∈ wAll := w_in (k := 464) (by decide +kernel) rfl
theorem q465 : Cond.fieldLink RX7 30 "WarmExtents$Player" "depth" "I" ∈ wAll := w_in (k := 465) (by decide +kernel) rfl
theorem q466 : Cond.fieldLink RX7 33 "WarmExtents$Player" "rounds" "[I" ∈ wAll := w_in (k := 466) (by decide +kernel) rfl
theorem q467 : Cond.fieldLink RX7 37 "WarmExtents$Player" "times" "[I" ∈ wAll := w_in (k := 467) (by decide +kernel) rfl
theorem q491 : Cond.fieldLink RX8 9 "WarmExtents$Reader" "tape" "[I" ∈ wAll := w_in (k := 491) (by decide +kernel) rfl
theorem q492 : Cond.fieldLink RX8 15 "WarmExtents$Reader" "length" "I" ∈ wAll := w_in (k := 492) (by decide +kernel) rfl
theorem q494 : Cond.fieldLink RX8 19 "WarmExtents$Reader" "fault" "I" ∈ wAll := w_in (k := 494) (by decide +kernel) rfl
theorem q496 : Cond.fieldLink RX8 22 "WarmExtents$Reader" "faultPlace" "I" ∈ wAll := w_in (k := 496) (by decide +kernel) rfl
theorem q498 : Cond.fieldLink RX8 25 "WarmExtents$Reader" "kinds" "[I" ∈ wAll := w_in (k := 498) (by decide +kernel) rfl
theorem q499 : Cond.fieldLink RX8 28 "WarmExtents$Reader" "values" "[I" ∈ wAll := w_in (k := 499) (by decide +kernel) rfl
theorem q500 : Cond.fieldLink RX8 31 "WarmExtents$Reader" "places" "[I" ∈ wAll := w_in (k := 500) (by decide +kernel) rfl
theorem q501 : Cond.fieldLink RX8 34 "WarmExtents$Reader" "many" "I" ∈ wAll := w_in (k := 501) (by decide +kernel) rfl
theorem q502 : Cond.fieldLink RX8 37 "WarmExtents$Reader" "at" "I" ∈ wAll := w_in (k := 502) (by decide +kernel) rfl
theorem q503 : Cond.fieldLink RX8 40 "WarmExtents$Reader" "statements" "I" ∈ wAll := w_in (k := 503) (by decide +kernel) rfl
theorem q504 : Cond.fieldLink RX8 43 "WarmExtents$Reader" "depth" "I" ∈ wAll := w_in (k := 504) (by decide +kernel) rfl
theorem q505 : Cond.fieldLink RX8 46 "WarmExtents$Reader" "openedAt" "[I" ∈ wAll := w_in (k := 505) (by decide +kernel) rfl
theorem q506 : Cond.fieldLink RX8 49 "WarmExtents$Reader" "loops" "I" ∈ wAll := w_in (k := 506) (by decide +kernel) rfl
theorem q507 : Cond.fieldLink RX8 52 "WarmExtents$Reader" "loopDepth" "[I" ∈ wAll := w_in (k := 507) (by decide +kernel) rfl
theorem q579 : Cond.instanceMethod yX8_append ∈ wAll := w_in (k := 579) (by decide +kernel) rfl
theorem q580 : Cond.code yX8_append cX8_append 3 none ∈ wAll := w_in (k := 580) (by decide +kernel) rfl
theorem q597 : Cond.methodLink RX8 73 yX8_isLetter ∈ wAll := w_in (k := 597) (by decide +kernel) rfl
theorem q598 : Cond.static yX8_isLetter ∈ wAll := w_in (k := 598) (by decide +kernel) rfl
theorem q599 : Cond.code yX8_isLetter cX8_isLetter 1 (some .boolean) ∈ wAll := w_in (k := 599) (by decide +kernel) rfl
theorem q600 : Cond.methodLink RX8 77 yX8_behindLetters ∈ wAll := w_in (k := 600) (by decide +kernel) rfl
theorem q602 : Cond.instanceMethod yX8_behindLetters ∈ wAll := w_in (k := 602) (by decide +kernel) rfl
theorem q603 : Cond.code yX8_behindLetters cX8_behindLetters 3 (some .int) ∈ wAll := w_in (k := 603) (by decide +kernel) rfl
theorem q608 : Cond.methodLink RX8 95 yX8_addToken ∈ wAll := w_in (k := 608) (by decide +kernel) rfl
theorem q610 : Cond.instanceMethod yX8_addToken ∈ wAll := w_in (k := 610) (by decide +kernel) rfl
theorem q611 : Cond.code yX8_addToken cX8_addToken 4 none ∈ wAll := w_in (k := 611) (by decide +kernel) rfl
theorem q675 : Cond.methodLink RX8 85 yX8_isDigit ∈ wAll := w_in (k := 675) (by decide +kernel) rfl
theorem q676 : Cond.static yX8_isDigit ∈ wAll := w_in (k := 676) (by decide +kernel) rfl
theorem q677 : Cond.code yX8_isDigit cX8_isDigit 1 (some .boolean) ∈ wAll := w_in (k := 677) (by decide +kernel) rfl
theorem q678 : Cond.methodLink RX8 88 yX8_behindDigits ∈ wAll := w_in (k := 678) (by decide +kernel) rfl
theorem q680 : Cond.instanceMethod yX8_behindDigits ∈ wAll := w_in (k := 680) (by decide +kernel) rfl
theorem q681 : Cond.code yX8_behindDigits cX8_behindDigits 3 (some .int) ∈ wAll := w_in (k := 681) (by decide +kernel) rfl
theorem q682 : Cond.methodLink RX8 91 yX8_numberFrom ∈ wAll := w_in (k := 682) (by decide +kernel) rfl
theorem q684 : Cond.instanceMethod yX8_numberFrom ∈ wAll := w_in (k := 684) (by decide +kernel) rfl
theorem q685 : Cond.code yX8_numberFrom cX8_numberFrom 5 (some .int) ∈ wAll := w_in (k := 685) (by decide +kernel) rfl
theorem q686 : Cond.methodLink RX8 102 yJ9_min_7cf53 ∈ wAll := w_in (k := 686) (by decide +kernel) rfl
theorem q687 : Cond.static yJ9_min_7cf53 ∈ wAll := w_in (k := 687) (by decide +kernel) rfl
theorem q688 : Cond.code yJ9_min_7cf53 cJ9_min_7cf53 2 (some .int) ∈ wAll := w_in (k := 688) (by decide +kernel) rfl
theorem q689 : Cond.methodLink RX8 99 yX8_isSign ∈ wAll := w_in (k := 689) (by decide +kernel) rfl
theorem q690 : Cond.static yX8_isSign ∈ wAll := w_in (k := 690) (by decide +kernel) rfl
theorem q691 : Cond.code yX8_isSign cX8_isSign 1 (some .boolean) ∈ wAll := w_in (k := 691) (by decide +kernel) rfl
theorem q694 : Cond.instanceMethod yX8_close ∈ wAll := w_in (k := 694) (by decide +kernel) rfl
theorem q695 : Cond.code yX8_close cX8_close 1 none ∈ wAll := w_in (k := 695) (by decide +kernel) rfl
theorem q698 : Cond.instanceMethod yX8_statement ∈ wAll := w_in (k := 698) (by decide +kernel) rfl
theorem q699 : Cond.code yX8_statement cX8_statement 2 none ∈ wAll := w_in (k := 699) (by decide +kernel) rfl
theorem q700 : Cond.methodLink RX8 64 yX8_blame ∈ wAll := w_in (k := 700) (by decide +kernel) rfl
theorem q702 : Cond.instanceMethod yX8_blame ∈ wAll := w_in (k := 702) (by decide +kernel) rfl
theorem q703 : Cond.code yX8_blame cX8_blame 2 none ∈ wAll := w_in (k := 703) (by decide +kernel) rfl
theorem q704 : Cond.methodLink RX8 137 yX8_behindWord ∈ wAll := w_in (k := 704) (by decide +kernel) rfl
theorem q706 : Cond.instanceMethod yX8_behindWord ∈ wAll := w_in (k := 706) (by decide +kernel) rfl
theorem q707 : Cond.code yX8_behindWord cX8_behindWord 2 none ∈ wAll := w_in (k := 707) (by decide +kernel) rfl
theorem q708 : Cond.methodLink RX8 140 yX8_sums ∈ wAll := w_in (k := 708) (by decide +kernel) rfl
theorem q710 : Cond.instanceMethod yX8_sums ∈ wAll := w_in (k := 710) (by decide +kernel) rfl
theorem q711 : Cond.code yX8_sums cX8_sums 3 none ∈ wAll := w_in (k := 711) (by decide +kernel) rfl
theorem q712 : Cond.methodLink RX8 153 yX8_sum ∈ wAll := w_in (k := 712) (by decide +kernel) rfl
theorem q714 : Cond.instanceMethod yX8_sum ∈ wAll := w_in (k := 714) (by decide +kernel) rfl
theorem q715 : Cond.code yX8_sum cX8_sum 2 none ∈ wAll := w_in (k := 715) (by decide +kernel) rfl
theorem q716 : Cond.methodLink RX8 156 yX8_factor ∈ wAll := w_in (k := 716) (by decide +kernel) rfl
theorem q718 : Cond.instanceMethod yX8_factor ∈ wAll := w_in (k := 718) (by decide +kernel) rfl
theorem q719 : Cond.code yX8_factor cX8_factor 1 none ∈ wAll := w_in (k := 719) (by decide +kernel) rfl
theorem q720 : Cond.methodLink RX8 143 yX8_take ∈ wAll := w_in (k := 720) (by decide +kernel) rfl
theorem q722 : Cond.instanceMethod yX8_take ∈ wAll := w_in (k := 722) (by decide +kernel) rfl
theorem q723 : Cond.code yX8_take cX8_take 2 none ∈ wAll := w_in (k := 723) (by decide +kernel) rfl
theorem q724 : Cond.methodLink RX8 146 yX8_times ∈ wAll := w_in (k := 724) (by decide +kernel) rfl
theorem q726 : Cond.instanceMethod yX8_times ∈ wAll := w_in (k := 726) (by decide +kernel) rfl
theorem q727 : Cond.code yX8_times cX8_times 1 none ∈ wAll := w_in (k := 727) (by decide +kernel) rfl
theorem q728 : Cond.methodLink RX8 149 yX8_open ∈ wAll := w_in (k := 728) (by decide +kernel) rfl
theorem q730 : Cond.instanceMethod yX8_open ∈ wAll := w_in (k := 730) (by decide +kernel) rfl
theorem q731 : Cond.code yX8_open cX8_open 3 none ∈ wAll := w_in (k := 731) (by decide +kernel) rfl
theorem q739 : Cond.static ⟨RJ10, "arraycopy", "(Ljava/lang/Object;ILjava/lang/Object;II)V"⟩ ∈ wAll := w_in (k := 739) (by decide +kernel) rfl
theorem q740 : Cond.native ⟨RJ10, "arraycopy", "(Ljava/lang/Object;ILjava/lang/Object;II)V"⟩ ∈ wAll := w_in (k := 740) (by decide +kernel) rfl
theorem q741 : Cond.fieldLink RX9 9 "WarmExtents$Text" "many" "I" ∈ wAll := w_in (k := 741) (by decide +kernel) rfl
theorem q743 : Cond.fieldLink RX9 15 "WarmExtents$Text" "kinds" "[I" ∈ wAll := w_in (k := 743) (by decide +kernel) rfl
theorem q744 : Cond.fieldLink RX9 19 "WarmExtents$Text" "values" "[I" ∈ wAll := w_in (k := 744) (by decide +kernel) rfl
theorem q775 : Cond.instanceMethod yX10_copyFrom ∈ wAll := w_in (k := 775) (by decide +kernel) rfl
theorem q776 : Cond.code yX10_copyFrom cX10_copyFrom 2 none ∈ wAll := w_in (k := 776) (by decide +kernel) rfl
theorem q777 : Cond.methodLink RX10 50 ⟨RJ10, "arraycopy", "(Ljava/lang/Object;ILjava/lang/Object;II)V"⟩ ∈ wAll := w_in (k := 777) (by decide +kernel) rfl
theorem q778 : Cond.methodLinkNest RX10 56 yX2_copyFrom "WarmExtents" ∈ nwAll := nw_in (k := 778) (by decide +kernel) rfl
theorem q780 : Cond.instanceMethod yX2_copyFrom ∈ wAll := w_in (k := 780) (by decide +kernel) rfl
theorem q781 : Cond.code yX2_copyFrom cX2_copyFrom 2 none ∈ wAll := w_in (k := 781) (by decide +kernel) rfl
theorem q782 : Cond.methodLink RX2 48 ⟨RJ10, "arraycopy", "(Ljava/lang/Object;ILjava/lang/Object;II)V"⟩ ∈ wAll := w_in (k := 782) (by decide +kernel) rfl
theorem q783 : Cond.methodLinkNest RX10 60 yX1_copyFrom "WarmExtents" ∈ nwAll := nw_in (k := 783) (by decide +kernel) rfl
theorem q785 : Cond.instanceMethod yX1_copyFrom ∈ wAll := w_in (k := 785) (by decide +kernel) rfl
theorem q786 : Cond.code yX1_copyFrom cX1_copyFrom 2 none ∈ wAll := w_in (k := 786) (by decide +kernel) rfl
theorem q787 : Cond.methodLink RX1 24 ⟨RJ10, "arraycopy", "(Ljava/lang/Object;ILjava/lang/Object;II)V"⟩ ∈ wAll := w_in (k := 787) (by decide +kernel) rfl
theorem q788 : Cond.methodLinkNest RX10 63 yX3_copyFrom "WarmExtents" ∈ nwAll := nw_in (k := 788) (by decide +kernel) rfl
theorem q790 : Cond.instanceMethod yX3_copyFrom ∈ wAll := w_in (k := 790) (by decide +kernel) rfl
theorem q791 : Cond.code yX3_copyFrom cX3_copyFrom 2 none ∈ wAll := w_in (k := 791) (by decide +kernel) rfl
theorem q792 : Cond.methodLink RX3 22 ⟨RJ10, "arraycopy", "(Ljava/lang/Object;ILjava/lang/Object;II)V"⟩ ∈ wAll := w_in (k := 792) (by decide +kernel) rfl
theorem q793 : Cond.methodLinkNest RX10 66 yX5_copyFrom "WarmExtents" ∈ nwAll := nw_in (k := 793) (by decide +kernel) rfl
theorem q795 : Cond.instanceMethod yX5_copyFrom ∈ wAll := w_in (k := 795) (by decide +kernel) rfl
theorem q796 : Cond.code yX5_copyFrom cX5_copyFrom 2 none ∈ wAll := w_in (k := 796) (by decide +kernel) rfl
theorem q797 : Cond.methodLink RX5 28 ⟨RJ10, "arraycopy", "(Ljava/lang/Object;ILjava/lang/Object;II)V"⟩ ∈ wAll := w_in (k := 797) (by decide +kernel) rfl
theorem q798 : Cond.methodLinkNest RX10 69 yX0_copyFrom "WarmExtents" ∈ nwAll := nw_in (k := 798) (by decide +kernel) rfl
theorem q800 : Cond.instanceMethod yX0_copyFrom ∈ wAll := w_in (k := 800) (by decide +kernel) rfl
theorem q801 : Cond.code yX0_copyFrom cX0_copyFrom 2 none ∈ wAll := w_in (k := 801) (by decide +kernel) rfl
theorem q802 : Cond.methodLink RX0 19 ⟨RJ10, "arraycopy", "(Ljava/lang/Object;ILjava/lang/Object;II)V"⟩ ∈ wAll := w_in (k := 802) (by decide +kernel) rfl
theorem q805 : Cond.instanceMethod yX10_readBlock ∈ wAll := w_in (k := 805) (by decide +kernel) rfl
theorem q806 : Cond.code yX10_readBlock cX10_readBlock 4 (some .int) ∈ wAll := w_in (k := 806) (by decide +kernel) rfl
theorem q807 : Cond.fieldLinkNest RX10 79 "WarmExtents" "START" "[I" "WarmExtents" ∈ nwAll := nw_in (k := 807) (by decide +kernel) rfl
theorem q809 : Cond.methodLink RX10 93 yX10_note ∈ wAll := w_in (k := 809) (by decide +kernel) rfl
theorem q811 : Cond.instanceMethod yX10_note ∈ wAll := w_in (k := 811) (by decide +kernel) rfl
theorem q812 : Cond.code yX10_note cX10_note 4 none ∈ wAll := w_in (k := 812) (by decide +kernel) rfl
theorem q813 : Cond.methodLinkNest RX10 82 yX3_advance "WarmExtents" ∈ nwAll := nw_in (k := 813) (by decide +kernel) rfl
theorem q815 : Cond.instanceMethod yX3_advance ∈ wAll := w_in (k := 815) (by decide +kernel) rfl
theorem q816 : Cond.code yX3_advance cX3_advance 5 (some .int) ∈ wAll := w_in (k := 816) (by decide +kernel) rfl
theorem q817 : Cond.methodLinkNest RX10 89 yX2_warm "WarmExtents" ∈ nwAll := nw_in (k := 817) (by decide +kernel) rfl
theorem q819 : Cond.instanceMethod yX2_warm ∈ wAll := w_in (k := 819) (by decide +kernel) rfl
theorem q820 : Cond.code yX2_warm cX2_warm 3 none ∈ wAll := w_in (k := 820) (by decide +kernel) rfl
theorem q821 : Cond.methodLink RX2 54 yJ9_min_7cf53 ∈ wAll := w_in (k := 821) (by decide +kernel) rfl
theorem q822 : Cond.methodLinkNest RX10 100 yX1_fastAt "WarmExtents" ∈ nwAll := nw_in (k := 822) (by decide +kernel) rfl
theorem q824 : Cond.instanceMethod yX1_fastAt ∈ wAll := w_in (k := 824) (by decide +kernel) rfl
theorem q825 : Cond.code yX1_fastAt cX1_fastAt 3 (some .int) ∈ wAll := w_in (k := 825) (by decide +kernel) rfl
theorem q832 : Cond.instanceMethod yX10_writeBlock ∈ wAll := w_in (k := 832) (by decide +kernel) rfl
theorem q833 : Cond.code yX10_writeBlock cX10_writeBlock 6 none ∈ wAll := w_in (k := 833) (by decide +kernel) rfl
theorem q834 : Cond.methodLinkNest RX10 106 yX1_putFast "WarmExtents" ∈ nwAll := nw_in (k := 834) (by decide +kernel) rfl
theorem q836 : Cond.instanceMethod yX1_putFast ∈ wAll := w_in (k := 836) (by decide +kernel) rfl
theorem q837 : Cond.code yX1_putFast cX1_putFast 4 none ∈ wAll := w_in (k := 837) (by decide +kernel) rfl
theorem q838 : Cond.methodLinkNest RX10 112 yX5_find "WarmExtents" ∈ nwAll := nw_in (k := 838) (by decide +kernel) rfl
theorem q840 : Cond.instanceMethod yX5_find ∈ wAll := w_in (k := 840) (by decide +kernel) rfl
theorem q841 : Cond.code yX5_find cX5_find 3 (some .int) ∈ wAll := w_in (k := 841) (by decide +kernel) rfl
theorem q848 : Cond.instanceMethod yX10_readExtents ∈ wAll := w_in (k := 848) (by decide +kernel) rfl
theorem q849 : Cond.code yX10_readExtents cX10_readExtents 7 (some .int) ∈ wAll := w_in (k := 849) (by decide +kernel) rfl
theorem q850 : Cond.fieldLinkNest RX10 118 "WarmExtents" "SIZE" "[I" "WarmExtents" ∈ nwAll := nw_in (k := 850) (by decide +kernel) rfl
theorem q851 : Cond.methodLink RX10 121 yX10_readBlock ∈ wAll := w_in (k := 851) (by decide +kernel) rfl
theorem q858 : Cond.instanceMethod yX10_writeDown ∈ wAll := w_in (k := 858) (by decide +kernel) rfl
theorem q859 : Cond.code yX10_writeDown cX10_writeDown 4 none ∈ wAll := w_in (k := 859) (by decide +kernel) rfl
theorem q860 : Cond.methodLinkNest RX10 72 yX0_add "WarmExtents" ∈ nwAll := nw_in (k := 860) (by decide +kernel) rfl
theorem q862 : Cond.instanceMethod yX0_add ∈ wAll := w_in (k := 862) (by decide +kernel) rfl
theorem q863 : Cond.code yX0_add cX0_add 6 none ∈ wAll := w_in (k := 863) (by decide +kernel) rfl
theorem q878 : Cond.instanceMethod yX5_add ∈ wAll := w_in (k := 878) (by decide +kernel) rfl
theorem q879 : Cond.code yX5_add cX5_add 3 none ∈ wAll := w_in (k := 879) (by decide +kernel) rfl
theorem q886 : Cond.instanceMethod yX10_dropMove ∈ wAll := w_in (k := 886) (by decide +kernel) rfl
theorem q887 : Cond.code yX10_dropMove cX10_dropMove 4 none ∈ wAll := w_in (k := 887) (by decide +kernel) rfl
theorem q888 : Cond.methodLinkNest RX10 219 yX5_holdsSlots "WarmExtents" ∈ nwAll := nw_in (k := 888) (by decide +kernel) rfl
theorem q890 : Cond.instanceMethod yX5_holdsSlots ∈ wAll := w_in (k := 890) (by decide +kernel) rfl
theorem q891 : Cond.code yX5_holdsSlots cX5_holdsSlots 2 (some .boolean) ∈ wAll := w_in (k := 891) (by decide +kernel) rfl
theorem q892 : Cond.methodLinkNest RX10 190 yX1_leaveSlots "WarmExtents" ∈ nwAll := nw_in (k := 892) (by decide +kernel) rfl
theorem q894 : Cond.instanceMethod yX1_leaveSlots ∈ wAll := w_in (k := 894) (by decide +kernel) rfl
theorem q895 : Cond.code yX1_leaveSlots cX1_leaveSlots 4 none ∈ wAll := w_in (k := 895) (by decide +kernel) rfl
theorem q896 : Cond.fieldLinkNest RX1 30 "WarmExtents" "START" "[I" "WarmExtents" ∈ nwAll := nw_in (k := 896) (by decide +kernel) rfl
theorem q897 : Cond.fieldLinkNest RX1 33 "WarmExtents" "SIZE" "[I" "WarmExtents" ∈ nwAll := nw_in (k := 897) (by decide +kernel) rfl
theorem q898 : Cond.methodLinkNest RX10 193 yX5_remove "WarmExtents" ∈ nwAll := nw_in (k := 898) (by decide +kernel) rfl
theorem q900 : Cond.instanceMethod yX5_remove ∈ wAll := w_in (k := 900) (by decide +kernel) rfl
theorem q901 : Cond.code yX5_remove cX5_remove 2 none ∈ wAll := w_in (k := 901) (by decide +kernel) rfl
theorem q902 : Cond.methodLink RX10 169 yX10_writeDown ∈ wAll := w_in (k := 902) (by decide +kernel) rfl
theorem q912 : Cond.instanceMethod yX10_pass ∈ wAll := w_in (k := 912) (by decide +kernel) rfl
theorem q913 : Cond.code yX10_pass cX10_pass 4 none ∈ wAll := w_in (k := 913) (by decide +kernel) rfl
theorem q914 : Cond.methodLink RX10 125 yX10_tick ∈ wAll := w_in (k := 914) (by decide +kernel) rfl
theorem q916 : Cond.instanceMethod yX10_tick ∈ wAll := w_in (k := 916) (by decide +kernel) rfl
theorem q917 : Cond.code yX10_tick cX10_tick 2 none ∈ wAll := w_in (k := 917) (by decide +kernel) rfl
theorem q918 : Cond.methodLink RX10 129 yX10_moveBlocks ∈ wAll := w_in (k := 918) (by decide +kernel) rfl
theorem q920 : Cond.instanceMethod yX10_moveBlocks ∈ wAll := w_in (k := 920) (by decide +kernel) rfl
theorem q921 : Cond.code yX10_moveBlocks cX10_moveBlocks 3 none ∈ wAll := w_in (k := 921) (by decide +kernel) rfl
theorem q922 : Cond.methodLink RX10 148 yX10_begin ∈ wAll := w_in (k := 922) (by decide +kernel) rfl
theorem q924 : Cond.instanceMethod yX10_begin ∈ wAll := w_in (k := 924) (by decide +kernel) rfl
theorem q925 : Cond.code yX10_begin cX10_begin 3 (some .boolean) ∈ wAll := w_in (k := 925) (by decide +kernel) rfl
theorem q926 : Cond.methodLinkNest RX10 161 yX1_freeSlots "WarmExtents" ∈ nwAll := nw_in (k := 926) (by decide +kernel) rfl
theorem q928 : Cond.instanceMethod yX1_freeSlots ∈ wAll := w_in (k := 928) (by decide +kernel) rfl
theorem q929 : Cond.code yX1_freeSlots cX1_freeSlots 3 (some .int) ∈ wAll := w_in (k := 929) (by decide +kernel) rfl
theorem q930 : Cond.methodLinkNest RX10 165 yX1_takeSlots "WarmExtents" ∈ nwAll := nw_in (k := 930) (by decide +kernel) rfl
theorem q932 : Cond.instanceMethod yX1_takeSlots ∈ wAll := w_in (k := 932) (by decide +kernel) rfl
theorem q933 : Cond.code yX1_takeSlots cX1_takeSlots 5 none ∈ wAll := w_in (k := 933) (by decide +kernel) rfl
theorem q934 : Cond.methodLink RX10 152 yX10_copyBlocks ∈ wAll := w_in (k := 934) (by decide +kernel) rfl
theorem q936 : Cond.instanceMethod yX10_copyBlocks ∈ wAll := w_in (k := 936) (by decide +kernel) rfl
theorem q937 : Cond.code yX10_copyBlocks cX10_copyBlocks 7 (some .int) ∈ wAll := w_in (k := 937) (by decide +kernel) rfl
theorem q938 : Cond.methodLink RX10 172 yX10_blocksToCopy ∈ wAll := w_in (k := 938) (by decide +kernel) rfl
theorem q940 : Cond.instanceMethod yX10_blocksToCopy ∈ wAll := w_in (k := 940) (by decide +kernel) rfl
theorem q941 : Cond.code yX10_blocksToCopy cX10_blocksToCopy 3 (some .int) ∈ wAll := w_in (k := 941) (by decide +kernel) rfl
theorem q942 : Cond.methodLinkNest RX10 178 yX2_allBlocks "WarmExtents" ∈ nwAll := nw_in (k := 942) (by decide +kernel) rfl
theorem q943 : Cond.static yX2_allBlocks ∈ wAll := w_in (k := 943) (by decide +kernel) rfl
theorem q944 : Cond.code yX2_allBlocks cX2_allBlocks 1 (some .int) ∈ wAll := w_in (k := 944) (by decide +kernel) rfl
theorem q945 : Cond.fieldLinkNest RX2 68 "WarmExtents" "SIZE" "[I" "WarmExtents" ∈ nwAll := nw_in (k := 945) (by decide +kernel) rfl
theorem q946 : Cond.methodLink RX10 175 yX10_copyBlock ∈ wAll := w_in (k := 946) (by decide +kernel) rfl
theorem q948 : Cond.instanceMethod yX10_copyBlock ∈ wAll := w_in (k := 948) (by decide +kernel) rfl
theorem q949 : Cond.code yX10_copyBlock cX10_copyBlock 5 none ∈ wAll := w_in (k := 949) (by decide +kernel) rfl
theorem q950 : Cond.methodLink RX10 132 yX10_switchWhole ∈ wAll := w_in (k := 950) (by decide +kernel) rfl
theorem q952 : Cond.instanceMethod yX10_switchWhole ∈ wAll := w_in (k := 952) (by decide +kernel) rfl
theorem q953 : Cond.code yX10_switchWhole cX10_switchWhole 3 none ∈ wAll := w_in (k := 953) (by decide +kernel) rfl
theorem q954 : Cond.methodLink RX10 181 yX10_switchOver ∈ wAll := w_in (k := 954) (by decide +kernel) rfl
theorem q956 : Cond.instanceMethod yX10_switchOver ∈ wAll := w_in (k := 956) (by decide +kernel) rfl
theorem q957 : Cond.code yX10_switchOver cX10_switchOver 4 none ∈ wAll := w_in (k := 957) (by decide +kernel) rfl
theorem q958 : Cond.methodLink RX10 135 yX10_makePlan ∈ wAll := w_in (k := 958) (by decide +kernel) rfl
theorem q960 : Cond.instanceMethod yX10_makePlan ∈ wAll := w_in (k := 960) (by decide +kernel) rfl
theorem q961 : Cond.code yX10_makePlan cX10_makePlan 5 none ∈ wAll := w_in (k := 961) (by decide +kernel) rfl
theorem q962 : Cond.methodLink RX10 196 yX10_dropMove ∈ wAll := w_in (k := 962) (by decide +kernel) rfl
theorem q963 : Cond.methodLinkNest RX10 199 yX6_makeFor "WarmExtents" ∈ nwAll := nw_in (k := 963) (by decide +kernel) rfl
theorem q965 : Cond.instanceMethod yX6_makeFor ∈ wAll := w_in (k := 965) (by decide +kernel) rfl
theorem q966 : Cond.code yX6_makeFor cX6_makeFor 3 none ∈ wAll := w_in (k := 966) (by decide +kernel) rfl
theorem q967 : Cond.methodLink RX6 54 yX6_weigh ∈ wAll := w_in (k := 967) (by decide +kernel) rfl
theorem q969 : Cond.instanceMethod yX6_weigh ∈ wAll := w_in (k := 969) (by decide +kernel) rfl
theorem q970 : Cond.code yX6_weigh cX6_weigh 7 none ∈ wAll := w_in (k := 970) (by decide +kernel) rfl
theorem q971 : Cond.methodLink RX6 68 yX6_bind ∈ wAll := w_in (k := 971) (by decide +kernel) rfl
theorem q973 : Cond.instanceMethod yX6_bind ∈ wAll := w_in (k := 973) (by decide +kernel) rfl
theorem q974 : Cond.code yX6_bind cX6_bind 4 none ∈ wAll := w_in (k := 974) (by decide +kernel) rfl
theorem q975 : Cond.methodLink RX6 87 yX6_isWanted ∈ wAll := w_in (k := 975) (by decide +kernel) rfl
theorem q976 : Cond.static yX6_isWanted ∈ wAll := w_in (k := 976) (by decide +kernel) rfl
theorem q977 : Cond.code yX6_isWanted cX6_isWanted 2 (some .boolean) ∈ wAll := w_in (k := 977) (by decide +kernel) rfl
theorem q978 : Cond.methodLink RX6 97 yJ6_bitCount_0f7a4 ∈ wAll := w_in (k := 978) (by decide +kernel) rfl
theorem q979 : Cond.static yJ6_bitCount_0f7a4 ∈ wAll := w_in (k := 979) (by decide +kernel) rfl
theorem q980 : Cond.code yJ6_bitCount_0f7a4 cJ6_bitCount_0f7a4 1 (some .int) ∈ wAll := w_in (k := 980) (by decide +kernel) rfl
theorem q981 : Cond.constant RJ6 265 (1431655765) ∈ wAll := w_in (k := 981) (by decide +kernel) rfl
theorem q982 : Cond.constant RJ6 266 (858993459) ∈ wAll := w_in (k := 982) (by decide +kernel) rfl
theorem q983 : Cond.constant RJ6 267 (252645135) ∈ wAll := w_in (k := 983) (by decide +kernel) rfl
theorem q984 : Cond.fieldLinkNest RX6 91 "WarmExtents" "SIZE" "[I" "WarmExtents" ∈ nwAll := nw_in (k := 984) (by decide +kernel) rfl
theorem q985 : Cond.methodLink RX6 106 yX6_heatWorth ∈ wAll := w_in (k := 985) (by decide +kernel) rfl
theorem q986 : Cond.static yX6_heatWorth ∈ wAll := w_in (k := 986) (by decide +kernel) rfl
theorem q987 : Cond.code yX6_heatWorth cX6_heatWorth 2 (some .int) ∈ wAll := w_in (k := 987) (by decide +kernel) rfl
theorem q988 : Cond.methodLink RX6 113 yX6_pinWorth ∈ wAll := w_in (k := 988) (by decide +kernel) rfl
theorem q989 : Cond.static yX6_pinWorth ∈ wAll := w_in (k := 989) (by decide +kernel) rfl
theorem q990 : Cond.code yX6_pinWorth cX6_pinWorth 1 (some .int) ∈ wAll := w_in (k := 990) (by decide +kernel) rfl
theorem q991 : Cond.constant RX6 139 (100000) ∈ wAll := w_in (k := 991) (by decide +kernel) rfl
theorem q992 : Cond.constant RX6 140 (-100000) ∈ wAll := w_in (k := 992) (by decide +kernel) rfl
theorem q993 : Cond.methodLink RX6 58 yX6_choose ∈ wAll := w_in (k := 993) (by decide +kernel) rfl
theorem q995 : Cond.instanceMethod yX6_choose ∈ wAll := w_in (k := 995) (by decide +kernel) rfl
theorem q996 : Cond.code yX6_choose cX6_choose 1 (some .boolean) ∈ wAll := w_in (k := 996) (by decide +kernel) rfl
theorem q997 : Cond.constant RX6 141 (-2147483648) ∈ wAll := w_in (k := 997) (by decide +kernel) rfl
theorem q998 : Cond.methodLink RX6 142 yX6_search ∈ wAll := w_in (k := 998) (by decide +kernel) rfl
theorem q999 : Cond.static yX6_search ∈ wAll := w_in (k := 999) (by decide +kernel) rfl
theorem q1000 : Cond.code yX6_search cX6_search 8 none ∈ wAll := w_in (k := 1000) (by decide +kernel) rfl
theorem q1001 : Cond.methodLinkNest RX10 205 yX6_listMoves "WarmExtents" ∈ nwAll := nw_in (k := 1001) (by decide +kernel) rfl
theorem q1003 : Cond.instanceMethod yX6_listMoves ∈ wAll := w_in (k := 1003) (by decide +kernel) rfl
theorem q1004 : Cond.code yX6_listMoves cX6_listMoves 5 none ∈ wAll := w_in (k := 1004) (by decide +kernel) rfl
theorem q1005 : Cond.methodLink RX6 146 yX6_isIn ∈ wAll := w_in (k := 1005) (by decide +kernel) rfl
theorem q1006 : Cond.static yX6_isIn ∈ wAll := w_in (k := 1006) (by decide +kernel) rfl
theorem q1007 : Cond.code yX6_isIn cX6_isIn 2 (some .boolean) ∈ wAll := w_in (k := 1007) (by decide +kernel) rfl
theorem q1008 : Cond.methodLinkNest RX6 153 yX2_hotter "WarmExtents" ∈ nwAll := nw_in (k := 1008) (by decide +kernel) rfl
theorem q1010 : Cond.instanceMethod yX2_hotter ∈ wAll := w_in (k := 1010) (by decide +kernel) rfl
theorem q1011 : Cond.code yX2_hotter cX2_hotter 3 (some .boolean) ∈ wAll := w_in (k := 1011) (by decide +kernel) rfl
theorem q1012 : Cond.methodLinkNest RX10 214 yX5_add "WarmExtents" ∈ nwAll := nw_in (k := 1012) (by decide +kernel) rfl
theorem q1013 : Cond.methodLinkNest RX10 138 yX2_age "WarmExtents" ∈ nwAll := nw_in (k := 1013) (by decide +kernel) rfl
theorem q1015 : Cond.instanceMethod yX2_age ∈ wAll := w_in (k := 1015) (by decide +kernel) rfl
theorem q1016 : Cond.code yX2_age cX2_age 2 none ∈ wAll := w_in (k := 1016) (by decide +kernel) rfl
theorem q1023 : Cond.instanceMethod yX10_loseMemory ∈ wAll := w_in (k := 1023) (by decide +kernel) rfl
theorem q1024 : Cond.code yX10_loseMemory cX10_loseMemory 4 (some .int) ∈ wAll := w_in (k := 1024) (by decide +kernel) rfl
theorem q1025 : Cond.methodLinkNest RX10 223 yX2_forget "WarmExtents" ∈ nwAll := nw_in (k := 1025) (by decide +kernel) rfl
theorem q1027 : Cond.instanceMethod yX2_forget ∈ wAll := w_in (k := 1027) (by decide +kernel) rfl
theorem q1028 : Cond.code yX2_forget cX2_forget 2 none ∈ wAll := w_in (k := 1028) (by decide +kernel) rfl
theorem q1029 : Cond.methodLink RX2 60 yX2_allBlocks ∈ wAll := w_in (k := 1029) (by decide +kernel) rfl
theorem q1045 : Cond.instanceMethod yX7_statement ∈ wAll := w_in (k := 1045) (by decide +kernel) rfl
theorem q1046 : Cond.code yX7_statement cX7_statement 2 none ∈ wAll := w_in (k := 1046) (by decide +kernel) rfl
theorem q1047 : Cond.methodLinkNest RX7 49 yX9_kindAt "WarmExtents" ∈ nwAll := nw_in (k := 1047) (by decide +kernel) rfl
theorem q1049 : Cond.instanceMethod yX9_kindAt ∈ wAll := w_in (k := 1049) (by decide +kernel) rfl
theorem q1050 : Cond.code yX9_kindAt cX9_kindAt 2 (some .int) ∈ wAll := w_in (k := 1050) (by decide +kernel) rfl
theorem q1051 : Cond.methodLink RX7 53 yX7_readOne ∈ wAll := w_in (k := 1051) (by decide +kernel) rfl
theorem q1053 : Cond.instanceMethod yX7_readOne ∈ wAll := w_in (k := 1053) (by decide +kernel) rfl
theorem q1054 : Cond.code yX7_readOne cX7_readOne 3 none ∈ wAll := w_in (k := 1054) (by decide +kernel) rfl
theorem q1055 : Cond.methodLink RX7 85 yX7_sum ∈ wAll := w_in (k := 1055) (by decide +kernel) rfl
theorem q1057 : Cond.instanceMethod yX7_sum ∈ wAll := w_in (k := 1057) (by decide +kernel) rfl
theorem q1058 : Cond.code yX7_sum cX7_sum 3 (some .int) ∈ wAll := w_in (k := 1058) (by decide +kernel) rfl
theorem q1059 : Cond.methodLink RX7 103 yX7_product ∈ wAll := w_in (k := 1059) (by decide +kernel) rfl
theorem q1061 : Cond.instanceMethod yX7_product ∈ wAll := w_in (k := 1061) (by decide +kernel) rfl
theorem q1062 : Cond.code yX7_product cX7_product 3 (some .int) ∈ wAll := w_in (k := 1062) (by decide +kernel) rfl
theorem q1063 : Cond.methodLink RX7 106 yX7_factor ∈ wAll := w_in (k := 1063) (by decide +kernel) rfl
theorem q1065 : Cond.instanceMethod yX7_factor ∈ wAll := w_in (k := 1065) (by decide +kernel) rfl
theorem q1066 : Cond.code yX7_factor cX7_factor 2 (some .int) ∈ wAll := w_in (k := 1066) (by decide +kernel) rfl
theorem q1067 : Cond.methodLinkNest RX7 72 yX9_valueAt "WarmExtents" ∈ nwAll := nw_in (k := 1067) (by decide +kernel) rfl
theorem q1069 : Cond.instanceMethod yX9_valueAt ∈ wAll := w_in (k := 1069) (by decide +kernel) rfl
theorem q1070 : Cond.code yX9_valueAt cX9_valueAt 2 (some .int) ∈ wAll := w_in (k := 1070) (by decide +kernel) rfl
theorem q1071 : Cond.fieldLinkNest RX7 88 "WarmExtents" "SIZE" "[I" "WarmExtents" ∈ nwAll := nw_in (k := 1071) (by decide +kernel) rfl
theorem q1072 : Cond.methodLinkNest RX7 91 yX10_readBlock "WarmExtents" ∈ nwAll := nw_in (k := 1072) (by decide +kernel) rfl
theorem q1073 : Cond.methodLink RX7 56 yX7_writeOne ∈ wAll := w_in (k := 1073) (by decide +kernel) rfl
theorem q1075 : Cond.instanceMethod yX7_writeOne ∈ wAll := w_in (k := 1075) (by decide +kernel) rfl
theorem q1076 : Cond.code yX7_writeOne cX7_writeOne 3 none ∈ wAll := w_in (k := 1076) (by decide +kernel) rfl
theorem q1077 : Cond.methodLinkNest RX7 95 yX10_writeBlock "WarmExtents" ∈ nwAll := nw_in (k := 1077) (by decide +kernel) rfl
theorem q1078 : Cond.methodLink RX7 59 yX7_scanSome ∈ wAll := w_in (k := 1078) (by decide +kernel) rfl
theorem q1080 : Cond.instanceMethod yX7_scanSome ∈ wAll := w_in (k := 1080) (by decide +kernel) rfl
theorem q1081 : Cond.code yX7_scanSome cX7_scanSome 3 none ∈ wAll := w_in (k := 1081) (by decide +kernel) rfl
theorem q1082 : Cond.methodLinkNest RX7 99 yX10_readExtents "WarmExtents" ∈ nwAll := nw_in (k := 1082) (by decide +kernel) rfl
theorem q1083 : Cond.methodLinkNest RX7 62 yX10_tick "WarmExtents" ∈ nwAll := nw_in (k := 1083) (by decide +kernel) rfl
theorem q1084 : Cond.methodLinkNest RX7 68 yX10_loseMemory "WarmExtents" ∈ nwAll := nw_in (k := 1084) (by decide +kernel) rfl
theorem q1085 : Cond.methodLink RX7 75 yX7_enter ∈ wAll := w_in (k := 1085) (by decide +kernel) rfl
theorem q1087 : Cond.instanceMethod yX7_enter ∈ wAll := w_in (k := 1087) (by decide +kernel) rfl
theorem q1088 : Cond.code yX7_enter cX7_enter 2 none ∈ wAll := w_in (k := 1088) (by decide +kernel) rfl
theorem q1089 : Cond.methodLink RX7 79 yX7_enterIf ∈ wAll := w_in (k := 1089) (by decide +kernel) rfl
theorem q1091 : Cond.instanceMethod yX7_enterIf ∈ wAll := w_in (k := 1091) (by decide +kernel) rfl
theorem q1092 : Cond.code yX7_enterIf cX7_enterIf 4 none ∈ wAll := w_in (k := 1092) (by decide +kernel) rfl
theorem q1093 : Cond.methodLink RX7 82 yX7_leave ∈ wAll := w_in (k := 1093) (by decide +kernel) rfl
theorem q1095 : Cond.instanceMethod yX7_leave ∈ wAll := w_in (k := 1095) (by decide +kernel) rfl
theorem q1096 : Cond.code yX7_leave cX7_leave 2 none ∈ wAll := w_in (k := 1096) (by decide +kernel) rfl
theorem q1103 : Cond.instanceMethod yX10_live ∈ wAll := w_in (k := 1103) (by decide +kernel) rfl
theorem q1104 : Cond.code yX10_live cX10_live 6 none ∈ wAll := w_in (k := 1104) (by decide +kernel) rfl
theorem q1105 : Cond.methodLink RX10 226 yX10_happen ∈ wAll := w_in (k := 1105) (by decide +kernel) rfl
theorem q1107 : Cond.instanceMethod yX10_happen ∈ wAll := w_in (k := 1107) (by decide +kernel) rfl
theorem q1108 : Cond.code yX10_happen cX10_happen 7 none ∈ wAll := w_in (k := 1108) (by decide +kernel) rfl
theorem q1109 : Cond.methodLink RX10 230 yX10_writeBlock ∈ wAll := w_in (k := 1109) (by decide +kernel) rfl
theorem q1110 : Cond.methodLink RX10 233 yX10_readExtents ∈ wAll := w_in (k := 1110) (by decide +kernel) rfl
theorem q1111 : Cond.methodLink RX10 237 yX10_loseMemory ∈ wAll := w_in (k := 1111) (by decide +kernel) rfl
theorem q1147 : Cond.instanceMethod yX1_lowestFree ∈ wAll := w_in (k := 1147) (by decide +kernel) rfl
theorem q1148 : Cond.code yX1_lowestFree cX1_lowestFree 3 (some .int) ∈ wAll := w_in (k := 1148) (by decide +kernel) rfl
theorem q1163 : Cond.instanceMethod yX2_detail ∈ wAll := w_in (k := 1163) (by decide +kernel) rfl
theorem q1164 : Cond.code yX2_detail cX2_detail 3 (some .int) ∈ wAll := w_in (k := 1164) (by decide +kernel) rfl
theorem q1171 : Cond.instanceMethod yX3_detail ∈ wAll := w_in (k := 1171) (by decide +kernel) rfl
theorem q1172 : Cond.code yX3_detail cX3_detail 3 (some .int) ∈ wAll := w_in (k := 1172) (by decide +kernel) rfl
theorem q1180 : Cond.instanceMethod yX5_detail ∈ wAll := w_in (k := 1180) (by decide +kernel) rfl
theorem q1181 : Cond.code yX5_detail cX5_detail 3 (some .int) ∈ wAll := w_in (k := 1181) (by decide +kernel) rfl
theorem q1203 : Cond.instanceMethod yX6_allows ∈ wAll := w_in (k := 1203) (by decide +kernel) rfl
theorem q1204 : Cond.code yX6_allows cX6_allows 5 (some .boolean) ∈ wAll := w_in (k := 1204) (by decide +kernel) rfl
theorem q1205 : Cond.methodLink RX6 150 yX6_needOf ∈ wAll := w_in (k := 1205) (by decide +kernel) rfl
theorem q1207 : Cond.instanceMethod yX6_needOf ∈ wAll := w_in (k := 1207) (by decide +kernel) rfl
theorem q1208 : Cond.code yX6_needOf cX6_needOf 4 (some .int) ∈ wAll := w_in (k := 1208) (by decide +kernel) rfl
theorem q1211 : Cond.instanceMethod yX6_worthOf ∈ wAll := w_in (k := 1211) (by decide +kernel) rfl
theorem q1212 : Cond.code yX6_worthOf cX6_worthOf 4 (some .int) ∈ wAll := w_in (k := 1212) (by decide +kernel) rfl
theorem q1224 : Cond.instanceMethod yX6_leastHeat ∈ wAll := w_in (k := 1224) (by decide +kernel) rfl
theorem q1225 : Cond.code yX6_leastHeat cX6_leastHeat 9 (some .int) ∈ wAll := w_in (k := 1225) (by decide +kernel) rfl
theorem q1226 : Cond.methodLink RX6 156 yX6_force ∈ wAll := w_in (k := 1226) (by decide +kernel) rfl
theorem q1228 : Cond.instanceMethod yX6_force ∈ wAll := w_in (k := 1228) (by decide +kernel) rfl
theorem q1229 : Cond.code yX6_force cX6_force 3 none ∈ wAll := w_in (k := 1229) (by decide +kernel) rfl
theorem q1230 : Cond.methodLink RX6 160 yX6_leastHeatOfWorth ∈ wAll := w_in (k := 1230) (by decide +kernel) rfl
theorem q1231 : Cond.static yX6_leastHeatOfWorth ∈ wAll := w_in (k := 1231) (by decide +kernel) rfl
theorem q1232 : Cond.code yX6_leastHeatOfWorth cX6_leastHeatOfWorth 6 (some .int) ∈ wAll := w_in (k := 1232) (by decide +kernel) rfl
theorem q1279 : Cond.instanceMethod yX2_hotterThan ∈ wAll := w_in (k := 1279) (by decide +kernel) rfl
theorem q1280 : Cond.code yX2_hotterThan cX2_hotterThan 4 (some .int) ∈ wAll := w_in (k := 1280) (by decide +kernel) rfl
theorem q1281 : Cond.methodLink RX2 64 yX2_hotter ∈ wAll := w_in (k := 1281) (by decide +kernel) rfl
theorem q1317 : Cond.instanceMethod yX0_detail ∈ wAll := w_in (k := 1317) (by decide +kernel) rfl
theorem q1318 : Cond.code yX0_detail cX0_detail 3 (some .int) ∈ wAll := w_in (k := 1318) (by decide +kernel) rfl
theorem q1325 : Cond.instanceMethod yX0_linesOf ∈ wAll := w_in (k := 1325) (by decide +kernel) rfl
theorem q1326 : Cond.code yX0_linesOf cX0_linesOf 4 (some .int) ∈ wAll := w_in (k := 1326) (by decide +kernel) rfl
theorem q1352 : Cond.fieldLink RX12 7 "WarmExtentsModel" "a" "[I" ∈ wAll := w_in (k := 1352) (by decide +kernel) rfl
theorem q1353 : Cond.fieldLink RX12 13 "WarmExtentsModel" "image" "[I" ∈ wAll := w_in (k := 1353) (by decide +kernel) rfl
theorem q1354 : Cond.fieldLink RX12 16 "WarmExtentsModel" "texts" "[I" ∈ wAll := w_in (k := 1354) (by decide +kernel) rfl
theorem q1355 : Cond.fieldLink RX12 19 "WarmExtentsModel" "tape" "[I" ∈ wAll := w_in (k := 1355) (by decide +kernel) rfl
theorem q1356 : Cond.fieldLink RX12 67 "WarmExtentsModel" "taped" "I" ∈ wAll := w_in (k := 1356) (by decide +kernel) rfl
theorem q1357 : Cond.fieldLink RX12 22 "WarmExtentsModel" "fault" "I" ∈ wAll := w_in (k := 1357) (by decide +kernel) rfl
theorem q1358 : Cond.fieldLink RX12 26 "WarmExtentsModel" "faultPlace" "I" ∈ wAll := w_in (k := 1358) (by decide +kernel) rfl
theorem q1359 : Cond.fieldLink RX12 81 "WarmExtentsModel" "at" "I" ∈ wAll := w_in (k := 1359) (by decide +kernel) rfl
theorem q1360 : Cond.fieldLink RX12 84 "WarmExtentsModel" "place" "I" ∈ wAll := w_in (k := 1360) (by decide +kernel) rfl
theorem q1361 : Cond.fieldLink RX12 90 "WarmExtentsModel" "token" "I" ∈ wAll := w_in (k := 1361) (by decide +kernel) rfl
theorem q1362 : Cond.fieldLink RX12 87 "WarmExtentsModel" "number" "I" ∈ wAll := w_in (k := 1362) (by decide +kernel) rfl
theorem q1363 : Cond.fieldLink RX12 107 "WarmExtentsModel" "text0" "I" ∈ wAll := w_in (k := 1363) (by decide +kernel) rfl
theorem q1364 : Cond.fieldLink RX12 129 "WarmExtentsModel" "stated" "I" ∈ wAll := w_in (k := 1364) (by decide +kernel) rfl
theorem q1365 : Cond.fieldLink RX12 29 "WarmExtentsModel" "ofLoop" "[Z" ∈ wAll := w_in (k := 1365) (by decide +kernel) rfl
theorem q1366 : Cond.fieldLink RX12 119 "WarmExtentsModel" "depth" "I" ∈ wAll := w_in (k := 1366) (by decide +kernel) rfl
theorem q1367 : Cond.fieldLink RX12 122 "WarmExtentsModel" "loops" "I" ∈ wAll := w_in (k := 1367) (by decide +kernel) rfl
theorem q1368 : Cond.fieldLink RX12 33 "WarmExtentsModel" "fresh" "[I" ∈ wAll := w_in (k := 1368) (by decide +kernel) rfl
theorem q1369 : Cond.fieldLink RX12 276 "WarmExtentsModel" "going" "I" ∈ wAll := w_in (k := 1369) (by decide +kernel) rfl
theorem q1370 : Cond.fieldLink RX12 291 "WarmExtentsModel" "acts" "I" ∈ wAll := w_in (k := 1370) (by decide +kernel) rfl
theorem q1371 : Cond.fieldLink RX12 36 "WarmExtentsModel" "begins" "[I" ∈ wAll := w_in (k := 1371) (by decide +kernel) rfl
theorem q1372 : Cond.fieldLink RX12 39 "WarmExtentsModel" "times" "[I" ∈ wAll := w_in (k := 1372) (by decide +kernel) rfl
theorem q1373 : Cond.fieldLink RX12 42 "WarmExtentsModel" "rounds" "[I" ∈ wAll := w_in (k := 1373) (by decide +kernel) rfl
theorem q1374 : Cond.fieldLink RX12 45 "WarmExtentsModel" "aside" "[I" ∈ wAll := w_in (k := 1374) (by decide +kernel) rfl
theorem q1375 : Cond.fieldLink RX12 345 "WarmExtentsModel" "bestIn" "I" ∈ wAll := w_in (k := 1375) (by decide +kernel) rfl
theorem q1376 : Cond.fieldLink RX12 348 "WarmExtentsModel" "bestOut" "I" ∈ wAll := w_in (k := 1376) (by decide +kernel) rfl
theorem q1377 : Cond.fieldLink RX12 351 "WarmExtentsModel" "worthIn" "I" ∈ wAll := w_in (k := 1377) (by decide +kernel) rfl
theorem q1378 : Cond.fieldLink RX12 354 "WarmExtentsModel" "worthOut" "I" ∈ wAll := w_in (k := 1378) (by decide +kernel) rfl
theorem q1435 : Cond.instanceMethod yX12_feed ∈ wAll := w_in (k := 1435) (by decide +kernel) rfl
theorem q1436 : Cond.selects RX12 yX12_feed yX12_feed ∈ wAll := w_in (k := 1436) (by decide +kernel) rfl
theorem q1437 : Cond.code yX12_feed cX12_feed 6 (some .int) ∈ wAll := w_in (k := 1437) (by decide +kernel) rfl
theorem q1438 : Cond.methodLink RX12 70 yX12_four ∈ wAll := w_in (k := 1438) (by decide +kernel) rfl
theorem q1440 : Cond.instanceMethod yX12_four ∈ wAll := w_in (k := 1440) (by decide +kernel) rfl
theorem q1441 : Cond.code yX12_four cX12_four 3 none ∈ wAll := w_in (k := 1441) (by decide +kernel) rfl
theorem q1443 : Cond.instanceMethod yX12_end ∈ wAll := w_in (k := 1443) (by decide +kernel) rfl
theorem q1444 : Cond.selects RX12 yX12_end yX12_end ∈ wAll := w_in (k := 1444) (by decide +kernel) rfl
theorem q1445 : Cond.code yX12_end cX12_end 2 (some .int) ∈ wAll := w_in (k := 1445) (by decide +kernel) rfl
theorem q1446 : Cond.methodLink RX12 52 yX12_isIn ∈ wAll := w_in (k := 1446) (by decide +kernel) rfl
theorem q1447 : Cond.static yX12_isIn ∈ wAll := w_in (k := 1447) (by decide +kernel) rfl
theorem q1448 : Cond.code yX12_isIn cX12_isIn 3 (some .boolean) ∈ wAll := w_in (k := 1448) (by decide +kernel) rfl
theorem q1450 : Cond.instanceMethod yX12_text ∈ wAll := w_in (k := 1450) (by decide +kernel) rfl
theorem q1451 : Cond.selects RX12 yX12_text yX12_text ∈ wAll := w_in (k := 1451) (by decide +kernel) rfl
theorem q1452 : Cond.code yX12_text cX12_text 1 (some .int) ∈ wAll := w_in (k := 1452) (by decide +kernel) rfl
theorem q1453 : Cond.methodLink RX12 148 yX12_readText ∈ wAll := w_in (k := 1453) (by decide +kernel) rfl
theorem q1455 : Cond.instanceMethod yX12_readText ∈ wAll := w_in (k := 1455) (by decide +kernel) rfl
theorem q1456 : Cond.code yX12_readText cX12_readText 2 (some .int) ∈ wAll := w_in (k := 1456) (by decide +kernel) rfl
theorem q1457 : Cond.methodLink RX12 110 yX12_nextToken ∈ wAll := w_in (k := 1457) (by decide +kernel) rfl
theorem q1459 : Cond.instanceMethod yX12_nextToken ∈ wAll := w_in (k := 1459) (by decide +kernel) rfl
theorem q1460 : Cond.code yX12_nextToken cX12_nextToken 3 none ∈ wAll := w_in (k := 1460) (by decide +kernel) rfl
theorem q1461 : Cond.methodLink RX12 74 yX12_byteAt ∈ wAll := w_in (k := 1461) (by decide +kernel) rfl
theorem q1463 : Cond.instanceMethod yX12_byteAt ∈ wAll := w_in (k := 1463) (by decide +kernel) rfl
theorem q1464 : Cond.code yX12_byteAt cX12_byteAt 2 (some .int) ∈ wAll := w_in (k := 1464) (by decide +kernel) rfl
theorem q1465 : Cond.methodLink RX12 93 yX12_isFigure ∈ wAll := w_in (k := 1465) (by decide +kernel) rfl
theorem q1466 : Cond.static yX12_isFigure ∈ wAll := w_in (k := 1466) (by decide +kernel) rfl
theorem q1467 : Cond.code yX12_isFigure cX12_isFigure 1 (some .boolean) ∈ wAll := w_in (k := 1467) (by decide +kernel) rfl
theorem q1468 : Cond.constant RX12 96 (99999) ∈ wAll := w_in (k := 1468) (by decide +kernel) rfl
theorem q1469 : Cond.methodLink RX12 97 yX12_isLetterByte ∈ wAll := w_in (k := 1469) (by decide +kernel) rfl
theorem q1470 : Cond.static yX12_isLetterByte ∈ wAll := w_in (k := 1470) (by decide +kernel) rfl
theorem q1471 : Cond.code yX12_isLetterByte cX12_isLetterByte 1 (some .boolean) ∈ wAll := w_in (k := 1471) (by decide +kernel) rfl
theorem q1472 : Cond.methodLink RX12 100 yX12_wordOf ∈ wAll := w_in (k := 1472) (by decide +kernel) rfl
theorem q1474 : Cond.instanceMethod yX12_wordOf ∈ wAll := w_in (k := 1474) (by decide +kernel) rfl
theorem q1475 : Cond.code yX12_wordOf cX12_wordOf 3 (some .int) ∈ wAll := w_in (k := 1475) (by decide +kernel) rfl
theorem q1476 : Cond.methodLink RX12 77 yX12_isWord ∈ wAll := w_in (k := 1476) (by decide +kernel) rfl
theorem q1478 : Cond.instanceMethod yX12_isWord ∈ wAll := w_in (k := 1478) (by decide +kernel) rfl
theorem q1479 : Cond.code yX12_isWord cX12_isWord 9 (some .boolean) ∈ wAll := w_in (k := 1479) (by decide +kernel) rfl
theorem q1480 : Cond.methodLink RX12 104 yX12_isSign ∈ wAll := w_in (k := 1480) (by decide +kernel) rfl
theorem q1481 : Cond.static yX12_isSign ∈ wAll := w_in (k := 1481) (by decide +kernel) rfl
theorem q1482 : Cond.code yX12_isSign cX12_isSign 1 (some .boolean) ∈ wAll := w_in (k := 1482) (by decide +kernel) rfl
theorem q1483 : Cond.methodLink RX12 142 yX12_closed ∈ wAll := w_in (k := 1483) (by decide +kernel) rfl
theorem q1485 : Cond.instanceMethod yX12_closed ∈ wAll := w_in (k := 1485) (by decide +kernel) rfl
theorem q1486 : Cond.code yX12_closed cX12_closed 1 none ∈ wAll := w_in (k := 1486) (by decide +kernel) rfl
theorem q1487 : Cond.methodLink RX12 145 yX12_statement ∈ wAll := w_in (k := 1487) (by decide +kernel) rfl
theorem q1489 : Cond.instanceMethod yX12_statement ∈ wAll := w_in (k := 1489) (by decide +kernel) rfl
theorem q1490 : Cond.code yX12_statement cX12_statement 2 (some .int) ∈ wAll := w_in (k := 1490) (by decide +kernel) rfl
theorem q1491 : Cond.methodLink RX12 132 yX12_sums ∈ wAll := w_in (k := 1491) (by decide +kernel) rfl
theorem q1493 : Cond.instanceMethod yX12_sums ∈ wAll := w_in (k := 1493) (by decide +kernel) rfl
theorem q1494 : Cond.code yX12_sums cX12_sums 5 (some .int) ∈ wAll := w_in (k := 1494) (by decide +kernel) rfl
theorem q1495 : Cond.methodLink RX12 116 yX12_summed ∈ wAll := w_in (k := 1495) (by decide +kernel) rfl
theorem q1497 : Cond.instanceMethod yX12_summed ∈ wAll := w_in (k := 1497) (by decide +kernel) rfl
theorem q1498 : Cond.code yX12_summed cX12_summed 3 (some .int) ∈ wAll := w_in (k := 1498) (by decide +kernel) rfl
theorem q1499 : Cond.methodLink RX12 113 yX12_one ∈ wAll := w_in (k := 1499) (by decide +kernel) rfl
theorem q1501 : Cond.instanceMethod yX12_one ∈ wAll := w_in (k := 1501) (by decide +kernel) rfl
theorem q1502 : Cond.code yX12_one cX12_one 2 (some .int) ∈ wAll := w_in (k := 1502) (by decide +kernel) rfl
theorem q1503 : Cond.methodLink RX12 135 yX12_loopHead ∈ wAll := w_in (k := 1503) (by decide +kernel) rfl
theorem q1505 : Cond.instanceMethod yX12_loopHead ∈ wAll := w_in (k := 1505) (by decide +kernel) rfl
theorem q1506 : Cond.code yX12_loopHead cX12_loopHead 1 (some .int) ∈ wAll := w_in (k := 1506) (by decide +kernel) rfl
theorem q1507 : Cond.methodLink RX12 125 yX12_opened ∈ wAll := w_in (k := 1507) (by decide +kernel) rfl
theorem q1509 : Cond.instanceMethod yX12_opened ∈ wAll := w_in (k := 1509) (by decide +kernel) rfl
theorem q1510 : Cond.code yX12_opened cX12_opened 2 (some .int) ∈ wAll := w_in (k := 1510) (by decide +kernel) rfl
theorem q1511 : Cond.methodLink RX12 139 yX12_choiceHead ∈ wAll := w_in (k := 1511) (by decide +kernel) rfl
theorem q1513 : Cond.instanceMethod yX12_choiceHead ∈ wAll := w_in (k := 1513) (by decide +kernel) rfl
theorem q1514 : Cond.code yX12_choiceHead cX12_choiceHead 2 (some .int) ∈ wAll := w_in (k := 1514) (by decide +kernel) rfl
theorem q1516 : Cond.instanceMethod yX12_fault ∈ wAll := w_in (k := 1516) (by decide +kernel) rfl
theorem q1517 : Cond.selects RX12 yX12_fault yX12_fault ∈ wAll := w_in (k := 1517) (by decide +kernel) rfl
theorem q1518 : Cond.code yX12_fault cX12_fault 2 (some .int) ∈ wAll := w_in (k := 1518) (by decide +kernel) rfl
theorem q1520 : Cond.instanceMethod yX12_undo ∈ wAll := w_in (k := 1520) (by decide +kernel) rfl
theorem q1521 : Cond.selects RX12 yX12_undo yX12_undo ∈ wAll := w_in (k := 1521) (by decide +kernel) rfl
theorem q1522 : Cond.code yX12_undo cX12_undo 3 (some .int) ∈ wAll := w_in (k := 1522) (by decide +kernel) rfl
theorem q1523 : Cond.methodLink RX12 323 yX12_stepAt ∈ wAll := w_in (k := 1523) (by decide +kernel) rfl
theorem q1524 : Cond.static yX12_stepAt ∈ wAll := w_in (k := 1524) (by decide +kernel) rfl
theorem q1525 : Cond.code yX12_stepAt cX12_stepAt 2 (some .int) ∈ wAll := w_in (k := 1525) (by decide +kernel) rfl
theorem q1527 : Cond.instanceMethod yX12_read ∈ wAll := w_in (k := 1527) (by decide +kernel) rfl
theorem q1528 : Cond.selects RX12 yX12_read yX12_read ∈ wAll := w_in (k := 1528) (by decide +kernel) rfl
theorem q1529 : Cond.code yX12_read cX12_read 3 (some .int) ∈ wAll := w_in (k := 1529) (by decide +kernel) rfl
theorem q1530 : Cond.methodLink RX12 326 yX12_isBlock ∈ wAll := w_in (k := 1530) (by decide +kernel) rfl
theorem q1531 : Cond.static yX12_isBlock ∈ wAll := w_in (k := 1531) (by decide +kernel) rfl
theorem q1532 : Cond.code yX12_isBlock cX12_isBlock 2 (some .boolean) ∈ wAll := w_in (k := 1532) (by decide +kernel) rfl
theorem q1533 : Cond.methodLink RX12 56 yX12_isExtent ∈ wAll := w_in (k := 1533) (by decide +kernel) rfl
theorem q1534 : Cond.static yX12_isExtent ∈ wAll := w_in (k := 1534) (by decide +kernel) rfl
theorem q1535 : Cond.code yX12_isExtent cX12_isExtent 1 (some .boolean) ∈ wAll := w_in (k := 1535) (by decide +kernel) rfl
theorem q1536 : Cond.methodLink RX12 60 yX12_sizeOf ∈ wAll := w_in (k := 1536) (by decide +kernel) rfl
theorem q1537 : Cond.static yX12_sizeOf ∈ wAll := w_in (k := 1537) (by decide +kernel) rfl
theorem q1538 : Cond.code yX12_sizeOf cX12_sizeOf 1 (some .int) ∈ wAll := w_in (k := 1538) (by decide +kernel) rfl
theorem q1539 : Cond.methodLink RX12 329 yX12_keep ∈ wAll := w_in (k := 1539) (by decide +kernel) rfl
theorem q1541 : Cond.instanceMethod yX12_keep ∈ wAll := w_in (k := 1541) (by decide +kernel) rfl
theorem q1542 : Cond.code yX12_keep cX12_keep 3 none ∈ wAll := w_in (k := 1542) (by decide +kernel) rfl
theorem q1543 : Cond.methodLink RX12 254 yX12_readNow ∈ wAll := w_in (k := 1543) (by decide +kernel) rfl
theorem q1545 : Cond.instanceMethod yX12_readNow ∈ wAll := w_in (k := 1545) (by decide +kernel) rfl
theorem q1546 : Cond.code yX12_readNow cX12_readNow 3 (some .int) ∈ wAll := w_in (k := 1546) (by decide +kernel) rfl
theorem q1547 : Cond.methodLink RX12 163 yX12_access ∈ wAll := w_in (k := 1547) (by decide +kernel) rfl
theorem q1549 : Cond.instanceMethod yX12_access ∈ wAll := w_in (k := 1549) (by decide +kernel) rfl
theorem q1550 : Cond.code yX12_access cX12_access 6 none ∈ wAll := w_in (k := 1550) (by decide +kernel) rfl
theorem q1551 : Cond.methodLink RX12 157 yX12_isFast ∈ wAll := w_in (k := 1551) (by decide +kernel) rfl
theorem q1553 : Cond.instanceMethod yX12_isFast ∈ wAll := w_in (k := 1553) (by decide +kernel) rfl
theorem q1554 : Cond.code yX12_isFast cX12_isFast 2 (some .boolean) ∈ wAll := w_in (k := 1554) (by decide +kernel) rfl
theorem q1555 : Cond.methodLink RX12 64 yX12_firstOf ∈ wAll := w_in (k := 1555) (by decide +kernel) rfl
theorem q1556 : Cond.static yX12_firstOf ∈ wAll := w_in (k := 1556) (by decide +kernel) rfl
theorem q1557 : Cond.code yX12_firstOf cX12_firstOf 1 (some .int) ∈ wAll := w_in (k := 1557) (by decide +kernel) rfl
theorem q1558 : Cond.methodLink RX12 160 yX12_headed ∈ wAll := w_in (k := 1558) (by decide +kernel) rfl
theorem q1560 : Cond.instanceMethod yX12_headed ∈ wAll := w_in (k := 1560) (by decide +kernel) rfl
theorem q1561 : Cond.code yX12_headed cX12_headed 4 (some .int) ∈ wAll := w_in (k := 1561) (by decide +kernel) rfl
theorem q1562 : Cond.methodLink RX12 151 yX12_headAt ∈ wAll := w_in (k := 1562) (by decide +kernel) rfl
theorem q1564 : Cond.instanceMethod yX12_headAt ∈ wAll := w_in (k := 1564) (by decide +kernel) rfl
theorem q1565 : Cond.code yX12_headAt cX12_headAt 3 (some .int) ∈ wAll := w_in (k := 1565) (by decide +kernel) rfl
theorem q1566 : Cond.methodLink RX12 154 yX12_outHead ∈ wAll := w_in (k := 1566) (by decide +kernel) rfl
theorem q1568 : Cond.instanceMethod yX12_outHead ∈ wAll := w_in (k := 1568) (by decide +kernel) rfl
theorem q1569 : Cond.code yX12_outHead cX12_outHead 3 none ∈ wAll := w_in (k := 1569) (by decide +kernel) rfl
theorem q1570 : Cond.methodLink RX12 167 yX12_slotOf ∈ wAll := w_in (k := 1570) (by decide +kernel) rfl
theorem q1572 : Cond.instanceMethod yX12_slotOf ∈ wAll := w_in (k := 1572) (by decide +kernel) rfl
theorem q1573 : Cond.code yX12_slotOf cX12_slotOf 3 (some .int) ∈ wAll := w_in (k := 1573) (by decide +kernel) rfl
theorem q1575 : Cond.instanceMethod yX12_write ∈ wAll := w_in (k := 1575) (by decide +kernel) rfl
theorem q1576 : Cond.selects RX12 yX12_write yX12_write ∈ wAll := w_in (k := 1576) (by decide +kernel) rfl
theorem q1577 : Cond.code yX12_write cX12_write 4 (some .int) ∈ wAll := w_in (k := 1577) (by decide +kernel) rfl
theorem q1578 : Cond.methodLink RX12 266 yX12_writeNow ∈ wAll := w_in (k := 1578) (by decide +kernel) rfl
theorem q1580 : Cond.instanceMethod yX12_writeNow ∈ wAll := w_in (k := 1580) (by decide +kernel) rfl
theorem q1581 : Cond.code yX12_writeNow cX12_writeNow 5 (some .int) ∈ wAll := w_in (k := 1581) (by decide +kernel) rfl
theorem q1582 : Cond.methodLink RX12 170 yX12_moveAt ∈ wAll := w_in (k := 1582) (by decide +kernel) rfl
theorem q1584 : Cond.instanceMethod yX12_moveAt ∈ wAll := w_in (k := 1584) (by decide +kernel) rfl
theorem q1585 : Cond.code yX12_moveAt cX12_moveAt 3 (some .int) ∈ wAll := w_in (k := 1585) (by decide +kernel) rfl
theorem q1587 : Cond.instanceMethod yX12_scan ∈ wAll := w_in (k := 1587) (by decide +kernel) rfl
theorem q1588 : Cond.selects RX12 yX12_scan yX12_scan ∈ wAll := w_in (k := 1588) (by decide +kernel) rfl
theorem q1589 : Cond.code yX12_scan cX12_scan 3 (some .int) ∈ wAll := w_in (k := 1589) (by decide +kernel) rfl
theorem q1590 : Cond.methodLink RX12 270 yX12_scanNow ∈ wAll := w_in (k := 1590) (by decide +kernel) rfl
theorem q1592 : Cond.instanceMethod yX12_scanNow ∈ wAll := w_in (k := 1592) (by decide +kernel) rfl
theorem q1593 : Cond.code yX12_scanNow cX12_scanNow 6 (some .int) ∈ wAll := w_in (k := 1593) (by decide +kernel) rfl
theorem q1595 : Cond.instanceMethod yX12_pin ∈ wAll := w_in (k := 1595) (by decide +kernel) rfl
theorem q1596 : Cond.selects RX12 yX12_pin yX12_pin ∈ wAll := w_in (k := 1596) (by decide +kernel) rfl
theorem q1597 : Cond.code yX12_pin cX12_pin 3 (some .boolean) ∈ wAll := w_in (k := 1597) (by decide +kernel) rfl
theorem q1598 : Cond.methodLink RX12 185 yX12_writeDown ∈ wAll := w_in (k := 1598) (by decide +kernel) rfl
theorem q1600 : Cond.instanceMethod yX12_writeDown ∈ wAll := w_in (k := 1600) (by decide +kernel) rfl
theorem q1601 : Cond.code yX12_writeDown cX12_writeDown 5 none ∈ wAll := w_in (k := 1601) (by decide +kernel) rfl
theorem q1603 : Cond.instanceMethod yX12_tell ∈ wAll := w_in (k := 1603) (by decide +kernel) rfl
theorem q1604 : Cond.selects RX12 yX12_tell yX12_tell ∈ wAll := w_in (k := 1604) (by decide +kernel) rfl
theorem q1605 : Cond.code yX12_tell cX12_tell 3 (some .boolean) ∈ wAll := w_in (k := 1605) (by decide +kernel) rfl
theorem q1607 : Cond.instanceMethod yX12_ask ∈ wAll := w_in (k := 1607) (by decide +kernel) rfl
theorem q1608 : Cond.selects RX12 yX12_ask yX12_ask ∈ wAll := w_in (k := 1608) (by decide +kernel) rfl
theorem q1609 : Cond.code yX12_ask cX12_ask 2 (some .int) ∈ wAll := w_in (k := 1609) (by decide +kernel) rfl
theorem q1610 : Cond.methodLink RX12 242 yX12_addMove ∈ wAll := w_in (k := 1610) (by decide +kernel) rfl
theorem q1612 : Cond.instanceMethod yX12_addMove ∈ wAll := w_in (k := 1612) (by decide +kernel) rfl
theorem q1613 : Cond.code yX12_addMove cX12_addMove 3 none ∈ wAll := w_in (k := 1613) (by decide +kernel) rfl
theorem q1615 : Cond.instanceMethod yX12_drop ∈ wAll := w_in (k := 1615) (by decide +kernel) rfl
theorem q1616 : Cond.selects RX12 yX12_drop yX12_drop ∈ wAll := w_in (k := 1616) (by decide +kernel) rfl
theorem q1617 : Cond.code yX12_drop cX12_drop 2 (some .int) ∈ wAll := w_in (k := 1617) (by decide +kernel) rfl
theorem q1618 : Cond.methodLink RX12 233 yX12_dropMove ∈ wAll := w_in (k := 1618) (by decide +kernel) rfl
theorem q1620 : Cond.instanceMethod yX12_dropMove ∈ wAll := w_in (k := 1620) (by decide +kernel) rfl
theorem q1621 : Cond.code yX12_dropMove cX12_dropMove 4 none ∈ wAll := w_in (k := 1621) (by decide +kernel) rfl
theorem q1622 : Cond.methodLink RX12 176 yX12_ofMove ∈ wAll := w_in (k := 1622) (by decide +kernel) rfl
theorem q1624 : Cond.instanceMethod yX12_ofMove ∈ wAll := w_in (k := 1624) (by decide +kernel) rfl
theorem q1625 : Cond.code yX12_ofMove cX12_ofMove 3 (some .int) ∈ wAll := w_in (k := 1625) (by decide +kernel) rfl
theorem q1626 : Cond.methodLink RX12 179 yX12_freeSlots ∈ wAll := w_in (k := 1626) (by decide +kernel) rfl
theorem q1628 : Cond.instanceMethod yX12_freeSlots ∈ wAll := w_in (k := 1628) (by decide +kernel) rfl
theorem q1629 : Cond.code yX12_freeSlots cX12_freeSlots 3 none ∈ wAll := w_in (k := 1629) (by decide +kernel) rfl
theorem q1630 : Cond.methodLink RX12 182 yX12_outMove ∈ wAll := w_in (k := 1630) (by decide +kernel) rfl
theorem q1632 : Cond.instanceMethod yX12_outMove ∈ wAll := w_in (k := 1632) (by decide +kernel) rfl
theorem q1633 : Cond.code yX12_outMove cX12_outMove 3 none ∈ wAll := w_in (k := 1633) (by decide +kernel) rfl
theorem q1635 : Cond.instanceMethod yX12_day ∈ wAll := w_in (k := 1635) (by decide +kernel) rfl
theorem q1636 : Cond.selects RX12 yX12_day yX12_day ∈ wAll := w_in (k := 1636) (by decide +kernel) rfl
theorem q1637 : Cond.code yX12_day cX12_day 2 (some .int) ∈ wAll := w_in (k := 1637) (by decide +kernel) rfl
theorem q1638 : Cond.methodLink RX12 332 yX12_ticks ∈ wAll := w_in (k := 1638) (by decide +kernel) rfl
theorem q1640 : Cond.instanceMethod yX12_ticks ∈ wAll := w_in (k := 1640) (by decide +kernel) rfl
theorem q1641 : Cond.code yX12_ticks cX12_ticks 3 none ∈ wAll := w_in (k := 1641) (by decide +kernel) rfl
theorem q1642 : Cond.methodLink RX12 257 yX12_tick ∈ wAll := w_in (k := 1642) (by decide +kernel) rfl
theorem q1644 : Cond.instanceMethod yX12_tick ∈ wAll := w_in (k := 1644) (by decide +kernel) rfl
theorem q1645 : Cond.code yX12_tick cX12_tick 1 none ∈ wAll := w_in (k := 1645) (by decide +kernel) rfl
theorem q1646 : Cond.methodLink RX12 248 yX12_goMoves ∈ wAll := w_in (k := 1646) (by decide +kernel) rfl
theorem q1648 : Cond.instanceMethod yX12_goMoves ∈ wAll := w_in (k := 1648) (by decide +kernel) rfl
theorem q1649 : Cond.code yX12_goMoves cX12_goMoves 3 none ∈ wAll := w_in (k := 1649) (by decide +kernel) rfl
theorem q1650 : Cond.methodLink RX12 202 yX12_isBegun ∈ wAll := w_in (k := 1650) (by decide +kernel) rfl
theorem q1652 : Cond.instanceMethod yX12_isBegun ∈ wAll := w_in (k := 1652) (by decide +kernel) rfl
theorem q1653 : Cond.code yX12_isBegun cX12_isBegun 4 (some .boolean) ∈ wAll := w_in (k := 1653) (by decide +kernel) rfl
theorem q1654 : Cond.methodLink RX12 189 yX12_manyFree ∈ wAll := w_in (k := 1654) (by decide +kernel) rfl
theorem q1656 : Cond.instanceMethod yX12_manyFree ∈ wAll := w_in (k := 1656) (by decide +kernel) rfl
theorem q1657 : Cond.code yX12_manyFree cX12_manyFree 3 (some .int) ∈ wAll := w_in (k := 1657) (by decide +kernel) rfl
theorem q1658 : Cond.methodLink RX12 192 yX12_freeFrom ∈ wAll := w_in (k := 1658) (by decide +kernel) rfl
theorem q1660 : Cond.instanceMethod yX12_freeFrom ∈ wAll := w_in (k := 1660) (by decide +kernel) rfl
theorem q1661 : Cond.code yX12_freeFrom cX12_freeFrom 3 (some .int) ∈ wAll := w_in (k := 1661) (by decide +kernel) rfl
theorem q1662 : Cond.methodLink RX12 173 yX12_holderOf ∈ wAll := w_in (k := 1662) (by decide +kernel) rfl
theorem q1664 : Cond.instanceMethod yX12_holderOf ∈ wAll := w_in (k := 1664) (by decide +kernel) rfl
theorem q1665 : Cond.code yX12_holderOf cX12_holderOf 3 (some .int) ∈ wAll := w_in (k := 1665) (by decide +kernel) rfl
theorem q1666 : Cond.methodLink RX12 195 yX12_toCopy ∈ wAll := w_in (k := 1666) (by decide +kernel) rfl
theorem q1668 : Cond.instanceMethod yX12_toCopy ∈ wAll := w_in (k := 1668) (by decide +kernel) rfl
theorem q1669 : Cond.code yX12_toCopy cX12_toCopy 3 (some .int) ∈ wAll := w_in (k := 1669) (by decide +kernel) rfl
theorem q1670 : Cond.methodLink RX12 205 yX12_copyBlock ∈ wAll := w_in (k := 1670) (by decide +kernel) rfl
theorem q1672 : Cond.instanceMethod yX12_copyBlock ∈ wAll := w_in (k := 1672) (by decide +kernel) rfl
theorem q1673 : Cond.code yX12_copyBlock cX12_copyBlock 6 none ∈ wAll := w_in (k := 1673) (by decide +kernel) rfl
theorem q1674 : Cond.methodLink RX12 198 yX12_has ∈ wAll := w_in (k := 1674) (by decide +kernel) rfl
theorem q1675 : Cond.static yX12_has ∈ wAll := w_in (k := 1675) (by decide +kernel) rfl
theorem q1676 : Cond.code yX12_has cX12_has 2 (some .boolean) ∈ wAll := w_in (k := 1676) (by decide +kernel) rfl
theorem q1677 : Cond.methodLink RX12 208 yX12_switchMove ∈ wAll := w_in (k := 1677) (by decide +kernel) rfl
theorem q1679 : Cond.instanceMethod yX12_switchMove ∈ wAll := w_in (k := 1679) (by decide +kernel) rfl
theorem q1680 : Cond.code yX12_switchMove cX12_switchMove 4 none ∈ wAll := w_in (k := 1680) (by decide +kernel) rfl
theorem q1681 : Cond.methodLink RX12 251 yX12_endEpoch ∈ wAll := w_in (k := 1681) (by decide +kernel) rfl
theorem q1683 : Cond.instanceMethod yX12_endEpoch ∈ wAll := w_in (k := 1683) (by decide +kernel) rfl
theorem q1684 : Cond.code yX12_endEpoch cX12_endEpoch 2 none ∈ wAll := w_in (k := 1684) (by decide +kernel) rfl
theorem q1685 : Cond.methodLink RX12 245 yX12_makePlan ∈ wAll := w_in (k := 1685) (by decide +kernel) rfl
theorem q1687 : Cond.instanceMethod yX12_makePlan ∈ wAll := w_in (k := 1687) (by decide +kernel) rfl
theorem q1688 : Cond.code yX12_makePlan cX12_makePlan 5 none ∈ wAll := w_in (k := 1688) (by decide +kernel) rfl
theorem q1689 : Cond.methodLink RX12 236 yX12_bestSet ∈ wAll := w_in (k := 1689) (by decide +kernel) rfl
theorem q1691 : Cond.instanceMethod yX12_bestSet ∈ wAll := w_in (k := 1691) (by decide +kernel) rfl
theorem q1692 : Cond.code yX12_bestSet cX12_bestSet 4 (some .int) ∈ wAll := w_in (k := 1692) (by decide +kernel) rfl
theorem q1693 : Cond.methodLink RX12 227 yX12_isAllowed ∈ wAll := w_in (k := 1693) (by decide +kernel) rfl
theorem q1695 : Cond.instanceMethod yX12_isAllowed ∈ wAll := w_in (k := 1695) (by decide +kernel) rfl
theorem q1696 : Cond.code yX12_isAllowed cX12_isAllowed 7 (some .boolean) ∈ wAll := w_in (k := 1696) (by decide +kernel) rfl
theorem q1697 : Cond.methodLink RX12 217 yX12_mayBe ∈ wAll := w_in (k := 1697) (by decide +kernel) rfl
theorem q1699 : Cond.instanceMethod yX12_mayBe ∈ wAll := w_in (k := 1699) (by decide +kernel) rfl
theorem q1700 : Cond.code yX12_mayBe cX12_mayBe 4 (some .boolean) ∈ wAll := w_in (k := 1700) (by decide +kernel) rfl
theorem q1701 : Cond.methodLink RX12 211 yX12_begunOf ∈ wAll := w_in (k := 1701) (by decide +kernel) rfl
theorem q1703 : Cond.instanceMethod yX12_begunOf ∈ wAll := w_in (k := 1703) (by decide +kernel) rfl
theorem q1704 : Cond.code yX12_begunOf cX12_begunOf 3 (some .int) ∈ wAll := w_in (k := 1704) (by decide +kernel) rfl
theorem q1705 : Cond.methodLink RX12 214 yX12_bitsOf ∈ wAll := w_in (k := 1705) (by decide +kernel) rfl
theorem q1706 : Cond.static yX12_bitsOf ∈ wAll := w_in (k := 1706) (by decide +kernel) rfl
theorem q1707 : Cond.code yX12_bitsOf cX12_bitsOf 3 (some .int) ∈ wAll := w_in (k := 1707) (by decide +kernel) rfl
theorem q1708 : Cond.methodLink RX12 221 yX12_copiedFor ∈ wAll := w_in (k := 1708) (by decide +kernel) rfl
theorem q1710 : Cond.instanceMethod yX12_copiedFor ∈ wAll := w_in (k := 1710) (by decide +kernel) rfl
theorem q1711 : Cond.code yX12_copiedFor cX12_copiedFor 3 (some .int) ∈ wAll := w_in (k := 1711) (by decide +kernel) rfl
theorem q1712 : Cond.methodLink RX12 230 yX12_worthOf ∈ wAll := w_in (k := 1712) (by decide +kernel) rfl
theorem q1714 : Cond.instanceMethod yX12_worthOf ∈ wAll := w_in (k := 1714) (by decide +kernel) rfl
theorem q1715 : Cond.code yX12_worthOf cX12_worthOf 4 (some .int) ∈ wAll := w_in (k := 1715) (by decide +kernel) rfl
theorem q1716 : Cond.constant RX12 225 (100000) ∈ wAll := w_in (k := 1716) (by decide +kernel) rfl
theorem q1717 : Cond.constant RX12 226 (-100000) ∈ wAll := w_in (k := 1717) (by decide +kernel) rfl
theorem q1718 : Cond.methodLink RX12 239 yX12_layNew ∈ wAll := w_in (k := 1718) (by decide +kernel) rfl
theorem q1720 : Cond.instanceMethod yX12_layNew ∈ wAll := w_in (k := 1720) (by decide +kernel) rfl
theorem q1721 : Cond.code yX12_layNew cX12_layNew 6 (some .int) ∈ wAll := w_in (k := 1721) (by decide +kernel) rfl
theorem q1723 : Cond.instanceMethod yX12_crash ∈ wAll := w_in (k := 1723) (by decide +kernel) rfl
theorem q1724 : Cond.selects RX12 yX12_crash yX12_crash ∈ wAll := w_in (k := 1724) (by decide +kernel) rfl
theorem q1725 : Cond.code yX12_crash cX12_crash 1 (some .int) ∈ wAll := w_in (k := 1725) (by decide +kernel) rfl
theorem q1726 : Cond.methodLink RX12 273 yX12_crashNow ∈ wAll := w_in (k := 1726) (by decide +kernel) rfl
theorem q1728 : Cond.instanceMethod yX12_crashNow ∈ wAll := w_in (k := 1728) (by decide +kernel) rfl
theorem q1729 : Cond.code yX12_crashNow cX12_crashNow 4 (some .int) ∈ wAll := w_in (k := 1729) (by decide +kernel) rfl
theorem q1731 : Cond.instanceMethod yX12_played ∈ wAll := w_in (k := 1731) (by decide +kernel) rfl
theorem q1732 : Cond.selects RX12 yX12_played yX12_played ∈ wAll := w_in (k := 1732) (by decide +kernel) rfl
theorem q1733 : Cond.code yX12_played cX12_played 2 (some .int) ∈ wAll := w_in (k := 1733) (by decide +kernel) rfl
theorem q1734 : Cond.methodLink RX12 335 yX12_goText ∈ wAll := w_in (k := 1734) (by decide +kernel) rfl
theorem q1736 : Cond.instanceMethod yX12_goText ∈ wAll := w_in (k := 1736) (by decide +kernel) rfl
theorem q1737 : Cond.code yX12_goText cX12_goText 2 (some .int) ∈ wAll := w_in (k := 1737) (by decide +kernel) rfl
theorem q1738 : Cond.methodLink RX12 279 yX12_tokenAt ∈ wAll := w_in (k := 1738) (by decide +kernel) rfl
theorem q1740 : Cond.instanceMethod yX12_tokenAt ∈ wAll := w_in (k := 1740) (by decide +kernel) rfl
theorem q1741 : Cond.code yX12_tokenAt cX12_tokenAt 2 (some .int) ∈ wAll := w_in (k := 1741) (by decide +kernel) rfl
theorem q1742 : Cond.methodLink RX12 294 yX12_isOver ∈ wAll := w_in (k := 1742) (by decide +kernel) rfl
theorem q1744 : Cond.instanceMethod yX12_isOver ∈ wAll := w_in (k := 1744) (by decide +kernel) rfl
theorem q1745 : Cond.code yX12_isOver cX12_isOver 1 (some .boolean) ∈ wAll := w_in (k := 1745) (by decide +kernel) rfl
theorem q1746 : Cond.methodLink RX12 320 yX12_goStatement ∈ wAll := w_in (k := 1746) (by decide +kernel) rfl
theorem q1748 : Cond.instanceMethod yX12_goStatement ∈ wAll := w_in (k := 1748) (by decide +kernel) rfl
theorem q1749 : Cond.code yX12_goStatement cX12_goStatement 3 none ∈ wAll := w_in (k := 1749) (by decide +kernel) rfl
theorem q1750 : Cond.methodLink RX12 311 yX12_goAround ∈ wAll := w_in (k := 1750) (by decide +kernel) rfl
theorem q1752 : Cond.instanceMethod yX12_goAround ∈ wAll := w_in (k := 1752) (by decide +kernel) rfl
theorem q1753 : Cond.code yX12_goAround cX12_goAround 2 none ∈ wAll := w_in (k := 1753) (by decide +kernel) rfl
theorem q1754 : Cond.methodLink RX12 282 yX12_numberAt ∈ wAll := w_in (k := 1754) (by decide +kernel) rfl
theorem q1756 : Cond.instanceMethod yX12_numberAt ∈ wAll := w_in (k := 1756) (by decide +kernel) rfl
theorem q1757 : Cond.code yX12_numberAt cX12_numberAt 2 (some .int) ∈ wAll := w_in (k := 1757) (by decide +kernel) rfl
theorem q1758 : Cond.methodLink RX12 301 yX12_goInto ∈ wAll := w_in (k := 1758) (by decide +kernel) rfl
theorem q1760 : Cond.instanceMethod yX12_goInto ∈ wAll := w_in (k := 1760) (by decide +kernel) rfl
theorem q1761 : Cond.code yX12_goInto cX12_goInto 2 none ∈ wAll := w_in (k := 1761) (by decide +kernel) rfl
theorem q1762 : Cond.methodLink RX12 314 yX12_goChoice ∈ wAll := w_in (k := 1762) (by decide +kernel) rfl
theorem q1764 : Cond.instanceMethod yX12_goChoice ∈ wAll := w_in (k := 1764) (by decide +kernel) rfl
theorem q1765 : Cond.code yX12_goChoice cX12_goChoice 4 none ∈ wAll := w_in (k := 1765) (by decide +kernel) rfl
theorem q1766 : Cond.methodLink RX12 298 yX12_goSum ∈ wAll := w_in (k := 1766) (by decide +kernel) rfl
theorem q1768 : Cond.instanceMethod yX12_goSum ∈ wAll := w_in (k := 1768) (by decide +kernel) rfl
theorem q1769 : Cond.code yX12_goSum cX12_goSum 2 (some .int) ∈ wAll := w_in (k := 1769) (by decide +kernel) rfl
theorem q1770 : Cond.methodLink RX12 288 yX12_goProduct ∈ wAll := w_in (k := 1770) (by decide +kernel) rfl
theorem q1772 : Cond.instanceMethod yX12_goProduct ∈ wAll := w_in (k := 1772) (by decide +kernel) rfl
theorem q1773 : Cond.code yX12_goProduct cX12_goProduct 2 (some .int) ∈ wAll := w_in (k := 1773) (by decide +kernel) rfl
theorem q1774 : Cond.methodLink RX12 285 yX12_goOne ∈ wAll := w_in (k := 1774) (by decide +kernel) rfl
theorem q1776 : Cond.instanceMethod yX12_goOne ∈ wAll := w_in (k := 1776) (by decide +kernel) rfl
theorem q1777 : Cond.code yX12_goOne cX12_goOne 2 (some .int) ∈ wAll := w_in (k := 1777) (by decide +kernel) rfl
theorem q1778 : Cond.methodLink RX12 304 yX12_passBlock ∈ wAll := w_in (k := 1778) (by decide +kernel) rfl
theorem q1780 : Cond.instanceMethod yX12_passBlock ∈ wAll := w_in (k := 1780) (by decide +kernel) rfl
theorem q1781 : Cond.code yX12_passBlock cX12_passBlock 3 none ∈ wAll := w_in (k := 1781) (by decide +kernel) rfl
theorem q1782 : Cond.methodLink RX12 317 yX12_goAct ∈ wAll := w_in (k := 1782) (by decide +kernel) rfl
theorem q1784 : Cond.instanceMethod yX12_goAct ∈ wAll := w_in (k := 1784) (by decide +kernel) rfl
theorem q1785 : Cond.code yX12_goAct cX12_goAct 4 none ∈ wAll := w_in (k := 1785) (by decide +kernel) rfl
theorem q1786 : Cond.methodLink RX12 307 yX12_goScan ∈ wAll := w_in (k := 1786) (by decide +kernel) rfl
theorem q1788 : Cond.instanceMethod yX12_goScan ∈ wAll := w_in (k := 1788) (by decide +kernel) rfl
theorem q1789 : Cond.code yX12_goScan cX12_goScan 5 none ∈ wAll := w_in (k := 1789) (by decide +kernel) rfl
theorem q1791 : Cond.instanceMethod yX12_years ∈ wAll := w_in (k := 1791) (by decide +kernel) rfl
theorem q1792 : Cond.selects RX12 yX12_years yX12_years ∈ wAll := w_in (k := 1792) (by decide +kernel) rfl
theorem q1793 : Cond.code yX12_years cX12_years 4 (some .int) ∈ wAll := w_in (k := 1793) (by decide +kernel) rfl
theorem q1794 : Cond.methodLink RX12 338 yX12_drawn ∈ wAll := w_in (k := 1794) (by decide +kernel) rfl
theorem q1796 : Cond.instanceMethod yX12_drawn ∈ wAll := w_in (k := 1796) (by decide +kernel) rfl
theorem q1797 : Cond.code yX12_drawn cX12_drawn 2 (some .int) ∈ wAll := w_in (k := 1797) (by decide +kernel) rfl
theorem q1798 : Cond.constantLong RX12 260 (773) ∈ wAll := w_in (k := 1798) (by decide +kernel) rfl
theorem q1799 : Cond.constantLong RX12 262 (641) ∈ wAll := w_in (k := 1799) (by decide +kernel) rfl
theorem q1800 : Cond.constantLong RX12 264 (31139) ∈ wAll := w_in (k := 1800) (by decide +kernel) rfl
theorem q1801 : Cond.methodLink RX12 341 yX12_happens ∈ wAll := w_in (k := 1801) (by decide +kernel) rfl
theorem q1803 : Cond.instanceMethod yX12_happens ∈ wAll := w_in (k := 1803) (by decide +kernel) rfl
theorem q1804 : Cond.code yX12_happens cX12_happens 3 none ∈ wAll := w_in (k := 1804) (by decide +kernel) rfl
theorem q1806 : Cond.instanceMethod yX12_is ∈ wAll := w_in (k := 1806) (by decide +kernel) rfl
theorem q1807 : Cond.selects RX12 yX12_is yX12_is ∈ wAll := w_in (k := 1807) (by decide +kernel) rfl
theorem q1808 : Cond.code yX12_is cX12_is 2 (some .int) ∈ wAll := w_in (k := 1808) (by decide +kernel) rfl
theorem q1810 : Cond.instanceMethod yX12_where ∈ wAll := w_in (k := 1810) (by decide +kernel) rfl
theorem q1811 : Cond.selects RX12 yX12_where yX12_where ∈ wAll := w_in (k := 1811) (by decide +kernel) rfl
theorem q1812 : Cond.code yX12_where cX12_where 2 (some .int) ∈ wAll := w_in (k := 1812) (by decide +kernel) rfl
theorem q1814 : Cond.instanceMethod yX12_slot ∈ wAll := w_in (k := 1814) (by decide +kernel) rfl
theorem q1815 : Cond.selects RX12 yX12_slot yX12_slot ∈ wAll := w_in (k := 1815) (by decide +kernel) rfl
theorem q1816 : Cond.code yX12_slot cX12_slot 3 (some .int) ∈ wAll := w_in (k := 1816) (by decide +kernel) rfl
theorem q1818 : Cond.instanceMethod yX12_on ∈ wAll := w_in (k := 1818) (by decide +kernel) rfl
theorem q1819 : Cond.selects RX12 yX12_on yX12_on ∈ wAll := w_in (k := 1819) (by decide +kernel) rfl
theorem q1820 : Cond.code yX12_on cX12_on 3 (some .int) ∈ wAll := w_in (k := 1820) (by decide +kernel) rfl
theorem q1822 : Cond.instanceMethod yX12_holder ∈ wAll := w_in (k := 1822) (by decide +kernel) rfl
theorem q1823 : Cond.selects RX12 yX12_holder yX12_holder ∈ wAll := w_in (k := 1823) (by decide +kernel) rfl
theorem q1824 : Cond.code yX12_holder cX12_holder 2 (some .int) ∈ wAll := w_in (k := 1824) (by decide +kernel) rfl
theorem q1826 : Cond.instanceMethod yX12_free ∈ wAll := w_in (k := 1826) (by decide +kernel) rfl
theorem q1827 : Cond.selects RX12 yX12_free yX12_free ∈ wAll := w_in (k := 1827) (by decide +kernel) rfl
theorem q1828 : Cond.code yX12_free cX12_free 2 (some .int) ∈ wAll := w_in (k := 1828) (by decide +kernel) rfl
theorem q1830 : Cond.instanceMethod yX12_position ∈ wAll := w_in (k := 1830) (by decide +kernel) rfl
theorem q1831 : Cond.selects RX12 yX12_position yX12_position ∈ wAll := w_in (k := 1831) (by decide +kernel) rfl
theorem q1832 : Cond.code yX12_position cX12_position 3 (some .int) ∈ wAll := w_in (k := 1832) (by decide +kernel) rfl
theorem q1834 : Cond.instanceMethod yX12_heat ∈ wAll := w_in (k := 1834) (by decide +kernel) rfl
theorem q1835 : Cond.selects RX12 yX12_heat yX12_heat ∈ wAll := w_in (k := 1835) (by decide +kernel) rfl
theorem q1836 : Cond.code yX12_heat cX12_heat 2 (some .int) ∈ wAll := w_in (k := 1836) (by decide +kernel) rfl
theorem q1838 : Cond.instanceMethod yX12_of ∈ wAll := w_in (k := 1838) (by decide +kernel) rfl
theorem q1839 : Cond.selects RX12 yX12_of yX12_of ∈ wAll := w_in (k := 1839) (by decide +kernel) rfl
theorem q1840 : Cond.code yX12_of cX12_of 3 (some .int) ∈ wAll := w_in (k := 1840) (by decide +kernel) rfl
theorem q1842 : Cond.instanceMethod yX12_head ∈ wAll := w_in (k := 1842) (by decide +kernel) rfl
theorem q1843 : Cond.selects RX12 yX12_head yX12_head ∈ wAll := w_in (k := 1843) (by decide +kernel) rfl
theorem q1844 : Cond.code yX12_head cX12_head 3 (some .int) ∈ wAll := w_in (k := 1844) (by decide +kernel) rfl
theorem q1846 : Cond.instanceMethod yX12_move ∈ wAll := w_in (k := 1846) (by decide +kernel) rfl
theorem q1847 : Cond.selects RX12 yX12_move yX12_move ∈ wAll := w_in (k := 1847) (by decide +kernel) rfl
theorem q1848 : Cond.code yX12_move cX12_move 3 (some .int) ∈ wAll := w_in (k := 1848) (by decide +kernel) rfl
theorem q1850 : Cond.instanceMethod yX12_moveOf ∈ wAll := w_in (k := 1850) (by decide +kernel) rfl
theorem q1851 : Cond.selects RX12 yX12_moveOf yX12_moveOf ∈ wAll := w_in (k := 1851) (by decide +kernel) rfl
theorem q1852 : Cond.code yX12_moveOf cX12_moveOf 2 (some .int) ∈ wAll := w_in (k := 1852) (by decide +kernel) rfl
theorem q1854 : Cond.instanceMethod yX12_plan ∈ wAll := w_in (k := 1854) (by decide +kernel) rfl
theorem q1855 : Cond.selects RX12 yX12_plan yX12_plan ∈ wAll := w_in (k := 1855) (by decide +kernel) rfl
theorem q1856 : Cond.code yX12_plan cX12_plan 1 (some .int) ∈ wAll := w_in (k := 1856) (by decide +kernel) rfl
theorem q1858 : Cond.instanceMethod yX12_worth ∈ wAll := w_in (k := 1858) (by decide +kernel) rfl
theorem q1859 : Cond.selects RX12 yX12_worth yX12_worth ∈ wAll := w_in (k := 1859) (by decide +kernel) rfl
theorem q1860 : Cond.code yX12_worth cX12_worth 2 (some .int) ∈ wAll := w_in (k := 1860) (by decide +kernel) rfl
theorem q1861 : Cond.constant RX12 344 (-2147483648) ∈ wAll := w_in (k := 1861) (by decide +kernel) rfl
theorem q1863 : Cond.instanceMethod yX12_value ∈ wAll := w_in (k := 1863) (by decide +kernel) rfl
theorem q1864 : Cond.selects RX12 yX12_value yX12_value ∈ wAll := w_in (k := 1864) (by decide +kernel) rfl
theorem q1865 : Cond.code yX12_value cX12_value 2 (some .int) ∈ wAll := w_in (k := 1865) (by decide +kernel) rfl
theorem q1867 : Cond.instanceMethod yX12_may ∈ wAll := w_in (k := 1867) (by decide +kernel) rfl
theorem q1868 : Cond.selects RX12 yX12_may yX12_may ∈ wAll := w_in (k := 1868) (by decide +kernel) rfl
theorem q1869 : Cond.code yX12_may cX12_may 4 (some .boolean) ∈ wAll := w_in (k := 1869) (by decide +kernel) rfl
theorem q1871 : Cond.instanceMethod yX12_next ∈ wAll := w_in (k := 1871) (by decide +kernel) rfl
theorem q1872 : Cond.selects RX12 yX12_next yX12_next ∈ wAll := w_in (k := 1872) (by decide +kernel) rfl
theorem q1873 : Cond.code yX12_next cX12_next 3 (some .int) ∈ wAll := w_in (k := 1873) (by decide +kernel) rfl
theorem q1875 : Cond.instanceMethod yX12_enough ∈ wAll := w_in (k := 1875) (by decide +kernel) rfl
theorem q1876 : Cond.selects RX12 yX12_enough yX12_enough ∈ wAll := w_in (k := 1876) (by decide +kernel) rfl
theorem q1877 : Cond.code yX12_enough cX12_enough 3 (some .int) ∈ wAll := w_in (k := 1877) (by decide +kernel) rfl
theorem q1879 : Cond.instanceMethod yX12_needs ∈ wAll := w_in (k := 1879) (by decide +kernel) rfl
theorem q1880 : Cond.selects RX12 yX12_needs yX12_needs ∈ wAll := w_in (k := 1880) (by decide +kernel) rfl
theorem q1881 : Cond.code yX12_needs cX12_needs 4 (some .int) ∈ wAll := w_in (k := 1881) (by decide +kernel) rfl
theorem q1883 : Cond.instanceMethod yX12_threshold ∈ wAll := w_in (k := 1883) (by decide +kernel) rfl
theorem q1884 : Cond.selects RX12 yX12_threshold yX12_threshold ∈ wAll := w_in (k := 1884) (by decide +kernel) rfl
theorem q1885 : Cond.code yX12_threshold cX12_threshold 3 (some .int) ∈ wAll := w_in (k := 1885) (by decide +kernel) rfl
theorem q1886 : Cond.methodLink RX12 360 yX12_layBests ∈ wAll := w_in (k := 1886) (by decide +kernel) rfl
theorem q1888 : Cond.instanceMethod yX12_layBests ∈ wAll := w_in (k := 1888) (by decide +kernel) rfl
theorem q1889 : Cond.code yX12_layBests cX12_layBests 4 none ∈ wAll := w_in (k := 1889) (by decide +kernel) rfl
theorem q1890 : Cond.methodLink RX12 357 yX12_shareOf ∈ wAll := w_in (k := 1890) (by decide +kernel) rfl
theorem q1892 : Cond.instanceMethod yX12_shareOf ∈ wAll := w_in (k := 1892) (by decide +kernel) rfl
theorem q1893 : Cond.code yX12_shareOf cX12_shareOf 3 (some .int) ∈ wAll := w_in (k := 1893) (by decide +kernel) rfl
theorem q1894 : Cond.methodLink RX12 363 yX12_isInWith ∈ wAll := w_in (k := 1894) (by decide +kernel) rfl
theorem q1896 : Cond.instanceMethod yX12_isInWith ∈ wAll := w_in (k := 1896) (by decide +kernel) rfl
theorem q1897 : Cond.code yX12_isInWith cX12_isInWith 4 (some .boolean) ∈ wAll := w_in (k := 1897) (by decide +kernel) rfl
theorem q1899 : Cond.instanceMethod yX12_displaced ∈ wAll := w_in (k := 1899) (by decide +kernel) rfl
theorem q1900 : Cond.selects RX12 yX12_displaced yX12_displaced ∈ wAll := w_in (k := 1900) (by decide +kernel) rfl
theorem q1901 : Cond.code yX12_displaced cX12_displaced 3 (some .int) ∈ wAll := w_in (k := 1901) (by decide +kernel) rfl
theorem q1902 : Cond.methodLink RX12 366 yX12_threshold ∈ wAll := w_in (k := 1902) (by decide +kernel) rfl
theorem q1904 : Cond.instanceMethod yX12_gained ∈ wAll := w_in (k := 1904) (by decide +kernel) rfl
theorem q1905 : Cond.selects RX12 yX12_gained yX12_gained ∈ wAll := w_in (k := 1905) (by decide +kernel) rfl
theorem q1906 : Cond.code yX12_gained cX12_gained 2 (some .int) ∈ wAll := w_in (k := 1906) (by decide +kernel) rfl
theorem q1908 : Cond.instanceMethod yX12_foretold ∈ wAll := w_in (k := 1908) (by decide +kernel) rfl
theorem q1909 : Cond.selects RX12 yX12_foretold yX12_foretold ∈ wAll := w_in (k := 1909) (by decide +kernel) rfl
theorem q1910 : Cond.code yX12_foretold cX12_foretold 4 (some .int) ∈ wAll := w_in (k := 1910) (by decide +kernel) rfl
theorem q1911 : Cond.methodLink RX12 369 yX12_putAside ∈ wAll := w_in (k := 1911) (by decide +kernel) rfl
theorem q1913 : Cond.instanceMethod yX12_putAside ∈ wAll := w_in (k := 1913) (by decide +kernel) rfl
theorem q1914 : Cond.code yX12_putAside cX12_putAside 2 none ∈ wAll := w_in (k := 1914) (by decide +kernel) rfl
theorem q1915 : Cond.methodLink RX12 372 yX12_bringBack ∈ wAll := w_in (k := 1915) (by decide +kernel) rfl
theorem q1917 : Cond.instanceMethod yX12_bringBack ∈ wAll := w_in (k := 1917) (by decide +kernel) rfl
theorem q1918 : Cond.code yX12_bringBack cX12_bringBack 2 none ∈ wAll := w_in (k := 1918) (by decide +kernel) rfl
theorem q1920 : Cond.instanceMethod yX12_copies ∈ wAll := w_in (k := 1920) (by decide +kernel) rfl
theorem q1921 : Cond.selects RX12 yX12_copies yX12_copies ∈ wAll := w_in (k := 1921) (by decide +kernel) rfl
theorem q1922 : Cond.code yX12_copies cX12_copies 4 (some .int) ∈ wAll := w_in (k := 1922) (by decide +kernel) rfl
theorem q1924 : Cond.instanceMethod yX12_would ∈ wAll := w_in (k := 1924) (by decide +kernel) rfl
theorem q1925 : Cond.selects RX12 yX12_would yX12_would ∈ wAll := w_in (k := 1925) (by decide +kernel) rfl
theorem q1926 : Cond.code yX12_would cX12_would 4 (some .int) ∈ wAll := w_in (k := 1926) (by decide +kernel) rfl
theorem q1928 : Cond.instanceMethod yX12_cheapest ∈ wAll := w_in (k := 1928) (by decide +kernel) rfl
theorem q1929 : Cond.selects RX12 yX12_cheapest yX12_cheapest ∈ wAll := w_in (k := 1929) (by decide +kernel) rfl
theorem q1930 : Cond.code yX12_cheapest cX12_cheapest 5 (some .int) ∈ wAll := w_in (k := 1930) (by decide +kernel) rfl
theorem q1931 : Cond.methodLink RX12 375 yX12_would ∈ wAll := w_in (k := 1931) (by decide +kernel) rfl
theorem q1933 : Cond.instanceMethod yX12_rank ∈ wAll := w_in (k := 1933) (by decide +kernel) rfl
theorem q1934 : Cond.selects RX12 yX12_rank yX12_rank ∈ wAll := w_in (k := 1934) (by decide +kernel) rfl
theorem q1935 : Cond.code yX12_rank cX12_rank 5 (some .int) ∈ wAll := w_in (k := 1935) (by decide +kernel) rfl
theorem q1936 : Cond.methodLink RX12 378 yX12_isHotter ∈ wAll := w_in (k := 1936) (by decide +kernel) rfl
theorem q1938 : Cond.instanceMethod yX12_isHotter ∈ wAll := w_in (k := 1938) (by decide +kernel) rfl
theorem q1939 : Cond.code yX12_isHotter cX12_isHotter 3 (some .boolean) ∈ wAll := w_in (k := 1939) (by decide +kernel) rfl
theorem q1941 : Cond.instanceMethod yX12_coldest ∈ wAll := w_in (k := 1941) (by decide +kernel) rfl
theorem q1942 : Cond.selects RX12 yX12_coldest yX12_coldest ∈ wAll := w_in (k := 1942) (by decide +kernel) rfl
theorem q1943 : Cond.code yX12_coldest cX12_coldest 4 (some .int) ∈ wAll := w_in (k := 1943) (by decide +kernel) rfl
theorem q1945 : Cond.instanceMethod yX12_warmth ∈ wAll := w_in (k := 1945) (by decide +kernel) rfl
theorem q1946 : Cond.selects RX12 yX12_warmth yX12_warmth ∈ wAll := w_in (k := 1946) (by decide +kernel) rfl
theorem q1947 : Cond.code yX12_warmth cX12_warmth 4 (some .int) ∈ wAll := w_in (k := 1947) (by decide +kernel) rfl
theorem q1949 : Cond.instanceMethod yX12_cools ∈ wAll := w_in (k := 1949) (by decide +kernel) rfl
theorem q1950 : Cond.selects RX12 yX12_cools yX12_cools ∈ wAll := w_in (k := 1950) (by decide +kernel) rfl
theorem q1951 : Cond.code yX12_cools cX12_cools 4 (some .int) ∈ wAll := w_in (k := 1951) (by decide +kernel) rfl
theorem q1981 : Cond.instanceMethod yX12_book ∈ wAll := w_in (k := 1981) (by decide +kernel) rfl
theorem q1982 : Cond.selects RX12 yX12_book yX12_book ∈ wAll := w_in (k := 1982) (by decide +kernel) rfl
theorem q1983 : Cond.code yX12_book cX12_book 3 (some .int) ∈ wAll := w_in (k := 1983) (by decide +kernel) rfl
theorem q1985 : Cond.instanceMethod yX12_ledger ∈ wAll := w_in (k := 1985) (by decide +kernel) rfl
theorem q1986 : Cond.selects RX12 yX12_ledger yX12_ledger ∈ wAll := w_in (k := 1986) (by decide +kernel) rfl
theorem q1987 : Cond.code yX12_ledger cX12_ledger 4 (some .int) ∈ wAll := w_in (k := 1987) (by decide +kernel) rfl
theorem q1997 : Cond.instanceMethod yX12_about ∈ wAll := w_in (k := 1997) (by decide +kernel) rfl
theorem q1998 : Cond.selects RX12 yX12_about yX12_about ∈ wAll := w_in (k := 1998) (by decide +kernel) rfl
theorem q1999 : Cond.code yX12_about cX12_about 2 (some .int) ∈ wAll := w_in (k := 1999) (by decide +kernel) rfl
theorem okX12_isIn : gYS yX12_isIn cX12_isIn 3 (some .boolean) 3 := ⟨q1447, q1448, q179, ⟨by decide +kernel, by decide +kernel, by decide +kernel⟩, by decide⟩
theorem okX12_isExtent : gYS yX12_isExtent cX12_isExtent 1 (some .boolean) 1 := ⟨q1534, q1535, q179, ⟨by decide +kernel, by decide +kernel, by decide +kernel⟩, by decide⟩
theorem okX12_has : gYS yX12_has cX12_has 2 (some .boolean) 2 := ⟨q1675, q1676, q179, ⟨by decide +kernel, by decide +kernel, by decide +kernel⟩, by decide⟩
theorem okX12_bitsOf : gYS yX12_bitsOf cX12_bitsOf 3 (some .int) 1 := ⟨q1706, q1707, q179, ⟨by decide +kernel, by decide +kernel, by decide +kernel⟩, by decide⟩
theorem okX12_sizeOf : gYS yX12_sizeOf cX12_sizeOf 1 (some .int) 1 := ⟨q1537, q1538, q179, ⟨by decide +kernel, by decide +kernel, by decide +kernel⟩, by decide⟩
theorem okX12_firstOf : gYS yX12_firstOf cX12_firstOf 1 (some .int) 1 := ⟨q1556, q1557, q179, ⟨by decide +kernel, by decide +kernel, by decide +kernel⟩, by decide⟩
theorem okX12_isBlock : gYS yX12_isBlock cX12_isBlock 2 (some .boolean) 2 := ⟨q1531, q1532, q179, ⟨by decide +kernel, by decide +kernel, by decide +kernel⟩, by decide⟩
theorem okX12_isFast : gYV yX12_isFast cX12_isFast 2 (some .boolean) 1 := ⟨q1553, q111, q1554, q179, ⟨by decide +kernel, by decide +kernel, by decide +kernel⟩, by decide⟩
theorem okX12_slotOf : gYV yX12_slotOf cX12_slotOf 3 (some .int) 2 := ⟨q1572, q115, q1573, q179, ⟨by decide +kernel, by decide +kernel, by decide +kernel⟩, by decide⟩
theorem okX12_four : gYV yX12_four cX12_four 3 none 1 := ⟨q1440, q94, q1441, q179, ⟨by decide +kernel, by decide +kernel, by decide +kernel⟩, by decide⟩
theorem okX12_feed : gYV yX12_feed cX12_feed 6 (some .int) 5 := ⟨q1435, q1436, q1437, q179, ⟨by decide +kernel, by decide +kernel, by decide +kernel⟩, by decide⟩
theorem okX12_end : gYV yX12_end cX12_end 2 (some .int) 1 := ⟨q1443, q1444, q1445, q179, ⟨by decide +kernel, by decide +kernel, by decide +kernel⟩, by decide⟩
theorem okX12_byteAt : gYV yX12_byteAt cX12_byteAt 2 (some .int) 1 := ⟨q1463, q97, q1464, q179, ⟨by decide +kernel, by decide +kernel, by decide +kernel⟩, by decide⟩
theorem okX12_isLetterByte : gYS yX12_isLetterByte cX12_isLetterByte 1 (some .boolean) 1 := ⟨q1470, q1471, q179, ⟨by decide +kernel, by decide +kernel, by decide +kernel⟩, by decide⟩
theorem okX12_isFigure : gYS yX12_isFigure cX12_isFigure 1 (some .boolean) 1 := ⟨q1466, q1467, q179, ⟨by decide +kernel, by decide +kernel, by decide +kernel⟩, by decide⟩
theorem okX12_isSign : gYS yX12_isSign cX12_isSign 1 (some .boolean) 1 := ⟨q1481, q1482, q179, ⟨by decide +kernel, by decide +kernel, by decide +kernel⟩, by decide⟩
theorem okX12_isWord : gYV yX12_isWord cX12_isWord 9 (some .boolean) 8 := ⟨q1478, q99, q1479, q179, ⟨by decide +kernel, by decide +kernel, by decide +kernel⟩, by decide⟩
theorem okX12_wordOf : gYV yX12_wordOf cX12_wordOf 3 (some .int) 2 := ⟨q1474, q98, q1475, q179, ⟨by decide +kernel, by decide +kernel, by decide +kernel⟩, by decide⟩
theorem okX12_nextToken : gYV yX12_nextToken cX12_nextToken 3 none 0 := ⟨q1459, q96, q1460, q179, ⟨by decide +kernel, by decide +kernel, by decide +kernel⟩, by decide⟩
theorem okX12_one : gYV yX12_one cX12_one 2 (some .int) 1 := ⟨q1501, q104, q1502, q179, ⟨by decide +kernel, by decide +kernel, by decide +kernel⟩, by decide⟩
theorem okX12_summed : gYV yX12_summed cX12_summed 3 (some .int) 1 := ⟨q1497, q103, q1498, q179, ⟨by decide +kernel, by decide +kernel, by decide +kernel⟩, by decide⟩
theorem okX12_sums : gYV yX12_sums cX12_sums 5 (some .int) 2 := ⟨q1493, q102, q1494, q179, ⟨by decide +kernel, by decide +kernel, by decide +kernel⟩, by decide⟩
theorem okX12_opened : gYV yX12_opened cX12_opened 2 (some .int) 1 := ⟨q1509, q106, q1510, q179, ⟨by decide +kernel, by decide +kernel, by decide +kernel⟩, by decide⟩
theorem okX12_closed : gYV yX12_closed cX12_closed 1 none 0 := ⟨q1485, q100, q1486, q179, ⟨by decide +kernel, by decide +kernel, by decide +kernel⟩, by decide⟩
theorem okX12_loopHead : gYV yX12_loopHead cX12_loopHead 1 (some .int) 0 := ⟨q1505, q105, q1506, q179, ⟨by decide +kernel, by decide +kernel, by decide +kernel⟩, by decide⟩
theorem okX12_choiceHead : gYV yX12_choiceHead cX12_choiceHead 2 (some .int) 0 := ⟨q1513, q107, q1514, q179, ⟨by decide +kernel, by decide +kernel, by decide +kernel⟩, by decide⟩
theorem okX12_statement : gYV yX12_statement cX12_statement 2 (some .int) 0 := ⟨q1489, q101, q1490, q179, ⟨by decide +kernel, by decide +kernel, by decide +kernel⟩, by decide⟩
theorem okX12_readText : gYV yX12_readText cX12_readText 2 (some .int) 0 := ⟨q1455, q95, q1456, q179, ⟨by decide +kernel, by decide +kernel, by decide +kernel⟩, by decide⟩
theorem okX12_text : gYV yX12_text cX12_text 1 (some .int) 0 := ⟨q1450, q1451, q1452, q179, ⟨by decide +kernel, by decide +kernel, by decide +kernel⟩, by decide⟩
theorem okX12_fault : gYV yX12_fault cX12_fault 2 (some .int) 1 := ⟨q1516, q1517, q1518, q179, ⟨by decide +kernel, by decide +kernel, by decide +kernel⟩, by decide⟩
theorem okX12_writeDown : gYV yX12_writeDown cX12_writeDown 5 none 3 := ⟨q1600, q119, q1601, q179, ⟨by decide +kernel, by decide +kernel, by decide +kernel⟩, by decide⟩
theorem okX12_headAt : gYV yX12_headAt cX12_headAt 3 (some .int) 1 := ⟨q1564, q113, q1565, q179, ⟨by decide +kernel, by decide +kernel, by decide +kernel⟩, by decide⟩
theorem okX12_outHead : gYV yX12_outHead cX12_outHead 3 none 1 := ⟨q1568, q114, q1569, q179, ⟨by decide +kernel, by decide +kernel, by decide +kernel⟩, by decide⟩
theorem okX12_headed : gYV yX12_headed cX12_headed 4 (some .int) 1 := ⟨q1560, q112, q1561, q179, ⟨by decide +kernel, by decide +kernel, by decide +kernel⟩, by decide⟩
theorem okX12_access : gYV yX12_access cX12_access 6 none 5 := ⟨q1549, q110, q1550, q179, ⟨by decide +kernel, by decide +kernel, by decide +kernel⟩, by decide⟩
theorem okX12_readNow : gYV yX12_readNow cX12_readNow 3 (some .int) 2 := ⟨q1545, q109, q1546, q179, ⟨by decide +kernel, by decide +kernel, by decide +kernel⟩, by decide⟩
theorem okX12_moveAt : gYV yX12_moveAt cX12_moveAt 3 (some .int) 1 := ⟨q1584, q117, q1585, q179, ⟨by decide +kernel, by decide +kernel, by decide +kernel⟩, by decide⟩
theorem okX12_writeNow : gYV yX12_writeNow cX12_writeNow 5 (some .int) 3 := ⟨q1580, q116, q1581, q179, ⟨by decide +kernel, by decide +kernel, by decide +kernel⟩, by decide⟩
theorem okX12_ofMove : gYV yX12_ofMove cX12_ofMove 3 (some .int) 2 := ⟨q1624, q122, q1625, q179, ⟨by decide +kernel, by decide +kernel, by decide +kernel⟩, by decide⟩
theorem okX12_addMove : gYV yX12_addMove cX12_addMove 3 none 1 := ⟨q1612, q120, q1613, q179, ⟨by decide +kernel, by decide +kernel, by decide +kernel⟩, by decide⟩
theorem okX12_outMove : gYV yX12_outMove cX12_outMove 3 none 1 := ⟨q1632, q124, q1633, q179, ⟨by decide +kernel, by decide +kernel, by decide +kernel⟩, by decide⟩
theorem okX12_freeSlots : gYV yX12_freeSlots cX12_freeSlots 3 none 1 := ⟨q1628, q123, q1629, q179, ⟨by decide +kernel, by decide +kernel, by decide +kernel⟩, by decide⟩
theorem okX12_holderOf : gYV yX12_holderOf cX12_holderOf 3 (some .int) 1 := ⟨q1664, q131, q1665, q179, ⟨by decide +kernel, by decide +kernel, by decide +kernel⟩, by decide⟩
theorem okX12_freeFrom : gYV yX12_freeFrom cX12_freeFrom 3 (some .int) 1 := ⟨q1660, q130, q1661, q179, ⟨by decide +kernel, by decide +kernel, by decide +kernel⟩, by decide⟩
theorem okX12_manyFree : gYV yX12_manyFree cX12_manyFree 3 (some .int) 0 := ⟨q1656, q129, q1657, q179, ⟨by decide +kernel, by decide +kernel, by decide +kernel⟩, by decide⟩
theorem okX12_dropMove : gYV yX12_dropMove cX12_dropMove 4 none 1 := ⟨q1620, q121, q1621, q179, ⟨by decide +kernel, by decide +kernel, by decide +kernel⟩, by decide⟩
theorem okX12_toCopy : gYV yX12_toCopy cX12_toCopy 3 (some .int) 1 := ⟨q1668, q132, q1669, q179, ⟨by decide +kernel, by decide +kernel, by decide +kernel⟩, by decide⟩
theorem okX12_isBegun : gYV yX12_isBegun cX12_isBegun 4 (some .boolean) 1 := ⟨q1652, q128, q1653, q179, ⟨by decide +kernel, by decide +kernel, by decide +kernel⟩, by decide⟩
theorem okX12_copyBlock : gYV yX12_copyBlock cX12_copyBlock 6 none 1 := ⟨q1672, q133, q1673, q179, ⟨by decide +kernel, by decide +kernel, by decide +kernel⟩, by decide⟩
theorem okX12_switchMove : gYV yX12_switchMove cX12_switchMove 4 none 1 := ⟨q1679, q134, q1680, q179, ⟨by decide +kernel, by decide +kernel, by decide +kernel⟩, by decide⟩
theorem okX12_goMoves : gYV yX12_goMoves cX12_goMoves 3 none 0 := ⟨q1648, q127, q1649, q179, ⟨by decide +kernel, by decide +kernel, by decide +kernel⟩, by decide⟩
theorem okX12_begunOf : gYV yX12_begunOf cX12_begunOf 3 (some .int) 1 := ⟨q1703, q140, q1704, q179, ⟨by decide +kernel, by decide +kernel, by decide +kernel⟩, by decide⟩
theorem okX12_copiedFor : gYV yX12_copiedFor cX12_copiedFor 3 (some .int) 2 := ⟨q1710, q141, q1711, q179, ⟨by decide +kernel, by decide +kernel, by decide +kernel⟩, by decide⟩
theorem okX12_mayBe : gYV yX12_mayBe cX12_mayBe 4 (some .boolean) 2 := ⟨q1699, q139, q1700, q179, ⟨by decide +kernel, by decide +kernel, by decide +kernel⟩, by decide⟩
theorem okX12_isAllowed : gYV yX12_isAllowed cX12_isAllowed 7 (some .boolean) 2 := ⟨q1695, q138, q1696, q179, ⟨by decide +kernel, by decide +kernel, by decide +kernel⟩, by decide⟩
theorem okX12_worthOf : gYV yX12_worthOf cX12_worthOf 4 (some .int) 1 := ⟨q1714, q142, q1715, q179, ⟨by decide +kernel, by decide +kernel, by decide +kernel⟩, by decide⟩
theorem okX12_bestSet : gYV yX12_bestSet cX12_bestSet 4 (some .int) 1 := ⟨q1691, q137, q1692, q179, ⟨by decide +kernel, by decide +kernel, by decide +kernel⟩, by decide⟩
theorem okX12_layNew : gYV yX12_layNew cX12_layNew 6 (some .int) 1 := ⟨q1720, q143, q1721, q179, ⟨by decide +kernel, by decide +kernel, by decide +kernel⟩, by decide⟩
theorem okX12_makePlan : gYV yX12_makePlan cX12_makePlan 5 none 0 := ⟨q1687, q136, q1688, q179, ⟨by decide +kernel, by decide +kernel, by decide +kernel⟩, by decide⟩
theorem okX12_endEpoch : gYV yX12_endEpoch cX12_endEpoch 2 none 0 := ⟨q1683, q135, q1684, q179, ⟨by decide +kernel, by decide +kernel, by decide +kernel⟩, by decide⟩
theorem okX12_tick : gYV yX12_tick cX12_tick 1 none 0 := ⟨q1644, q126, q1645, q179, ⟨by decide +kernel, by decide +kernel, by decide +kernel⟩, by decide⟩
theorem okX12_crashNow : gYV yX12_crashNow cX12_crashNow 4 (some .int) 0 := ⟨q1728, q144, q1729, q179, ⟨by decide +kernel, by decide +kernel, by decide +kernel⟩, by decide⟩
theorem okX12_scanNow : gYV yX12_scanNow cX12_scanNow 6 (some .int) 2 := ⟨q1592, q118, q1593, q179, ⟨by decide +kernel, by decide +kernel, by decide +kernel⟩, by decide⟩
theorem okX12_ticks : gYV yX12_ticks cX12_ticks 3 none 1 := ⟨q1640, q125, q1641, q179, ⟨by decide +kernel, by decide +kernel, by decide +kernel⟩, by decide⟩
theorem okX12_drawn : gYV yX12_drawn cX12_drawn 2 (some .int) 0 := ⟨q1796, q159, q1797, q179, ⟨by decide +kernel, by decide +kernel, by decide +kernel⟩, by decide⟩
theorem okX12_happens : gYV yX12_happens cX12_happens 3 none 1 := ⟨q1803, q160, q1804, q179, ⟨by decide +kernel, by decide +kernel, by decide +kernel⟩, by decide⟩
theorem okX12_tokenAt : gYV yX12_tokenAt cX12_tokenAt 2 (some .int) 1 := ⟨q1740, q146, q1741, q179, ⟨by decide +kernel, by decide +kernel, by decide +kernel⟩, by decide⟩
theorem okX12_numberAt : gYV yX12_numberAt cX12_numberAt 2 (some .int) 1 := ⟨q1756, q150, q1757, q179, ⟨by decide +kernel, by decide +kernel, by decide +kernel⟩, by decide⟩
theorem okX12_goOne : gYV yX12_goOne cX12_goOne 2 (some .int) 0 := ⟨q1776, q155, q1777, q179, ⟨by decide +kernel, by decide +kernel, by decide +kernel⟩, by decide⟩
theorem okX12_goProduct : gYV yX12_goProduct cX12_goProduct 2 (some .int) 0 := ⟨q1772, q154, q1773, q179, ⟨by decide +kernel, by decide +kernel, by decide +kernel⟩, by decide⟩
theorem okX12_goSum : gYV yX12_goSum cX12_goSum 2 (some .int) 0 := ⟨q1768, q153, q1769, q179, ⟨by decide +kernel, by decide +kernel, by decide +kernel⟩, by decide⟩
theorem okX12_isOver : gYV yX12_isOver cX12_isOver 1 (some .boolean) 0 := ⟨q1744, q147, q1745, q179, ⟨by decide +kernel, by decide +kernel, by decide +kernel⟩, by decide⟩
theorem okX12_goScan : gYV yX12_goScan cX12_goScan 5 none 2 := ⟨q1788, q158, q1789, q179, ⟨by decide +kernel, by decide +kernel, by decide +kernel⟩, by decide⟩
theorem okX12_passBlock : gYV yX12_passBlock cX12_passBlock 3 none 0 := ⟨q1780, q156, q1781, q179, ⟨by decide +kernel, by decide +kernel, by decide +kernel⟩, by decide⟩
theorem okX12_goInto : gYV yX12_goInto cX12_goInto 2 none 1 := ⟨q1760, q151, q1761, q179, ⟨by decide +kernel, by decide +kernel, by decide +kernel⟩, by decide⟩
theorem okX12_goAround : gYV yX12_goAround cX12_goAround 2 none 0 := ⟨q1752, q149, q1753, q179, ⟨by decide +kernel, by decide +kernel, by decide +kernel⟩, by decide⟩
theorem okX12_goChoice : gYV yX12_goChoice cX12_goChoice 4 none 0 := ⟨q1764, q152, q1765, q179, ⟨by decide +kernel, by decide +kernel, by decide +kernel⟩, by decide⟩
theorem okX12_goAct : gYV yX12_goAct cX12_goAct 4 none 1 := ⟨q1784, q157, q1785, q179, ⟨by decide +kernel, by decide +kernel, by decide +kernel⟩, by decide⟩
theorem okX12_goStatement : gYV yX12_goStatement cX12_goStatement 3 none 0 := ⟨q1748, q148, q1749, q179, ⟨by decide +kernel, by decide +kernel, by decide +kernel⟩, by decide⟩
theorem okX12_goText : gYV yX12_goText cX12_goText 2 (some .int) 1 := ⟨q1736, q145, q1737, q179, ⟨by decide +kernel, by decide +kernel, by decide +kernel⟩, by decide⟩
theorem okX12_putAside : gYV yX12_putAside cX12_putAside 2 none 0 := ⟨q1913, q164, q1914, q179, ⟨by decide +kernel, by decide +kernel, by decide +kernel⟩, by decide⟩
theorem okX12_bringBack : gYV yX12_bringBack cX12_bringBack 2 none 0 := ⟨q1917, q165, q1918, q179, ⟨by decide +kernel, by decide +kernel, by decide +kernel⟩, by decide⟩
theorem okX12_stepAt : gYS yX12_stepAt cX12_stepAt 2 (some .int) 2 := ⟨q1524, q1525, q179, ⟨by decide +kernel, by decide +kernel, by decide +kernel⟩, by decide⟩
theorem okX12_keep : gYV yX12_keep cX12_keep 3 none 0 := ⟨q1541, q108, q1542, q179, ⟨by decide +kernel, by decide +kernel, by decide +kernel⟩, by decide⟩
theorem okX12_undo : gYV yX12_undo cX12_undo 3 (some .int) 0 := ⟨q1520, q1521, q1522, q179, ⟨by decide +kernel, by decide +kernel, by decide +kernel⟩, by decide⟩
theorem okX12_read : gYV yX12_read cX12_read 3 (some .int) 2 := ⟨q1527, q1528, q1529, q179, ⟨by decide +kernel, by decide +kernel, by decide +kernel⟩, by decide⟩
theorem okX12_write : gYV yX12_write cX12_write 4 (some .int) 3 := ⟨q1575, q1576, q1577, q179, ⟨by decide +kernel, by decide +kernel, by decide +kernel⟩, by decide⟩
theorem okX12_scan : gYV yX12_scan cX12_scan 3 (some .int) 2 := ⟨q1587, q1588, q1589, q179, ⟨by decide +kernel, by decide +kernel, by decide +kernel⟩, by decide⟩
theorem okX12_pin : gYV yX12_pin cX12_pin 3 (some .boolean) 2 := ⟨q1595, q1596, q1597, q179, ⟨by decide +kernel, by decide +kernel, by decide +kernel⟩, by decide⟩
theorem okX12_tell : gYV yX12_tell cX12_tell 3 (some .boolean) 2 := ⟨q1603, q1604, q1605, q179, ⟨by decide +kernel, by decide +kernel, by decide +kernel⟩, by decide⟩
theorem okX12_ask : gYV yX12_ask cX12_ask 2 (some .int) 1 := ⟨q1607, q1608, q1609, q179, ⟨by decide +kernel, by decide +kernel, by decide +kernel⟩, by decide⟩
theorem okX12_drop : gYV yX12_drop cX12_drop 2 (some .int) 1 := ⟨q1615, q1616, q1617, q179, ⟨by decide +kernel, by decide +kernel, by decide +kernel⟩, by decide⟩
theorem okX12_day : gYV yX12_day cX12_day 2 (some .int) 1 := ⟨q1635, q1636, q1637, q179, ⟨by decide +kernel, by decide +kernel, by decide +kernel⟩, by decide⟩
theorem okX12_crash : gYV yX12_crash cX12_crash 1 (some .int) 0 := ⟨q1723, q1724, q1725, q179, ⟨by decide +kernel, by decide +kernel, by decide +kernel⟩, by decide⟩
theorem okX12_played : gYV yX12_played cX12_played 2 (some .int) 1 := ⟨q1731, q1732, q1733, q179, ⟨by decide +kernel, by decide +kernel, by decide +kernel⟩, by decide⟩
theorem okX12_years : gYV yX12_years cX12_years 4 (some .int) 2 := ⟨q1791, q1792, q1793, q179, ⟨by decide +kernel, by decide +kernel, by decide +kernel⟩, by decide⟩
theorem okX12_is : gYV yX12_is cX12_is 2 (some .int) 1 := ⟨q1806, q1807, q1808, q179, ⟨by decide +kernel, by decide +kernel, by decide +kernel⟩, by decide⟩
theorem okX12_where : gYV yX12_where cX12_where 2 (some .int) 1 := ⟨q1810, q1811, q1812, q179, ⟨by decide +kernel, by decide +kernel, by decide +kernel⟩, by decide⟩
theorem okX12_slot : gYV yX12_slot cX12_slot 3 (some .int) 2 := ⟨q1814, q1815, q1816, q179, ⟨by decide +kernel, by decide +kernel, by decide +kernel⟩, by decide⟩
theorem okX12_on : gYV yX12_on cX12_on 3 (some .int) 2 := ⟨q1818, q1819, q1820, q179, ⟨by decide +kernel, by decide +kernel, by decide +kernel⟩, by decide⟩
theorem okX12_holder : gYV yX12_holder cX12_holder 2 (some .int) 1 := ⟨q1822, q1823, q1824, q179, ⟨by decide +kernel, by decide +kernel, by decide +kernel⟩, by decide⟩
theorem okX12_free : gYV yX12_free cX12_free 2 (some .int) 1 := ⟨q1826, q1827, q1828, q179, ⟨by decide +kernel, by decide +kernel, by decide +kernel⟩, by decide⟩
theorem okX12_position : gYV yX12_position cX12_position 3 (some .int) 2 := ⟨q1830, q1831, q1832, q179, ⟨by decide +kernel, by decide +kernel, by decide +kernel⟩, by decide⟩
theorem okX12_heat : gYV yX12_heat cX12_heat 2 (some .int) 1 := ⟨q1834, q1835, q1836, q179, ⟨by decide +kernel, by decide +kernel, by decide +kernel⟩, by decide⟩
theorem okX12_of : gYV yX12_of cX12_of 3 (some .int) 2 := ⟨q1838, q1839, q1840, q179, ⟨by decide +kernel, by decide +kernel, by decide +kernel⟩, by decide⟩
theorem okX12_head : gYV yX12_head cX12_head 3 (some .int) 2 := ⟨q1842, q1843, q1844, q179, ⟨by decide +kernel, by decide +kernel, by decide +kernel⟩, by decide⟩
theorem okX12_move : gYV yX12_move cX12_move 3 (some .int) 2 := ⟨q1846, q1847, q1848, q179, ⟨by decide +kernel, by decide +kernel, by decide +kernel⟩, by decide⟩
theorem okX12_moveOf : gYV yX12_moveOf cX12_moveOf 2 (some .int) 1 := ⟨q1850, q1851, q1852, q179, ⟨by decide +kernel, by decide +kernel, by decide +kernel⟩, by decide⟩
theorem okX12_plan : gYV yX12_plan cX12_plan 1 (some .int) 0 := ⟨q1854, q1855, q1856, q179, ⟨by decide +kernel, by decide +kernel, by decide +kernel⟩, by decide⟩
theorem okX12_worth : gYV yX12_worth cX12_worth 2 (some .int) 1 := ⟨q1858, q1859, q1860, q179, ⟨by decide +kernel, by decide +kernel, by decide +kernel⟩, by decide⟩
theorem okX12_value : gYV yX12_value cX12_value 2 (some .int) 1 := ⟨q1863, q1864, q1865, q179, ⟨by decide +kernel, by decide +kernel, by decide +kernel⟩, by decide⟩
theorem okX12_may : gYV yX12_may cX12_may 4 (some .boolean) 2 := ⟨q1867, q1868, q1869, q179, ⟨by decide +kernel, by decide +kernel, by decide +kernel⟩, by decide⟩
theorem okX12_next : gYV yX12_next cX12_next 3 (some .int) 1 := ⟨q1871, q1872, q1873, q179, ⟨by decide +kernel, by decide +kernel, by decide +kernel⟩, by decide⟩
theorem okX12_enough : gYV yX12_enough cX12_enough 3 (some .int) 0 := ⟨q1875, q1876, q1877, q179, ⟨by decide +kernel, by decide +kernel, by decide +kernel⟩, by decide⟩
theorem okX12_needs : gYV yX12_needs cX12_needs 4 (some .int) 1 := ⟨q1879, q1880, q1881, q179, ⟨by decide +kernel, by decide +kernel, by decide +kernel⟩, by decide⟩
theorem okX12_shareOf : gYV yX12_shareOf cX12_shareOf 3 (some .int) 2 := ⟨q1892, q162, q1893, q179, ⟨by decide +kernel, by decide +kernel, by decide +kernel⟩, by decide⟩
theorem okX12_layBests : gYV yX12_layBests cX12_layBests 4 none 1 := ⟨q1888, q161, q1889, q179, ⟨by decide +kernel, by decide +kernel, by decide +kernel⟩, by decide⟩
theorem okX12_isInWith : gYV yX12_isInWith cX12_isInWith 4 (some .boolean) 2 := ⟨q1896, q163, q1897, q179, ⟨by decide +kernel, by decide +kernel, by decide +kernel⟩, by decide⟩
theorem okX12_threshold : gYV yX12_threshold cX12_threshold 3 (some .int) 1 := ⟨q1883, q1884, q1885, q179, ⟨by decide +kernel, by decide +kernel, by decide +kernel⟩, by decide⟩
theorem okX12_displaced : gYV yX12_displaced cX12_displaced 3 (some .int) 1 := ⟨q1899, q1900, q1901, q179, ⟨by decide +kernel, by decide +kernel, by decide +kernel⟩, by decide⟩
theorem okX12_gained : gYV yX12_gained cX12_gained 2 (some .int) 1 := ⟨q1904, q1905, q1906, q179, ⟨by decide +kernel, by decide +kernel, by decide +kernel⟩, by decide⟩
theorem okX12_foretold : gYV yX12_foretold cX12_foretold 4 (some .int) 2 := ⟨q1908, q1909, q1910, q179, ⟨by decide +kernel, by decide +kernel, by decide +kernel⟩, by decide⟩
theorem okX12_copies : gYV yX12_copies cX12_copies 4 (some .int) 1 := ⟨q1920, q1921, q1922, q179, ⟨by decide +kernel, by decide +kernel, by decide +kernel⟩, by decide⟩
theorem okX12_would : gYV yX12_would cX12_would 4 (some .int) 1 := ⟨q1924, q1925, q1926, q179, ⟨by decide +kernel, by decide +kernel, by decide +kernel⟩, by decide⟩
theorem okX12_cheapest : gYV yX12_cheapest cX12_cheapest 5 (some .int) 0 := ⟨q1928, q1929, q1930, q179, ⟨by decide +kernel, by decide +kernel, by decide +kernel⟩, by decide⟩
theorem okX12_isHotter : gYV yX12_isHotter cX12_isHotter 3 (some .boolean) 2 := ⟨q1938, q166, q1939, q179, ⟨by decide +kernel, by decide +kernel, by decide +kernel⟩, by decide⟩
theorem okX12_rank : gYV yX12_rank cX12_rank 5 (some .int) 1 := ⟨q1933, q1934, q1935, q179, ⟨by decide +kernel, by decide +kernel, by decide +kernel⟩, by decide⟩
theorem okX12_coldest : gYV yX12_coldest cX12_coldest 4 (some .int) 1 := ⟨q1941, q1942, q1943, q179, ⟨by decide +kernel, by decide +kernel, by decide +kernel⟩, by decide⟩
theorem okX12_warmth : gYV yX12_warmth cX12_warmth 4 (some .int) 1 := ⟨q1945, q1946, q1947, q179, ⟨by decide +kernel, by decide +kernel, by decide +kernel⟩, by decide⟩
theorem okX12_cools : gYV yX12_cools cX12_cools 4 (some .int) 1 := ⟨q1949, q1950, q1951, q179, ⟨by decide +kernel, by decide +kernel, by decide +kernel⟩, by decide⟩
theorem okX12_book : gYV yX12_book cX12_book 3 (some .int) 2 := ⟨q1981, q1982, q1983, q179, ⟨by decide +kernel, by decide +kernel, by decide +kernel⟩, by decide⟩
theorem okX12_ledger : gYV yX12_ledger cX12_ledger 4 (some .int) 1 := ⟨q1985, q1986, q1987, q179, ⟨by decide +kernel, by decide +kernel, by decide +kernel⟩, by decide⟩
theorem okX12_about : gYV yX12_about cX12_about 2 (some .int) 1 := ⟨q1997, q1998, q1999, q179, ⟨by decide +kernel, by decide +kernel, by decide +kernel⟩, by decide⟩
theorem okX0_copyFrom : gYV yX0_copyFrom cX0_copyFrom 2 none 1 := ⟨q800, q26, q801, q174, ⟨by decide +kernel, by decide +kernel, by decide +kernel⟩, by decide⟩
theorem okX0_add : gYV yX0_add cX0_add 6 none 4 := ⟨q862, q37, q863, q174, ⟨by decide +kernel, by decide +kernel, by decide +kernel⟩, by decide⟩
theorem okX0_detail : gYV yX0_detail cX0_detail 3 (some .int) 2 := ⟨q1317, q91, q1318, q174, ⟨by decide +kernel, by decide +kernel, by decide +kernel⟩, by decide⟩
theorem okX0_linesOf : gYV yX0_linesOf cX0_linesOf 4 (some .int) 1 := ⟨q1325, q92, q1326, q174, ⟨by decide +kernel, by decide +kernel, by decide +kernel⟩, by decide⟩
theorem okX1_copyFrom : gYV yX1_copyFrom cX1_copyFrom 2 none 1 := ⟨q785, q23, q786, q171, ⟨by decide +kernel, by decide +kernel, by decide +kernel⟩, by decide⟩
theorem okX1_lowestFree : gYV yX1_lowestFree cX1_lowestFree 3 (some .int) 1 := ⟨q1147, q81, q1148, q171, ⟨by decide +kernel, by decide +kernel, by decide +kernel⟩, by decide⟩
theorem okX1_freeSlots : gYV yX1_freeSlots cX1_freeSlots 3 (some .int) 0 := ⟨q928, q47, q929, q171, ⟨by decide +kernel, by decide +kernel, by decide +kernel⟩, by decide⟩
theorem okX1_takeSlots : gYV yX1_takeSlots cX1_takeSlots 5 none 1 := ⟨q932, q48, q933, q171, ⟨by decide +kernel, by decide +kernel, by decide +kernel⟩, by decide⟩
theorem okX1_leaveSlots : gYV yX1_leaveSlots cX1_leaveSlots 4 none 1 := ⟨q894, q41, q895, q171, ⟨by decide +kernel, by decide +kernel, by decide +kernel⟩, by decide⟩
theorem okX1_fastAt : gYV yX1_fastAt cX1_fastAt 3 (some .int) 1 := ⟨q824, q31, q825, q171, ⟨by decide +kernel, by decide +kernel, by decide +kernel⟩, by decide⟩
theorem okX1_putFast : gYV yX1_putFast cX1_putFast 4 none 2 := ⟨q836, q33, q837, q171, ⟨by decide +kernel, by decide +kernel, by decide +kernel⟩, by decide⟩
theorem okX2_copyFrom : gYV yX2_copyFrom cX2_copyFrom 2 none 1 := ⟨q780, q22, q781, q170, ⟨by decide +kernel, by decide +kernel, by decide +kernel⟩, by decide⟩
theorem okX2_warm : gYV yX2_warm cX2_warm 3 none 2 := ⟨q819, q30, q820, q170, ⟨by decide +kernel, by decide +kernel, by decide +kernel⟩, by decide⟩
theorem okX2_age : gYV yX2_age cX2_age 2 none 0 := ⟨q1015, q61, q1016, q170, ⟨by decide +kernel, by decide +kernel, by decide +kernel⟩, by decide⟩
theorem okX2_allBlocks : gYS yX2_allBlocks cX2_allBlocks 1 (some .int) 1 := ⟨q943, q944, q170, ⟨by decide +kernel, by decide +kernel, by decide +kernel⟩, by decide⟩
theorem okX2_forget : gYV yX2_forget cX2_forget 2 none 0 := ⟨q1027, q63, q1028, q170, ⟨by decide +kernel, by decide +kernel, by decide +kernel⟩, by decide⟩
theorem okX2_hotter : gYV yX2_hotter cX2_hotter 3 (some .boolean) 2 := ⟨q1010, q60, q1011, q170, ⟨by decide +kernel, by decide +kernel, by decide +kernel⟩, by decide⟩
theorem okX2_hotterThan : gYV yX2_hotterThan cX2_hotterThan 4 (some .int) 1 := ⟨q1279, q90, q1280, q170, ⟨by decide +kernel, by decide +kernel, by decide +kernel⟩, by decide⟩
theorem okX2_detail : gYV yX2_detail cX2_detail 3 (some .int) 2 := ⟨q1163, q82, q1164, q170, ⟨by decide +kernel, by decide +kernel, by decide +kernel⟩, by decide⟩
theorem okX3_copyFrom : gYV yX3_copyFrom cX3_copyFrom 2 none 1 := ⟨q790, q24, q791, q172, ⟨by decide +kernel, by decide +kernel, by decide +kernel⟩, by decide⟩
theorem okX3_advance : gYV yX3_advance cX3_advance 5 (some .int) 1 := ⟨q815, q29, q816, q172, ⟨by decide +kernel, by decide +kernel, by decide +kernel⟩, by decide⟩
theorem okX3_detail : gYV yX3_detail cX3_detail 3 (some .int) 2 := ⟨q1171, q83, q1172, q172, ⟨by decide +kernel, by decide +kernel, by decide +kernel⟩, by decide⟩
theorem okX5_copyFrom : gYV yX5_copyFrom cX5_copyFrom 2 none 1 := ⟨q795, q25, q796, q173, ⟨by decide +kernel, by decide +kernel, by decide +kernel⟩, by decide⟩
theorem okX5_find : gYV yX5_find cX5_find 3 (some .int) 1 := ⟨q840, q34, q841, q173, ⟨by decide +kernel, by decide +kernel, by decide +kernel⟩, by decide⟩
theorem okX5_add : gYV yX5_add cX5_add 3 none 2 := ⟨q878, q38, q879, q173, ⟨by decide +kernel, by decide +kernel, by decide +kernel⟩, by decide⟩
theorem okX5_remove : gYV yX5_remove cX5_remove 2 none 1 := ⟨q900, q42, q901, q173, ⟨by decide +kernel, by decide +kernel, by decide +kernel⟩, by decide⟩
theorem okX5_holdsSlots : gYV yX5_holdsSlots cX5_holdsSlots 2 (some .boolean) 1 := ⟨q890, q40, q891, q173, ⟨by decide +kernel, by decide +kernel, by decide +kernel⟩, by decide⟩
theorem okX5_detail : gYV yX5_detail cX5_detail 3 (some .int) 2 := ⟨q1180, q84, q1181, q173, ⟨by decide +kernel, by decide +kernel, by decide +kernel⟩, by decide⟩
theorem okX6_bind : gYV yX6_bind cX6_bind 4 none 1 := ⟨q973, q57, q974, q176, ⟨by decide +kernel, by decide +kernel, by decide +kernel⟩, by decide⟩
theorem okJ6_bitCount_0f7a4 : gYS yJ6_bitCount_0f7a4 cJ6_bitCount_0f7a4 1 (some .int) 1 := ⟨q979, q980, q187, ⟨by decide +kernel, by decide +kernel, by decide +kernel⟩, by decide⟩
theorem okX6_isWanted : gYS yX6_isWanted cX6_isWanted 2 (some .boolean) 2 := ⟨q976, q977, q176, ⟨by decide +kernel, by decide +kernel, by decide +kernel⟩, by decide⟩
theorem okX6_heatWorth : gYS yX6_heatWorth cX6_heatWorth 2 (some .int) 2 := ⟨q986, q987, q176, ⟨by decide +kernel, by decide +kernel, by decide +kernel⟩, by decide⟩
theorem okX6_pinWorth : gYS yX6_pinWorth cX6_pinWorth 1 (some .int) 1 := ⟨q989, q990, q176, ⟨by decide +kernel, by decide +kernel, by decide +kernel⟩, by decide⟩
theorem okX6_weigh : gYV yX6_weigh cX6_weigh 7 none 2 := ⟨q969, q56, q970, q176, ⟨by decide +kernel, by decide +kernel, by decide +kernel⟩, by decide⟩
theorem okX6_search : gYS yX6_search cX6_search 8 none 6 := ⟨q999, q1000, q176, ⟨by decide +kernel, by decide +kernel, by decide +kernel⟩, by decide⟩
theorem okX6_choose : gYV yX6_choose cX6_choose 1 (some .boolean) 0 := ⟨q995, q58, q996, q176, ⟨by decide +kernel, by decide +kernel, by decide +kernel⟩, by decide⟩
theorem okX6_makeFor : gYV yX6_makeFor cX6_makeFor 3 none 2 := ⟨q965, q55, q966, q176, ⟨by decide +kernel, by decide +kernel, by decide +kernel⟩, by decide⟩
theorem okX6_force : gYV yX6_force cX6_force 3 none 2 := ⟨q1228, q89, q1229, q176, ⟨by decide +kernel, by decide +kernel, by decide +kernel⟩, by decide⟩
theorem okX6_isIn : gYS yX6_isIn cX6_isIn 2 (some .boolean) 2 := ⟨q1006, q1007, q176, ⟨by decide +kernel, by decide +kernel, by decide +kernel⟩, by decide⟩
theorem okX6_needOf : gYV yX6_needOf cX6_needOf 4 (some .int) 1 := ⟨q1207, q86, q1208, q176, ⟨by decide +kernel, by decide +kernel, by decide +kernel⟩, by decide⟩
theorem okX6_allows : gYV yX6_allows cX6_allows 5 (some .boolean) 1 := ⟨q1203, q85, q1204, q176, ⟨by decide +kernel, by decide +kernel, by decide +kernel⟩, by decide⟩
theorem okX6_worthOf : gYV yX6_worthOf cX6_worthOf 4 (some .int) 1 := ⟨q1211, q87, q1212, q176, ⟨by decide +kernel, by decide +kernel, by decide +kernel⟩, by decide⟩
theorem okX6_listMoves : gYV yX6_listMoves cX6_listMoves 5 none 1 := ⟨q1003, q59, q1004, q176, ⟨by decide +kernel, by decide +kernel, by decide +kernel⟩, by decide⟩
theorem okX6_leastHeatOfWorth : gYS yX6_leastHeatOfWorth cX6_leastHeatOfWorth 6 (some .int) 2 := ⟨q1231, q1232, q176, ⟨by decide +kernel, by decide +kernel, by decide +kernel⟩, by decide⟩
theorem okX6_leastHeat : gYV yX6_leastHeat cX6_leastHeat 9 (some .int) 2 := ⟨q1224, q88, q1225, q176, ⟨by decide +kernel, by decide +kernel, by decide +kernel⟩, by decide⟩
theorem okX9_kindAt : gYV yX9_kindAt cX9_kindAt 2 (some .int) 1 := ⟨q1049, q67, q1050, q185, ⟨by decide +kernel, by decide +kernel, by decide +kernel⟩, by decide⟩
theorem okX9_valueAt : gYV yX9_valueAt cX9_valueAt 2 (some .int) 1 := ⟨q1069, q72, q1070, q185, ⟨by decide +kernel, by decide +kernel, by decide +kernel⟩, by decide⟩
theorem okX7_factor : gYV yX7_factor cX7_factor 2 (some .int) 0 := ⟨q1065, q71, q1066, q177, ⟨by decide +kernel, by decide +kernel, by decide +kernel⟩, by decide⟩
theorem okX7_product : gYV yX7_product cX7_product 3 (some .int) 0 := ⟨q1061, q70, q1062, q177, ⟨by decide +kernel, by decide +kernel, by decide +kernel⟩, by decide⟩
theorem okX7_sum : gYV yX7_sum cX7_sum 3 (some .int) 0 := ⟨q1057, q69, q1058, q177, ⟨by decide +kernel, by decide +kernel, by decide +kernel⟩, by decide⟩
theorem okX10_note : gYV yX10_note cX10_note 4 none 3 := ⟨q811, q28, q812, q169, ⟨by decide +kernel, by decide +kernel, by decide +kernel⟩, by decide⟩
theorem okX10_readBlock : gYV yX10_readBlock cX10_readBlock 4 (some .int) 2 := ⟨q805, q27, q806, q169, ⟨by decide +kernel, by decide +kernel, by decide +kernel⟩, by decide⟩
theorem okX7_readOne : gYV yX7_readOne cX7_readOne 3 none 0 := ⟨q1053, q68, q1054, q177, ⟨by decide +kernel, by decide +kernel, by decide +kernel⟩, by decide⟩
theorem okX10_writeBlock : gYV yX10_writeBlock cX10_writeBlock 6 none 3 := ⟨q832, q32, q833, q169, ⟨by decide +kernel, by decide +kernel, by decide +kernel⟩, by decide⟩
theorem okX7_writeOne : gYV yX7_writeOne cX7_writeOne 3 none 0 := ⟨q1075, q73, q1076, q177, ⟨by decide +kernel, by decide +kernel, by decide +kernel⟩, by decide⟩
theorem okX10_readExtents : gYV yX10_readExtents cX10_readExtents 7 (some .int) 3 := ⟨q848, q35, q849, q169, ⟨by decide +kernel, by decide +kernel, by decide +kernel⟩, by decide⟩
theorem okX7_scanSome : gYV yX7_scanSome cX7_scanSome 3 none 0 := ⟨q1080, q74, q1081, q177, ⟨by decide +kernel, by decide +kernel, by decide +kernel⟩, by decide⟩
theorem okX10_writeDown : gYV yX10_writeDown cX10_writeDown 4 none 3 := ⟨q858, q36, q859, q169, ⟨by decide +kernel, by decide +kernel, by decide +kernel⟩, by decide⟩
theorem okX10_begin : gYV yX10_begin cX10_begin 3 (some .boolean) 1 := ⟨q924, q46, q925, q169, ⟨by decide +kernel, by decide +kernel, by decide +kernel⟩, by decide⟩
theorem okX10_blocksToCopy : gYV yX10_blocksToCopy cX10_blocksToCopy 3 (some .int) 1 := ⟨q940, q50, q941, q169, ⟨by decide +kernel, by decide +kernel, by decide +kernel⟩, by decide⟩
theorem okX10_copyBlock : gYV yX10_copyBlock cX10_copyBlock 5 none 3 := ⟨q948, q51, q949, q169, ⟨by decide +kernel, by decide +kernel, by decide +kernel⟩, by decide⟩
theorem okX10_copyBlocks : gYV yX10_copyBlocks cX10_copyBlocks 7 (some .int) 2 := ⟨q936, q49, q937, q169, ⟨by decide +kernel, by decide +kernel, by decide +kernel⟩, by decide⟩
theorem okX10_moveBlocks : gYV yX10_moveBlocks cX10_moveBlocks 3 none 0 := ⟨q920, q45, q921, q169, ⟨by decide +kernel, by decide +kernel, by decide +kernel⟩, by decide⟩
theorem okX10_switchOver : gYV yX10_switchOver cX10_switchOver 4 none 1 := ⟨q956, q53, q957, q169, ⟨by decide +kernel, by decide +kernel, by decide +kernel⟩, by decide⟩
theorem okX10_switchWhole : gYV yX10_switchWhole cX10_switchWhole 3 none 0 := ⟨q952, q52, q953, q169, ⟨by decide +kernel, by decide +kernel, by decide +kernel⟩, by decide⟩
theorem okX10_dropMove : gYV yX10_dropMove cX10_dropMove 4 none 1 := ⟨q886, q39, q887, q169, ⟨by decide +kernel, by decide +kernel, by decide +kernel⟩, by decide⟩
theorem okX10_makePlan : gYV yX10_makePlan cX10_makePlan 5 none 1 := ⟨q960, q54, q961, q169, ⟨by decide +kernel, by decide +kernel, by decide +kernel⟩, by decide⟩
theorem okX10_tick : gYV yX10_tick cX10_tick 2 none 1 := ⟨q916, q44, q917, q169, ⟨by decide +kernel, by decide +kernel, by decide +kernel⟩, by decide⟩
theorem okX10_loseMemory : gYV yX10_loseMemory cX10_loseMemory 4 (some .int) 0 := ⟨q1023, q62, q1024, q169, ⟨by decide +kernel, by decide +kernel, by decide +kernel⟩, by decide⟩
theorem okX7_enter : gYV yX7_enter cX7_enter 2 none 1 := ⟨q1087, q75, q1088, q177, ⟨by decide +kernel, by decide +kernel, by decide +kernel⟩, by decide⟩
theorem okX7_enterIf : gYV yX7_enterIf cX7_enterIf 4 none 0 := ⟨q1091, q76, q1092, q177, ⟨by decide +kernel, by decide +kernel, by decide +kernel⟩, by decide⟩
theorem okX7_leave : gYV yX7_leave cX7_leave 2 none 0 := ⟨q1095, q77, q1096, q177, ⟨by decide +kernel, by decide +kernel, by decide +kernel⟩, by decide⟩
theorem okX7_statement : gYV yX7_statement cX7_statement 2 none 0 := ⟨q1045, q66, q1046, q177, ⟨by decide +kernel, by decide +kernel, by decide +kernel⟩, by decide⟩
theorem okX8_append : gYV yX8_append cX8_append 3 none 1 := ⟨q579, q0, q580, q178, ⟨by decide +kernel, by decide +kernel, by decide +kernel⟩, by decide⟩
theorem okX8_isLetter : gYS yX8_isLetter cX8_isLetter 1 (some .boolean) 1 := ⟨q598, q599, q178, ⟨by decide +kernel, by decide +kernel, by decide +kernel⟩, by decide⟩
theorem okX8_behindLetters : gYV yX8_behindLetters cX8_behindLetters 3 (some .int) 1 := ⟨q602, q3, q603, q178, ⟨by decide +kernel, by decide +kernel, by decide +kernel⟩, by decide⟩
theorem okX8_addToken : gYV yX8_addToken cX8_addToken 4 none 3 := ⟨q610, q5, q611, q178, ⟨by decide +kernel, by decide +kernel, by decide +kernel⟩, by decide⟩
theorem okX8_isDigit : gYS yX8_isDigit cX8_isDigit 1 (some .boolean) 1 := ⟨q676, q677, q178, ⟨by decide +kernel, by decide +kernel, by decide +kernel⟩, by decide⟩
theorem okX8_behindDigits : gYV yX8_behindDigits cX8_behindDigits 3 (some .int) 1 := ⟨q680, q8, q681, q178, ⟨by decide +kernel, by decide +kernel, by decide +kernel⟩, by decide⟩
theorem okX8_numberFrom : gYV yX8_numberFrom cX8_numberFrom 5 (some .int) 2 := ⟨q684, q9, q685, q178, ⟨by decide +kernel, by decide +kernel, by decide +kernel⟩, by decide⟩
theorem okX8_isSign : gYS yX8_isSign cX8_isSign 1 (some .boolean) 1 := ⟨q690, q691, q178, ⟨by decide +kernel, by decide +kernel, by decide +kernel⟩, by decide⟩
theorem okX8_close : gYV yX8_close cX8_close 1 none 0 := ⟨q694, q10, q695, q178, ⟨by decide +kernel, by decide +kernel, by decide +kernel⟩, by decide⟩
theorem okX8_blame : gYV yX8_blame cX8_blame 2 none 1 := ⟨q702, q12, q703, q178, ⟨by decide +kernel, by decide +kernel, by decide +kernel⟩, by decide⟩
theorem okX8_factor : gYV yX8_factor cX8_factor 1 none 0 := ⟨q718, q16, q719, q178, ⟨by decide +kernel, by decide +kernel, by decide +kernel⟩, by decide⟩
theorem okX8_sum : gYV yX8_sum cX8_sum 2 none 0 := ⟨q714, q15, q715, q178, ⟨by decide +kernel, by decide +kernel, by decide +kernel⟩, by decide⟩
theorem okX8_take : gYV yX8_take cX8_take 2 none 1 := ⟨q722, q17, q723, q178, ⟨by decide +kernel, by decide +kernel, by decide +kernel⟩, by decide⟩
theorem okX8_sums : gYV yX8_sums cX8_sums 3 none 1 := ⟨q710, q14, q711, q178, ⟨by decide +kernel, by decide +kernel, by decide +kernel⟩, by decide⟩
theorem okX8_times : gYV yX8_times cX8_times 1 none 0 := ⟨q726, q18, q727, q178, ⟨by decide +kernel, by decide +kernel, by decide +kernel⟩, by decide⟩
theorem okX8_open : gYV yX8_open cX8_open 3 none 1 := ⟨q730, q19, q731, q178, ⟨by decide +kernel, by decide +kernel, by decide +kernel⟩, by decide⟩
theorem okX8_behindWord : gYV yX8_behindWord cX8_behindWord 2 none 1 := ⟨q706, q13, q707, q178, ⟨by decide +kernel, by decide +kernel, by decide +kernel⟩, by decide⟩
theorem okX8_statement : gYV yX8_statement cX8_statement 2 none 0 := ⟨q698, q11, q699, q178, ⟨by decide +kernel, by decide +kernel, by decide +kernel⟩, by decide⟩
theorem okX10_copyFrom : gYV yX10_copyFrom cX10_copyFrom 2 none 1 := ⟨q775, q21, q776, q169, ⟨by decide +kernel, by decide +kernel, by decide +kernel⟩, by decide⟩
theorem okX10_pass : gYV yX10_pass cX10_pass 4 none 2 := ⟨q912, q43, q913, q169, ⟨by decide +kernel, by decide +kernel, by decide +kernel⟩, by decide⟩
theorem okX10_happen : gYV yX10_happen cX10_happen 7 none 2 := ⟨q1107, q79, q1108, q169, ⟨by decide +kernel, by decide +kernel, by decide +kernel⟩, by decide⟩
theorem okX10_live : gYV yX10_live cX10_live 6 none 3 := ⟨q1103, q78, q1104, q169, ⟨by decide +kernel, by decide +kernel, by decide +kernel⟩, by decide⟩
