theorem tq1 {w : Cond} (h : w ∈ tables_1_1) : w ∈ lw_tbl := List.mem_append_right _ (show w ∈ tables_1 from List.mem_append_left _ h)
theorem tq2 {w : Cond} (h : w ∈ tables_1_2) : w ∈ lw_tbl := List.mem_append_right _ (show w ∈ tables_1 from List.mem_append_right _ (List.mem_append_left _ h))
theorem tq3 {w : Cond} (h : w ∈ tables_1_3) : w ∈ lw_tbl := List.mem_append_right _ (show w ∈ tables_1 from List.mem_append_right _ (List.mem_append_right _ (List.mem_append_left _ h)))
theorem tq4 {w : Cond} (h : w ∈ tables_1_4) : w ∈ lw_tbl := List.mem_append_right _ (show w ∈ tables_1 from List.mem_append_right _ (List.mem_append_right _ (List.mem_append_right _ (List.mem_append_left _ h))))
theorem tq5 {w : Cond} (h : w ∈ tables_1_5) : w ∈ lw_tbl := List.mem_append_right _ (show w ∈ tables_1 from List.mem_append_right _ (List.mem_append_right _ (List.mem_append_right _ (List.mem_append_right _ (List.mem_append_left _ h)))))
theorem tq6 {w : Cond} (h : w ∈ tables_1_6) : w ∈ lw_tbl := List.mem_append_right _ (show w ∈ tables_1 from List.mem_append_right _ (List.mem_append_right _ (List.mem_append_right _ (List.mem_append_right _ (List.mem_append_right _ (List.mem_append_left _ h))))))
theorem tq7 {w : Cond} (h : w ∈ tables_1_7) : w ∈ lw_tbl := List.mem_append_right _ (show w ∈ tables_1 from List.mem_append_right _ (List.mem_append_right _ (List.mem_append_right _ (List.mem_append_right _ (List.mem_append_right _ (List.mem_append_right _ (List.mem_append_left _ h)))))))
theorem tq8 {w : Cond} (h : w ∈ tables_1_8) : w ∈ lw_tbl := List.mem_append_right _ (show w ∈ tables_1 from List.mem_append_right _ (List.mem_append_right _ (List.mem_append_right _ (List.mem_append_right _ (List.mem_append_right _ (List.mem_append_right _ (List.mem_append_right _ (h))))))))
theorem q0 : Cond.selects RX8 yX8_append yX8_append ∈ wAll := List.mem_filter.mpr ⟨List.mem_of_getElem? (l := lw_tbl) (i := 0) (by decide +kernel), rfl⟩
theorem q1 : Cond.selects RX8 yX8_parse yX8_parse ∈ wAll := List.mem_filter.mpr ⟨List.mem_of_getElem? (l := lw_tbl) (i := 1) (by decide +kernel), rfl⟩
theorem q2 : Cond.selects RX8 yX8_listTokens yX8_listTokens ∈ wAll := List.mem_filter.mpr ⟨List.mem_of_getElem? (l := lw_tbl) (i := 2) (by decide +kernel), rfl⟩
theorem q3 : Cond.selects RX8 yX8_behindLetters yX8_behindLetters ∈ wAll := List.mem_filter.mpr ⟨List.mem_of_getElem? (l := lw_tbl) (i := 3) (by decide +kernel), rfl⟩
theorem q4 : Cond.selects RX8 yX8_addWord yX8_addWord ∈ wAll := List.mem_filter.mpr ⟨List.mem_of_getElem? (l := lw_tbl) (i := 4) (by decide +kernel), rfl⟩
theorem q5 : Cond.selects RX8 yX8_addToken yX8_addToken ∈ wAll := List.mem_filter.mpr ⟨List.mem_of_getElem? (l := lw_tbl) (i := 5) (by decide +kernel), rfl⟩
theorem q6 : Cond.selects RX8 yX8_wordKind yX8_wordKind ∈ wAll := List.mem_filter.mpr ⟨List.mem_of_getElem? (l := lw_tbl) (i := 6) (by decide +kernel), rfl⟩
theorem q7 : Cond.selects RX8 yX8_spells yX8_spells ∈ wAll := List.mem_filter.mpr ⟨List.mem_of_getElem? (l := lw_tbl) (i := 7) (by decide +kernel), rfl⟩
theorem q8 : Cond.selects RX8 yX8_behindDigits yX8_behindDigits ∈ wAll := List.mem_filter.mpr ⟨List.mem_of_getElem? (l := lw_tbl) (i := 8) (by decide +kernel), rfl⟩
theorem q9 : Cond.selects RX8 yX8_numberFrom yX8_numberFrom ∈ wAll := List.mem_filter.mpr ⟨List.mem_of_getElem? (l := lw_tbl) (i := 9) (by decide +kernel), rfl⟩
theorem q10 : Cond.selects RX8 yX8_close yX8_close ∈ wAll := List.mem_filter.mpr ⟨List.mem_of_getElem? (l := lw_tbl) (i := 10) (by decide +kernel), rfl⟩
theorem q11 : Cond.selects RX8 yX8_statement yX8_statement ∈ wAll := List.mem_filter.mpr ⟨List.mem_of_getElem? (l := lw_tbl) (i := 11) (by decide +kernel), rfl⟩
theorem q12 : Cond.selects RX8 yX8_blame yX8_blame ∈ wAll := List.mem_filter.mpr ⟨List.mem_of_getElem? (l := lw_tbl) (i := 12) (by decide +kernel), rfl⟩
theorem q13 : Cond.selects RX8 yX8_behindWord yX8_behindWord ∈ wAll := List.mem_filter.mpr ⟨List.mem_of_getElem? (l := lw_tbl) (i := 13) (by decide +kernel), rfl⟩
theorem q14 : Cond.selects RX8 yX8_sums yX8_sums ∈ wAll := List.mem_filter.mpr ⟨List.mem_of_getElem? (l := lw_tbl) (i := 14) (by decide +kernel), rfl⟩
theorem q15 : Cond.selects RX8 yX8_sum yX8_sum ∈ wAll := List.mem_filter.mpr ⟨List.mem_of_getElem? (l := lw_tbl) (i := 15) (by decide +kernel), rfl⟩
theorem q16 : Cond.selects RX8 yX8_factor yX8_factor ∈ wAll := List.mem_filter.mpr ⟨List.mem_of_getElem? (l := lw_tbl) (i := 16) (by decide +kernel), rfl⟩
theorem q17 : Cond.selects RX8 yX8_take yX8_take ∈ wAll := List.mem_filter.mpr ⟨List.mem_of_getElem? (l := lw_tbl) (i := 17) (by decide +kernel), rfl⟩
theorem q18 : Cond.selects RX8 yX8_times yX8_times ∈ wAll := List.mem_filter.mpr ⟨List.mem_of_getElem? (l := lw_tbl) (i := 18) (by decide +kernel), rfl⟩
theorem q19 : Cond.selects RX8 yX8_open yX8_open ∈ wAll := List.mem_filter.mpr ⟨List.mem_of_getElem? (l := lw_tbl) (i := 19) (by decide +kernel), rfl⟩
theorem q20 : Cond.selects RX4 yX4_push yX4_push ∈ wAll := List.mem_filter.mpr ⟨List.mem_of_getElem? (l := lw_tbl) (i := 20) (by decide +kernel), rfl⟩
theorem q21 : Cond.selects RX10 yX10_copyFrom yX10_copyFrom ∈ wAll := List.mem_filter.mpr ⟨List.mem_of_getElem? (l := lw_tbl) (i := 21) (by decide +kernel), rfl⟩
theorem q22 : Cond.selects RX2 yX2_copyFrom yX2_copyFrom ∈ wAll := List.mem_filter.mpr ⟨List.mem_of_getElem? (l := lw_tbl) (i := 22) (by decide +kernel), rfl⟩
theorem q23 : Cond.selects RX1 yX1_copyFrom yX1_copyFrom ∈ wAll := List.mem_filter.mpr ⟨List.mem_of_getElem? (l := lw_tbl) (i := 23) (by decide +kernel), rfl⟩
theorem q24 : Cond.selects RX3 yX3_copyFrom yX3_copyFrom ∈ wAll := List.mem_filter.mpr ⟨List.mem_of_getElem? (l := lw_tbl) (i := 24) (by decide +kernel), rfl⟩
theorem q25 : Cond.selects RX5 yX5_copyFrom yX5_copyFrom ∈ wAll := List.mem_filter.mpr ⟨List.mem_of_getElem? (l := lw_tbl) (i := 25) (by decide +kernel), rfl⟩
theorem q26 : Cond.selects RX0 yX0_copyFrom yX0_copyFrom ∈ wAll := List.mem_filter.mpr ⟨List.mem_of_getElem? (l := lw_tbl) (i := 26) (by decide +kernel), rfl⟩
theorem q27 : Cond.selects RX10 yX10_readBlock yX10_readBlock ∈ wAll := List.mem_filter.mpr ⟨List.mem_of_getElem? (l := lw_tbl) (i := 27) (by decide +kernel), rfl⟩
theorem q28 : Cond.selects RX10 yX10_note yX10_note ∈ wAll := List.mem_filter.mpr ⟨List.mem_of_getElem? (l := lw_tbl) (i := 28) (by decide +kernel), rfl⟩
theorem q29 : Cond.selects RX3 yX3_advance yX3_advance ∈ wAll := List.mem_filter.mpr ⟨List.mem_of_getElem? (l := lw_tbl) (i := 29) (by decide +kernel), rfl⟩
theorem q30 : Cond.selects RX2 yX2_warm yX2_warm ∈ wAll := List.mem_filter.mpr ⟨List.mem_of_getElem? (l := lw_tbl) (i := 30) (by decide +kernel), rfl⟩
theorem q31 : Cond.selects RX1 yX1_fastAt yX1_fastAt ∈ wAll := List.mem_filter.mpr ⟨List.mem_of_getElem? (l := lw_tbl) (i := 31) (by decide +kernel), rfl⟩
theorem q32 : Cond.selects RX10 yX10_writeBlock yX10_writeBlock ∈ wAll := List.mem_filter.mpr ⟨List.mem_of_getElem? (l := lw_tbl) (i := 32) (by decide +kernel), rfl⟩
theorem q33 : Cond.selects RX1 yX1_putFast yX1_putFast ∈ wAll := List.mem_filter.mpr ⟨List.mem_of_getElem? (l := lw_tbl) (i := 33) (by decide +kernel), rfl⟩
theorem q34 : Cond.selects RX5 yX5_find yX5_find ∈ wAll := List.mem_filter.mpr ⟨List.mem_of_getElem? (l := lw_tbl) (i := 34) (by decide +kernel), rfl⟩
theorem q35 : Cond.selects RX10 yX10_readExtents yX10_readExtents ∈ wAll := List.mem_filter.mpr ⟨List.mem_of_getElem? (l := lw_tbl) (i := 35) (by decide +kernel), rfl⟩
theorem q36 : Cond.selects RX10 yX10_writeDown yX10_writeDown ∈ wAll := List.mem_filter.mpr ⟨List.mem_of_getElem? (l := lw_tbl) (i := 36) (by decide +kernel), rfl⟩
theorem q37 : Cond.selects RX0 yX0_add yX0_add ∈ wAll := List.mem_filter.mpr ⟨List.mem_of_getElem? (l := lw_tbl) (i := 37) (by decide +kernel), rfl⟩
theorem q38 : Cond.selects RX5 yX5_add yX5_add ∈ wAll := List.mem_filter.mpr ⟨List.mem_of_getElem? (l := lw_tbl) (i := 38) (by decide +kernel), rfl⟩
theorem q39 : Cond.selects RX10 yX10_dropMove yX10_dropMove ∈ wAll := List.mem_filter.mpr ⟨List.mem_of_getElem? (l := lw_tbl) (i := 39) (by decide +kernel), rfl⟩
theorem q40 : Cond.selects RX5 yX5_holdsSlots yX5_holdsSlots ∈ wAll := List.mem_filter.mpr ⟨List.mem_of_getElem? (l := lw_tbl) (i := 40) (by decide +kernel), rfl⟩
theorem q41 : Cond.selects RX1 yX1_leaveSlots yX1_leaveSlots ∈ wAll := List.mem_filter.mpr ⟨List.mem_of_getElem? (l := lw_tbl) (i := 41) (by decide +kernel), rfl⟩
theorem q42 : Cond.selects RX5 yX5_remove yX5_remove ∈ wAll := List.mem_filter.mpr ⟨List.mem_of_getElem? (l := lw_tbl) (i := 42) (by decide +kernel), rfl⟩
theorem q43 : Cond.selects RX10 yX10_pass yX10_pass ∈ wAll := List.mem_filter.mpr ⟨List.mem_of_getElem? (l := lw_tbl) (i := 43) (by decide +kernel), rfl⟩
theorem q44 : Cond.selects RX10 yX10_tick yX10_tick ∈ wAll := List.mem_filter.mpr ⟨List.mem_of_getElem? (l := lw_tbl) (i := 44) (by decide +kernel), rfl⟩
theorem q45 : Cond.selects RX10 yX10_moveBlocks yX10_moveBlocks ∈ wAll := List.mem_filter.mpr ⟨List.mem_of_getElem? (l := lw_tbl) (i := 45) (by decide +kernel), rfl⟩
theorem q46 : Cond.selects RX10 yX10_begin yX10_begin ∈ wAll := List.mem_filter.mpr ⟨List.mem_of_getElem? (l := lw_tbl) (i := 46) (by decide +kernel), rfl⟩
theorem q47 : Cond.selects RX1 yX1_freeSlots yX1_freeSlots ∈ wAll := List.mem_filter.mpr ⟨List.mem_of_getElem? (l := lw_tbl) (i := 47) (by decide +kernel), rfl⟩
theorem q48 : Cond.selects RX1 yX1_takeSlots yX1_takeSlots ∈ wAll := List.mem_filter.mpr ⟨List.mem_of_getElem? (l := lw_tbl) (i := 48) (by decide +kernel), rfl⟩
theorem q49 : Cond.selects RX10 yX10_copyBlocks yX10_copyBlocks ∈ wAll := List.mem_filter.mpr ⟨List.mem_of_getElem? (l := lw_tbl) (i := 49) (by decide +kernel), rfl⟩
theorem q50 : Cond.selects RX10 yX10_blocksToCopy yX10_blocksToCopy ∈ wAll := List.mem_filter.mpr ⟨List.mem_of_getElem? (l := lw_tbl) (i := 50) (by decide +kernel), rfl⟩
theorem q51 : Cond.selects RX10 yX10_copyBlock yX10_copyBlock ∈ wAll := List.mem_filter.mpr ⟨List.mem_of_getElem? (l := lw_tbl) (i := 51) (by decide +kernel), rfl⟩
theorem q52 : Cond.selects RX10 yX10_switchWhole yX10_switchWhole ∈ wAll := List.mem_filter.mpr ⟨List.mem_of_getElem? (l := lw_tbl) (i := 52) (by decide +kernel), rfl⟩
theorem q53 : Cond.selects RX10 yX10_switchOver yX10_switchOver ∈ wAll := List.mem_filter.mpr ⟨List.mem_of_getElem? (l := lw_tbl) (i := 53) (by decide +kernel), rfl⟩
theorem q54 : Cond.selects RX10 yX10_makePlan yX10_makePlan ∈ wAll := List.mem_filter.mpr ⟨List.mem_of_getElem? (l := lw_tbl) (i := 54) (by decide +kernel), rfl⟩
theorem q55 : Cond.selects RX6 yX6_makeFor yX6_makeFor ∈ wAll := List.mem_filter.mpr ⟨List.mem_of_getElem? (l := lw_tbl) (i := 55) (by decide +kernel), rfl⟩
theorem q56 : Cond.selects RX6 yX6_weigh yX6_weigh ∈ wAll := List.mem_filter.mpr ⟨List.mem_of_getElem? (l := lw_tbl) (i := 56) (by decide +kernel), rfl⟩
theorem q57 : Cond.selects RX6 yX6_bind yX6_bind ∈ wAll := List.mem_filter.mpr ⟨List.mem_of_getElem? (l := lw_tbl) (i := 57) (by decide +kernel), rfl⟩
theorem q58 : Cond.selects RX6 yX6_choose yX6_choose ∈ wAll := List.mem_filter.mpr ⟨List.mem_of_getElem? (l := lw_tbl) (i := 58) (by decide +kernel), rfl⟩
theorem q59 : Cond.selects RX6 yX6_listMoves yX6_listMoves ∈ wAll := List.mem_filter.mpr ⟨List.mem_of_getElem? (l := lw_tbl) (i := 59) (by decide +kernel), rfl⟩
theorem q60 : Cond.selects RX2 yX2_hotter yX2_hotter ∈ wAll := List.mem_filter.mpr ⟨List.mem_of_getElem? (l := lw_tbl) (i := 60) (by decide +kernel), rfl⟩
theorem q61 : Cond.selects RX2 yX2_age yX2_age ∈ wAll := List.mem_filter.mpr ⟨List.mem_of_getElem? (l := lw_tbl) (i := 61) (by decide +kernel), rfl⟩
theorem q62 : Cond.selects RX10 yX10_loseMemory yX10_loseMemory ∈ wAll := List.mem_filter.mpr ⟨List.mem_of_getElem? (l := lw_tbl) (i := 62) (by decide +kernel), rfl⟩
theorem q63 : Cond.selects RX2 yX2_forget yX2_forget ∈ wAll := List.mem_filter.mpr ⟨List.mem_of_getElem? (l := lw_tbl) (i := 63) (by decide +kernel), rfl⟩
theorem q64 : Cond.selects RX11 yX11_textAt yX11_textAt ∈ wAll := List.mem_filter.mpr ⟨List.mem_of_getElem? (l := lw_tbl) (i := 64) (by decide +kernel), rfl⟩
theorem q65 : Cond.selects RX7 yX7_play yX7_play ∈ wAll := List.mem_filter.mpr ⟨List.mem_of_getElem? (l := lw_tbl) (i := 65) (by decide +kernel), rfl⟩
theorem q66 : Cond.selects RX7 yX7_statement yX7_statement ∈ wAll := List.mem_filter.mpr ⟨List.mem_of_getElem? (l := lw_tbl) (i := 66) (by decide +kernel), rfl⟩
theorem q67 : Cond.selects RX9 yX9_kindAt yX9_kindAt ∈ wAll := List.mem_filter.mpr ⟨List.mem_of_getElem? (l := lw_tbl) (i := 67) (by decide +kernel), rfl⟩
theorem q68 : Cond.selects RX7 yX7_readOne yX7_readOne ∈ wAll := List.mem_filter.mpr ⟨List.mem_of_getElem? (l := lw_tbl) (i := 68) (by decide +kernel), rfl⟩
theorem q69 : Cond.selects RX7 yX7_sum yX7_sum ∈ wAll := List.mem_filter.mpr ⟨List.mem_of_getElem? (l := lw_tbl) (i := 69) (by decide +kernel), rfl⟩
theorem q70 : Cond.selects RX7 yX7_product yX7_product ∈ wAll := List.mem_filter.mpr ⟨List.mem_of_getElem? (l := lw_tbl) (i := 70) (by decide +kernel), rfl⟩
theorem q71 : Cond.selects RX7 yX7_factor yX7_factor ∈ wAll := List.mem_filter.mpr ⟨List.mem_of_getElem? (l := lw_tbl) (i := 71) (by decide +kernel), rfl⟩
theorem q72 : Cond.selects RX9 yX9_valueAt yX9_valueAt ∈ wAll := List.mem_filter.mpr ⟨List.mem_of_getElem? (l := lw_tbl) (i := 72) (by decide +kernel), rfl⟩
theorem q73 : Cond.selects RX7 yX7_writeOne yX7_writeOne ∈ wAll := List.mem_filter.mpr ⟨List.mem_of_getElem? (l := lw_tbl) (i := 73) (by decide +kernel), rfl⟩
theorem q74 : Cond.selects RX7 yX7_scanSome yX7_scanSome ∈ wAll := List.mem_filter.mpr ⟨List.mem_of_getElem? (l := lw_tbl) (i := 74) (by decide +kernel), rfl⟩
theorem q75 : Cond.selects RX7 yX7_enter yX7_enter ∈ wAll := List.mem_filter.mpr ⟨List.mem_of_getElem? (l := lw_tbl) (i := 75) (by decide +kernel), rfl⟩
theorem q76 : Cond.selects RX7 yX7_enterIf yX7_enterIf ∈ wAll := List.mem_filter.mpr ⟨List.mem_of_getElem? (l := lw_tbl) (i := 76) (by decide +kernel), rfl⟩
theorem q77 : Cond.selects RX7 yX7_leave yX7_leave ∈ wAll := List.mem_filter.mpr ⟨List.mem_of_getElem? (l := lw_tbl) (i := 77) (by decide +kernel), rfl⟩
theorem q78 : Cond.selects RX10 yX10_live yX10_live ∈ wAll := List.mem_filter.mpr ⟨List.mem_of_getElem? (l := lw_tbl) (i := 78) (by decide +kernel), rfl⟩
theorem q79 : Cond.selects RX10 yX10_happen yX10_happen ∈ wAll := List.mem_filter.mpr ⟨List.mem_of_getElem? (l := lw_tbl) (i := 79) (by decide +kernel), rfl⟩
theorem q80 : Cond.selects RX4 yX4_pop yX4_pop ∈ wAll := List.mem_filter.mpr ⟨List.mem_of_getElem? (l := lw_tbl) (i := 80) (by decide +kernel), rfl⟩
theorem q81 : Cond.selects RX1 yX1_lowestFree yX1_lowestFree ∈ wAll := List.mem_filter.mpr ⟨List.mem_of_getElem? (l := lw_tbl) (i := 81) (by decide +kernel), rfl⟩
theorem q82 : Cond.selects RX2 yX2_detail yX2_detail ∈ wAll := List.mem_filter.mpr ⟨List.mem_of_getElem? (l := lw_tbl) (i := 82) (by decide +kernel), rfl⟩
theorem q83 : Cond.selects RX3 yX3_detail yX3_detail ∈ wAll := List.mem_filter.mpr ⟨List.mem_of_getElem? (l := lw_tbl) (i := 83) (by decide +kernel), rfl⟩
theorem q84 : Cond.selects RX5 yX5_detail yX5_detail ∈ wAll := List.mem_filter.mpr ⟨List.mem_of_getElem? (l := lw_tbl) (i := 84) (by decide +kernel), rfl⟩
theorem q85 : Cond.selects RX6 yX6_allows yX6_allows ∈ wAll := List.mem_filter.mpr ⟨List.mem_of_getElem? (l := lw_tbl) (i := 85) (by decide +kernel), rfl⟩
theorem q86 : Cond.selects RX6 yX6_needOf yX6_needOf ∈ wAll := List.mem_filter.mpr ⟨List.mem_of_getElem? (l := lw_tbl) (i := 86) (by decide +kernel), rfl⟩
theorem q87 : Cond.selects RX6 yX6_worthOf yX6_worthOf ∈ wAll := List.mem_filter.mpr ⟨List.mem_of_getElem? (l := lw_tbl) (i := 87) (by decide +kernel), rfl⟩
theorem q88 : Cond.selects RX6 yX6_leastHeat yX6_leastHeat ∈ wAll := List.mem_filter.mpr ⟨List.mem_of_getElem? (l := lw_tbl) (i := 88) (by decide +kernel), rfl⟩
theorem q89 : Cond.selects RX6 yX6_force yX6_force ∈ wAll := List.mem_filter.mpr ⟨List.mem_of_getElem? (l := lw_tbl) (i := 89) (by decide +kernel), rfl⟩
theorem q90 : Cond.selects RX2 yX2_hotterThan yX2_hotterThan ∈ wAll := List.mem_filter.mpr ⟨List.mem_of_getElem? (l := lw_tbl) (i := 90) (by decide +kernel), rfl⟩
theorem q91 : Cond.selects RX0 yX0_detail yX0_detail ∈ wAll := List.mem_filter.mpr ⟨List.mem_of_getElem? (l := lw_tbl) (i := 91) (by decide +kernel), rfl⟩
theorem q92 : Cond.selects RX0 yX0_linesOf yX0_linesOf ∈ wAll := List.mem_filter.mpr ⟨List.mem_of_getElem? (l := lw_tbl) (i := 92) (by decide +kernel), rfl⟩
theorem q93 : Cond.selects RX4 yX4_copyFrom yX4_copyFrom ∈ wAll := List.mem_filter.mpr ⟨List.mem_of_getElem? (l := lw_tbl) (i := 93) (by decide +kernel), rfl⟩
theorem q94 : Cond.selects RX12 yX12_four yX12_four ∈ wAll := List.mem_filter.mpr ⟨List.mem_of_getElem? (l := lw_tbl) (i := 94) (by decide +kernel), rfl⟩
theorem q95 : Cond.selects RX12 yX12_readText yX12_readText ∈ wAll := List.mem_filter.mpr ⟨List.mem_of_getElem? (l := lw_tbl) (i := 95) (by decide +kernel), rfl⟩
theorem q96 : Cond.selects RX12 yX12_nextToken yX12_nextToken ∈ wAll := List.mem_filter.mpr ⟨List.mem_of_getElem? (l := lw_tbl) (i := 96) (by decide +kernel), rfl⟩
theorem q97 : Cond.selects RX12 yX12_byteAt yX12_byteAt ∈ wAll := List.mem_filter.mpr ⟨List.mem_of_getElem? (l := lw_tbl) (i := 97) (by decide +kernel), rfl⟩
theorem q98 : Cond.selects RX12 yX12_wordOf yX12_wordOf ∈ wAll := List.mem_filter.mpr ⟨List.mem_of_getElem? (l := lw_tbl) (i := 98) (by decide +kernel), rfl⟩
theorem q99 : Cond.selects RX12 yX12_isWord yX12_isWord ∈ wAll := List.mem_filter.mpr ⟨List.mem_of_getElem? (l := lw_tbl) (i := 99) (by decide +kernel), rfl⟩
theorem q100 : Cond.selects RX12 yX12_closed yX12_closed ∈ wAll := List.mem_filter.mpr ⟨List.mem_of_getElem? (l := lw_tbl) (i := 100) (by decide +kernel), rfl⟩
theorem q101 : Cond.selects RX12 yX12_statement yX12_statement ∈ wAll := List.mem_filter.mpr ⟨List.mem_of_getElem? (l := lw_tbl) (i := 101) (by decide +kernel), rfl⟩
theorem q102 : Cond.selects RX12 yX12_sums yX12_sums ∈ wAll := List.mem_filter.mpr ⟨List.mem_of_getElem? (l := lw_tbl) (i := 102) (by decide +kernel), rfl⟩
theorem q103 : Cond.selects RX12 yX12_summed yX12_summed ∈ wAll := List.mem_filter.mpr ⟨List.mem_of_getElem? (l := lw_tbl) (i := 103) (by decide +kernel), rfl⟩
theorem q104 : Cond.selects RX12 yX12_one yX12_one ∈ wAll := List.mem_filter.mpr ⟨List.mem_of_getElem? (l := lw_tbl) (i := 104) (by decide +kernel), rfl⟩
theorem q105 : Cond.selects RX12 yX12_loopHead yX12_loopHead ∈ wAll := List.mem_filter.mpr ⟨List.mem_of_getElem? (l := lw_tbl) (i := 105) (by decide +kernel), rfl⟩
theorem q106 : Cond.selects RX12 yX12_opened yX12_opened ∈ wAll := List.mem_filter.mpr ⟨List.mem_of_getElem? (l := lw_tbl) (i := 106) (by decide +kernel), rfl⟩
theorem q107 : Cond.selects RX12 yX12_choiceHead yX12_choiceHead ∈ wAll := List.mem_filter.mpr ⟨List.mem_of_getElem? (l := lw_tbl) (i := 107) (by decide +kernel), rfl⟩
theorem q108 : Cond.selects RX12 yX12_keep yX12_keep ∈ wAll := List.mem_filter.mpr ⟨List.mem_of_getElem? (l := lw_tbl) (i := 108) (by decide +kernel), rfl⟩
theorem q109 : Cond.selects RX12 yX12_readNow yX12_readNow ∈ wAll := List.mem_filter.mpr ⟨List.mem_of_getElem? (l := lw_tbl) (i := 109) (by decide +kernel), rfl⟩
theorem q110 : Cond.selects RX12 yX12_access yX12_access ∈ wAll := List.mem_filter.mpr ⟨List.mem_of_getElem? (l := lw_tbl) (i := 110) (by decide +kernel), rfl⟩
theorem q111 : Cond.selects RX12 yX12_isFast yX12_isFast ∈ wAll := List.mem_filter.mpr ⟨List.mem_of_getElem? (l := lw_tbl) (i := 111) (by decide +kernel), rfl⟩
theorem q112 : Cond.selects RX12 yX12_headed yX12_headed ∈ wAll := List.mem_filter.mpr ⟨List.mem_of_getElem? (l := lw_tbl) (i := 112) (by decide +kernel), rfl⟩
theorem q113 : Cond.selects RX12 yX12_headAt yX12_headAt ∈ wAll := List.mem_filter.mpr ⟨List.mem_of_getElem? (l := lw_tbl) (i := 113) (by decide +kernel), rfl⟩
theorem q114 : Cond.selects RX12 yX12_outHead yX12_outHead ∈ wAll := List.mem_filter.mpr ⟨List.mem_of_getElem? (l := lw_tbl) (i := 114) (by decide +kernel), rfl⟩
theorem q115 : Cond.selects RX12 yX12_slotOf yX12_slotOf ∈ wAll := List.mem_filter.mpr ⟨List.mem_of_getElem? (l := lw_tbl) (i := 115) (by decide +kernel), rfl⟩
theorem q116 : Cond.selects RX12 yX12_writeNow yX12_writeNow ∈ wAll := List.mem_filter.mpr ⟨List.mem_of_getElem? (l := lw_tbl) (i := 116) (by decide +kernel), rfl⟩
theorem q117 : Cond.selects RX12 yX12_moveAt yX12_moveAt ∈ wAll := List.mem_filter.mpr ⟨List.mem_of_getElem? (l := lw_tbl) (i := 117) (by decide +kernel), rfl⟩
theorem q118 : Cond.selects RX12 yX12_scanNow yX12_scanNow ∈ wAll := List.mem_filter.mpr ⟨List.mem_of_getElem? (l := lw_tbl) (i := 118) (by decide +kernel), rfl⟩
theorem q119 : Cond.selects RX12 yX12_writeDown yX12_writeDown ∈ wAll := List.mem_filter.mpr ⟨List.mem_of_getElem? (l := lw_tbl) (i := 119) (by decide +kernel), rfl⟩
theorem q120 : Cond.selects RX12 yX12_addMove yX12_addMove ∈ wAll := List.mem_filter.mpr ⟨List.mem_of_getElem? (l := lw_tbl) (i := 120) (by decide +kernel), rfl⟩
theorem q121 : Cond.selects RX12 yX12_dropMove yX12_dropMove ∈ wAll := List.mem_filter.mpr ⟨List.mem_of_getElem? (l := lw_tbl) (i := 121) (by decide +kernel), rfl⟩
theorem q122 : Cond.selects RX12 yX12_ofMove yX12_ofMove ∈ wAll := List.mem_filter.mpr ⟨List.mem_of_getElem? (l := lw_tbl) (i := 122) (by decide +kernel), rfl⟩
theorem q123 : Cond.selects RX12 yX12_freeSlots yX12_freeSlots ∈ wAll := List.mem_filter.mpr ⟨List.mem_of_getElem? (l := lw_tbl) (i := 123) (by decide +kernel), rfl⟩
theorem q124 : Cond.selects RX12 yX12_outMove yX12_outMove ∈ wAll := List.mem_filter.mpr ⟨List.mem_of_getElem? (l := lw_tbl) (i := 124) (by decide +kernel), rfl⟩
theorem q125 : Cond.selects RX12 yX12_ticks yX12_ticks ∈ wAll := List.mem_filter.mpr ⟨List.mem_of_getElem? (l := lw_tbl) (i := 125) (by decide +kernel), rfl⟩
theorem q126 : Cond.selects RX12 yX12_tick yX12_tick ∈ wAll := List.mem_filter.mpr ⟨List.mem_of_getElem? (l := lw_tbl) (i := 126) (by decide +kernel), rfl⟩
theorem q127 : Cond.selects RX12 yX12_goMoves yX12_goMoves ∈ wAll := List.mem_filter.mpr ⟨List.mem_of_getElem? (l := lw_tbl) (i := 127) (by decide +kernel), rfl⟩
theorem q128 : Cond.selects RX12 yX12_isBegun yX12_isBegun ∈ wAll := List.mem_filter.mpr ⟨List.mem_of_getElem? (l := lw_tbl) (i := 128) (by decide +kernel), rfl⟩
theorem q129 : Cond.selects RX12 yX12_manyFree yX12_manyFree ∈ wAll := List.mem_filter.mpr ⟨List.mem_of_getElem? (l := lw_tbl) (i := 129) (by decide +kernel), rfl⟩
theorem q130 : Cond.selects RX12 yX12_freeFrom yX12_freeFrom ∈ wAll := List.mem_filter.mpr ⟨List.mem_of_getElem? (l := lw_tbl) (i := 130) (by decide +kernel), rfl⟩
theorem q131 : Cond.selects RX12 yX12_holderOf yX12_holderOf ∈ wAll := List.mem_filter.mpr ⟨List.mem_of_getElem? (l := lw_tbl) (i := 131) (by decide +kernel), rfl⟩
theorem q132 : Cond.selects RX12 yX12_toCopy yX12_toCopy ∈ wAll := List.mem_filter.mpr ⟨List.mem_of_getElem? (l := lw_tbl) (i := 132) (by decide +kernel), rfl⟩
theorem q133 : Cond.selects RX12 yX12_copyBlock yX12_copyBlock ∈ wAll := List.mem_filter.mpr ⟨List.mem_of_getElem? (l := lw_tbl) (i := 133) (by decide +kernel), rfl⟩
theorem q134 : Cond.selects RX12 yX12_switchMove yX12_switchMove ∈ wAll := List.mem_filter.mpr ⟨List.mem_of_getElem? (l := lw_tbl) (i := 134) (by decide +kernel), rfl⟩
theorem q135 : Cond.selects RX12 yX12_endEpoch yX12_endEpoch ∈ wAll := List.mem_filter.mpr ⟨List.mem_of_getElem? (l := lw_tbl) (i := 135) (by decide +kernel), rfl⟩
theorem q136 : Cond.selects RX12 yX12_makePlan yX12_makePlan ∈ wAll := List.mem_filter.mpr ⟨List.mem_of_getElem? (l := lw_tbl) (i := 136) (by decide +kernel), rfl⟩
theorem q137 : Cond.selects RX12 yX12_bestSet yX12_bestSet ∈ wAll := List.mem_filter.mpr ⟨List.mem_of_getElem? (l := lw_tbl) (i := 137) (by decide +kernel), rfl⟩
theorem q138 : Cond.selects RX12 yX12_isAllowed yX12_isAllowed ∈ wAll := List.mem_filter.mpr ⟨List.mem_of_getElem? (l := lw_tbl) (i := 138) (by decide +kernel), rfl⟩
theorem q139 : Cond.selects RX12 yX12_mayBe yX12_mayBe ∈ wAll := List.mem_filter.mpr ⟨List.mem_of_getElem? (l := lw_tbl) (i := 139) (by decide +kernel), rfl⟩
theorem q140 : Cond.selects RX12 yX12_begunOf yX12_begunOf ∈ wAll := List.mem_filter.mpr ⟨List.mem_of_getElem? (l := lw_tbl) (i := 140) (by decide +kernel), rfl⟩
theorem q141 : Cond.selects RX12 yX12_copiedFor yX12_copiedFor ∈ wAll := List.mem_filter.mpr ⟨List.mem_of_getElem? (l := lw_tbl) (i := 141) (by decide +kernel), rfl⟩
theorem q142 : Cond.selects RX12 yX12_worthOf yX12_worthOf ∈ wAll := List.mem_filter.mpr ⟨List.mem_of_getElem? (l := lw_tbl) (i := 142) (by decide +kernel), rfl⟩
theorem q143 : Cond.selects RX12 yX12_layNew yX12_layNew ∈ wAll := List.mem_filter.mpr ⟨List.mem_of_getElem? (l := lw_tbl) (i := 143) (by decide +kernel), rfl⟩
theorem q144 : Cond.selects RX12 yX12_crashNow yX12_crashNow ∈ wAll := List.mem_filter.mpr ⟨List.mem_of_getElem? (l := lw_tbl) (i := 144) (by decide +kernel), rfl⟩
theorem q145 : Cond.selects RX12 yX12_goText yX12_goText ∈ wAll := List.mem_filter.mpr ⟨List.mem_of_getElem? (l := lw_tbl) (i := 145) (by decide +kernel), rfl⟩
theorem q146 : Cond.selects RX12 yX12_tokenAt yX12_tokenAt ∈ wAll := List.mem_filter.mpr ⟨List.mem_of_getElem? (l := lw_tbl) (i := 146) (by decide +kernel), rfl⟩
theorem q147 : Cond.selects RX12 yX12_isOver yX12_isOver ∈ wAll := List.mem_filter.mpr ⟨List.mem_of_getElem? (l := lw_tbl) (i := 147) (by decide +kernel), rfl⟩
theorem q148 : Cond.selects RX12 yX12_goStatement yX12_goStatement ∈ wAll := List.mem_filter.mpr ⟨List.mem_of_getElem? (l := lw_tbl) (i := 148) (by decide +kernel), rfl⟩
theorem q149 : Cond.selects RX12 yX12_goAround yX12_goAround ∈ wAll := List.mem_filter.mpr ⟨List.mem_of_getElem? (l := lw_tbl) (i := 149) (by decide +kernel), rfl⟩
theorem q150 : Cond.selects RX12 yX12_numberAt yX12_numberAt ∈ wAll := List.mem_filter.mpr ⟨List.mem_of_getElem? (l := lw_tbl) (i := 150) (by decide +kernel), rfl⟩
theorem q151 : Cond.selects RX12 yX12_goInto yX12_goInto ∈ wAll := List.mem_filter.mpr ⟨List.mem_of_getElem? (l := lw_tbl) (i := 151) (by decide +kernel), rfl⟩
theorem q152 : Cond.selects RX12 yX12_goChoice yX12_goChoice ∈ wAll := List.mem_filter.mpr ⟨List.mem_of_getElem? (l := lw_tbl) (i := 152) (by decide +kernel), rfl⟩
theorem q153 : Cond.selects RX12 yX12_goSum yX12_goSum ∈ wAll := List.mem_filter.mpr ⟨List.mem_of_getElem? (l := lw_tbl) (i := 153) (by decide +kernel), rfl⟩
theorem q154 : Cond.selects RX12 yX12_goProduct yX12_goProduct ∈ wAll := List.mem_filter.mpr ⟨List.mem_of_getElem? (l := lw_tbl) (i := 154) (by decide +kernel), rfl⟩
theorem q155 : Cond.selects RX12 yX12_goOne yX12_goOne ∈ wAll := List.mem_filter.mpr ⟨List.mem_of_getElem? (l := lw_tbl) (i := 155) (by decide +kernel), rfl⟩
theorem q156 : Cond.selects RX12 yX12_passBlock yX12_passBlock ∈ wAll := List.mem_filter.mpr ⟨List.mem_of_getElem? (l := lw_tbl) (i := 156) (by decide +kernel), rfl⟩
theorem q157 : Cond.selects RX12 yX12_goAct yX12_goAct ∈ wAll := List.mem_filter.mpr ⟨List.mem_of_getElem? (l := lw_tbl) (i := 157) (by decide +kernel), rfl⟩
theorem q158 : Cond.selects RX12 yX12_goScan yX12_goScan ∈ wAll := List.mem_filter.mpr ⟨List.mem_of_getElem? (l := lw_tbl) (i := 158) (by decide +kernel), rfl⟩
theorem q159 : Cond.selects RX12 yX12_drawn yX12_drawn ∈ wAll := List.mem_filter.mpr ⟨List.mem_of_getElem? (l := lw_tbl) (i := 159) (by decide +kernel), rfl⟩
theorem q160 : Cond.selects RX12 yX12_happens yX12_happens ∈ wAll := List.mem_filter.mpr ⟨List.mem_of_getElem? (l := lw_tbl) (i := 160) (by decide +kernel), rfl⟩
theorem q161 : Cond.selects RX12 yX12_layBests yX12_layBests ∈ wAll := List.mem_filter.mpr ⟨List.mem_of_getElem? (l := lw_tbl) (i := 161) (by decide +kernel), rfl⟩
theorem q162 : Cond.selects RX12 yX12_shareOf yX12_shareOf ∈ wAll := List.mem_filter.mpr ⟨List.mem_of_getElem? (l := lw_tbl) (i := 162) (by decide +kernel), rfl⟩
theorem q163 : Cond.selects RX12 yX12_isInWith yX12_isInWith ∈ wAll := List.mem_filter.mpr ⟨List.mem_of_getElem? (l := lw_tbl) (i := 163) (by decide +kernel), rfl⟩
theorem q164 : Cond.selects RX12 yX12_putAside yX12_putAside ∈ wAll := List.mem_filter.mpr ⟨List.mem_of_getElem? (l := lw_tbl) (i := 164) (by decide +kernel), rfl⟩
theorem q165 : Cond.selects RX12 yX12_bringBack yX12_bringBack ∈ wAll := List.mem_filter.mpr ⟨List.mem_of_getElem? (l := lw_tbl) (i := 165) (by decide +kernel), rfl⟩
theorem q166 : Cond.selects RX12 yX12_isHotter yX12_isHotter ∈ wAll := List.mem_filter.mpr ⟨List.mem_of_getElem? (l := lw_tbl) (i := 166) (by decide +kernel), rfl⟩
theorem q167 : Cond.initialized RL ∈ wAll := List.mem_filter.mpr ⟨tq1 (List.mem_of_getElem? (i := 0) (by decide +kernel)), rfl⟩
theorem q168 : Cond.initialized RX11 ∈ wAll := List.mem_filter.mpr ⟨tq1 (List.mem_of_getElem? (i := 1) (by decide +kernel)), rfl⟩
theorem q169 : Cond.initialized RX10 ∈ wAll := List.mem_filter.mpr ⟨tq1 (List.mem_of_getElem? (i := 2) (by decide +kernel)), rfl⟩
theorem q170 : Cond.initialized RX2 ∈ wAll := List.mem_filter.mpr ⟨tq1 (List.mem_of_getElem? (i := 3) (by decide +kernel)), rfl⟩
theorem q171 : Cond.initialized RX1 ∈ wAll := List.mem_filter.mpr ⟨tq1 (List.mem_of_getElem? (i := 4) (by decide +kernel)), rfl⟩
theorem q172 : Cond.initialized RX3 ∈ wAll := List.mem_filter.mpr ⟨tq1 (List.mem_of_getElem? (i := 5) (by decide +kernel)), rfl⟩
theorem q173 : Cond.initialized RX5 ∈ wAll := List.mem_filter.mpr ⟨tq1 (List.mem_of_getElem? (i := 6) (by decide +kernel)), rfl⟩
theorem q174 : Cond.initialized RX0 ∈ wAll := List.mem_filter.mpr ⟨tq1 (List.mem_of_getElem? (i := 7) (by decide +kernel)), rfl⟩
theorem q175 : Cond.initialized RX4 ∈ wAll := List.mem_filter.mpr ⟨tq1 (List.mem_of_getElem? (i := 8) (by decide +kernel)), rfl⟩
theorem q176 : Cond.initialized RX6 ∈ wAll := List.mem_filter.mpr ⟨tq1 (List.mem_of_getElem? (i := 9) (by decide +kernel)), rfl⟩
theorem q177 : Cond.initialized RX7 ∈ wAll := List.mem_filter.mpr ⟨tq1 (List.mem_of_getElem? (i := 10) (by decide +kernel)), rfl⟩
theorem q178 : Cond.initialized RX8 ∈ wAll := List.mem_filter.mpr ⟨tq1 (List.mem_of_getElem? (i := 11) (by decide +kernel)), rfl⟩
theorem q179 : Cond.initialized RX12 ∈ wAll := List.mem_filter.mpr ⟨tq1 (List.mem_of_getElem? (i := 12) (by decide +kernel)), rfl⟩
theorem q180 : Cond.initialized RJ0 ∈ wAll := List.mem_filter.mpr ⟨tq1 (List.mem_of_getElem? (i := 13) (by decide +kernel)), rfl⟩
theorem q181 : Cond.initialized RJ1 ∈ wAll := List.mem_filter.mpr ⟨tq1 (List.mem_of_getElem? (i := 14) (by decide +kernel)), rfl⟩
theorem q182 : Cond.initialized RJ3 ∈ wAll := List.mem_filter.mpr ⟨tq1 (List.mem_of_getElem? (i := 15) (by decide +kernel)), rfl⟩
theorem q183 : Cond.initialized RJ2 ∈ wAll := List.mem_filter.mpr ⟨tq1 (List.mem_of_getElem? (i := 16) (by decide +kernel)), rfl⟩
theorem q184 : Cond.initialized RJ9 ∈ wAll := List.mem_filter.mpr ⟨tq1 (List.mem_of_getElem? (i := 17) (by decide +kernel)), rfl⟩
theorem q185 : Cond.initialized RX9 ∈ wAll := List.mem_filter.mpr ⟨tq1 (List.mem_of_getElem? (i := 18) (by decide +kernel)), rfl⟩
theorem q186 : Cond.initialized RJ10 ∈ wAll := List.mem_filter.mpr ⟨tq1 (List.mem_of_getElem? (i := 19) (by decide +kernel)), rfl⟩
theorem q187 : Cond.initialized RJ6 ∈ wAll := List.mem_filter.mpr ⟨tq1 (List.mem_of_getElem? (i := 20) (by decide +kernel)), rfl⟩
theorem q188 : Cond.initialized RJxf58ca ∈ wAll := List.mem_filter.mpr ⟨tq1 (List.mem_of_getElem? (i := 21) (by decide +kernel)), rfl⟩
theorem q189 : Cond.initialized RJxe99ae ∈ wAll := List.mem_filter.mpr ⟨tq1 (List.mem_of_getElem? (i := 22) (by decide +kernel)), rfl⟩
theorem q190 : Cond.classLink RL 7 RX11 ∈ wAll := List.mem_filter.mpr ⟨tq1 (List.mem_of_getElem? (i := 23) (by decide +kernel)), rfl⟩
theorem q191 : Cond.instantiable RX11 11 ∈ wAll := List.mem_filter.mpr ⟨tq1 (List.mem_of_getElem? (i := 24) (by decide +kernel)), rfl⟩
theorem q192 : Cond.methodLink RL 9 yX11_init ∈ wAll := List.mem_filter.mpr ⟨tq1 (List.mem_of_getElem? (i := 25) (by decide +kernel)), rfl⟩
theorem q193 : Cond.instanceMethod yX11_init ∈ wAll := List.mem_filter.mpr ⟨tq1 (List.mem_of_getElem? (i := 26) (by decide +kernel)), rfl⟩
theorem q194 : Cond.code yX11_init cX11_init 1 none ∈ wAll := List.mem_filter.mpr ⟨tq1 (List.mem_of_getElem? (i := 27) (by decide +kernel)), rfl⟩
theorem q195 : Cond.methodLink RX11 1 ⟨"java/lang/Object", "<init>", "()V"⟩ ∈ wAll := List.mem_filter.mpr ⟨tq1 (List.mem_of_getElem? (i := 28) (by decide +kernel)), rfl⟩
theorem q196 : Cond.instanceMethod ⟨"java/lang/Object", "<init>", "()V"⟩ ∈ wAll := List.mem_filter.mpr ⟨tq1 (List.mem_of_getElem? (i := 29) (by decide +kernel)), rfl⟩
theorem q197 : Cond.code ⟨"java/lang/Object", "<init>", "()V"⟩ object_method_1_code 1 none ∈ wAll := List.mem_filter.mpr ⟨tq1 (List.mem_of_getElem? (i := 30) (by decide +kernel)), rfl⟩
theorem q198 : Cond.classLink RX11 7 RX10 ∈ wAll := List.mem_filter.mpr ⟨tq1 (List.mem_of_getElem? (i := 31) (by decide +kernel)), rfl⟩
theorem q199 : Cond.instantiable RX10 6 ∈ wAll := List.mem_filter.mpr ⟨tq1 (List.mem_of_getElem? (i := 32) (by decide +kernel)), rfl⟩
theorem q200 : Cond.methodLinkNest RX11 9 yX10_init "WarmExtents" ∈ nwAll := List.mem_filter.mpr ⟨tq1 (List.mem_of_getElem? (i := 33) (by decide +kernel)), rfl⟩
theorem q201 : Cond.instanceMethod yX10_init ∈ wAll := List.mem_filter.mpr ⟨tq1 (List.mem_of_getElem? (i := 34) (by decide +kernel)), rfl⟩
theorem q202 : Cond.code yX10_init cX10_init 1 none ∈ wAll := List.mem_filter.mpr ⟨tq1 (List.mem_of_getElem? (i := 35) (by decide +kernel)), rfl⟩
theorem q203 : Cond.methodLink RX10 3 ⟨"java/lang/Object", "<init>", "()V"⟩ ∈ wAll := List.mem_filter.mpr ⟨tq1 (List.mem_of_getElem? (i := 36) (by decide +kernel)), rfl⟩
theorem q204 : Cond.classLink RX10 15 RX2 ∈ wAll := List.mem_filter.mpr ⟨tq1 (List.mem_of_getElem? (i := 37) (by decide +kernel)), rfl⟩
theorem q205 : Cond.instantiable RX2 12 ∈ wAll := List.mem_filter.mpr ⟨tq1 (List.mem_of_getElem? (i := 38) (by decide +kernel)), rfl⟩
theorem q206 : Cond.methodLinkNest RX10 17 yX2_init "WarmExtents" ∈ nwAll := List.mem_filter.mpr ⟨tq1 (List.mem_of_getElem? (i := 39) (by decide +kernel)), rfl⟩
theorem q207 : Cond.instanceMethod yX2_init ∈ wAll := List.mem_filter.mpr ⟨tq1 (List.mem_of_getElem? (i := 40) (by decide +kernel)), rfl⟩
theorem q208 : Cond.code yX2_init cX2_init 1 none ∈ wAll := List.mem_filter.mpr ⟨tq1 (List.mem_of_getElem? (i := 41) (by decide +kernel)), rfl⟩
theorem q209 : Cond.methodLink RX2 3 ⟨"java/lang/Object", "<init>", "()V"⟩ ∈ wAll := List.mem_filter.mpr ⟨tq1 (List.mem_of_getElem? (i := 42) (by decide +kernel)), rfl⟩
theorem q210 : Cond.fieldLink RX2 9 "WarmExtents$Extents" "fast" "[I" ∈ wAll := List.mem_filter.mpr ⟨tq1 (List.mem_of_getElem? (i := 43) (by decide +kernel)), rfl⟩
theorem q211 : Cond.fieldLinkNest RX6 76 "WarmExtents$Extents" "fast" "[I" "WarmExtents" ∈ nwAll := List.mem_filter.mpr ⟨tq1 (List.mem_of_getElem? (i := 44) (by decide +kernel)), rfl⟩
theorem q212 : Cond.fieldLinkNest RX10 76 "WarmExtents$Extents" "fast" "[I" "WarmExtents" ∈ nwAll := List.mem_filter.mpr ⟨tq1 (List.mem_of_getElem? (i := 45) (by decide +kernel)), rfl⟩
theorem q213 : Cond.fieldLinkNest RX11 103 "WarmExtents$Extents" "fast" "[I" "WarmExtents" ∈ nwAll := List.mem_filter.mpr ⟨tq1 (List.mem_of_getElem? (i := 46) (by decide +kernel)), rfl⟩
theorem q214 : Cond.fieldLink RX2 15 "WarmExtents$Extents" "pinned" "[I" ∈ wAll := List.mem_filter.mpr ⟨tq1 (List.mem_of_getElem? (i := 47) (by decide +kernel)), rfl⟩
theorem q215 : Cond.fieldLinkNest RX6 110 "WarmExtents$Extents" "pinned" "[I" "WarmExtents" ∈ nwAll := List.mem_filter.mpr ⟨tq1 (List.mem_of_getElem? (i := 48) (by decide +kernel)), rfl⟩
theorem q216 : Cond.fieldLinkNest RX11 120 "WarmExtents$Extents" "pinned" "[I" "WarmExtents" ∈ nwAll := List.mem_filter.mpr ⟨tq1 (List.mem_of_getElem? (i := 49) (by decide +kernel)), rfl⟩
theorem q217 : Cond.fieldLink RX2 18 "WarmExtents$Extents" "rest" "[I" ∈ wAll := List.mem_filter.mpr ⟨tq1 (List.mem_of_getElem? (i := 50) (by decide +kernel)), rfl⟩
theorem q218 : Cond.fieldLinkNest RX6 81 "WarmExtents$Extents" "rest" "[I" "WarmExtents" ∈ nwAll := List.mem_filter.mpr ⟨tq1 (List.mem_of_getElem? (i := 51) (by decide +kernel)), rfl⟩
theorem q219 : Cond.fieldLinkNest RX10 184 "WarmExtents$Extents" "rest" "[I" "WarmExtents" ∈ nwAll := List.mem_filter.mpr ⟨tq1 (List.mem_of_getElem? (i := 52) (by decide +kernel)), rfl⟩
theorem q220 : Cond.fieldLink RX2 21 "WarmExtents$Extents" "dirty" "[I" ∈ wAll := List.mem_filter.mpr ⟨tq1 (List.mem_of_getElem? (i := 53) (by decide +kernel)), rfl⟩
theorem q221 : Cond.fieldLinkNest RX6 94 "WarmExtents$Extents" "dirty" "[I" "WarmExtents" ∈ nwAll := List.mem_filter.mpr ⟨tq1 (List.mem_of_getElem? (i := 54) (by decide +kernel)), rfl⟩
theorem q222 : Cond.fieldLinkNest RX10 109 "WarmExtents$Extents" "dirty" "[I" "WarmExtents" ∈ nwAll := List.mem_filter.mpr ⟨tq1 (List.mem_of_getElem? (i := 55) (by decide +kernel)), rfl⟩
theorem q223 : Cond.fieldLink RX2 24 "WarmExtents$Extents" "switched" "[I" ∈ wAll := List.mem_filter.mpr ⟨tq1 (List.mem_of_getElem? (i := 56) (by decide +kernel)), rfl⟩
theorem q224 : Cond.fieldLinkNest RX10 187 "WarmExtents$Extents" "switched" "[I" "WarmExtents" ∈ nwAll := List.mem_filter.mpr ⟨tq1 (List.mem_of_getElem? (i := 57) (by decide +kernel)), rfl⟩
theorem q225 : Cond.fieldLink RX2 27 "WarmExtents$Extents" "earned" "[I" ∈ wAll := List.mem_filter.mpr ⟨tq1 (List.mem_of_getElem? (i := 58) (by decide +kernel)), rfl⟩
theorem q226 : Cond.fieldLinkNest RX10 97 "WarmExtents$Extents" "earned" "[I" "WarmExtents" ∈ nwAll := List.mem_filter.mpr ⟨tq1 (List.mem_of_getElem? (i := 59) (by decide +kernel)), rfl⟩
theorem q227 : Cond.fieldLinkNest RX11 263 "WarmExtents$Extents" "earned" "[I" "WarmExtents" ∈ nwAll := List.mem_filter.mpr ⟨tq1 (List.mem_of_getElem? (i := 60) (by decide +kernel)), rfl⟩
theorem q228 : Cond.fieldLink RX2 30 "WarmExtents$Extents" "heat" "[I" ∈ wAll := List.mem_filter.mpr ⟨tq1 (List.mem_of_getElem? (i := 61) (by decide +kernel)), rfl⟩
theorem q229 : Cond.fieldLinkNest RX6 103 "WarmExtents$Extents" "heat" "[I" "WarmExtents" ∈ nwAll := List.mem_filter.mpr ⟨tq1 (List.mem_of_getElem? (i := 62) (by decide +kernel)), rfl⟩
theorem q230 : Cond.fieldLinkNest RX11 201 "WarmExtents$Extents" "heat" "[I" "WarmExtents" ∈ nwAll := List.mem_filter.mpr ⟨tq1 (List.mem_of_getElem? (i := 63) (by decide +kernel)), rfl⟩
theorem q231 : Cond.fieldLink RX2 33 "WarmExtents$Extents" "seen" "[I" ∈ wAll := List.mem_filter.mpr ⟨tq1 (List.mem_of_getElem? (i := 64) (by decide +kernel)), rfl⟩
theorem q232 : Cond.fieldLinkNest RX6 130 "WarmExtents$Extents" "seen" "[I" "WarmExtents" ∈ nwAll := List.mem_filter.mpr ⟨tq1 (List.mem_of_getElem? (i := 65) (by decide +kernel)), rfl⟩
theorem q233 : Cond.fieldLink RX2 36 "WarmExtents$Extents" "plain" "[I" ∈ wAll := List.mem_filter.mpr ⟨tq1 (List.mem_of_getElem? (i := 66) (by decide +kernel)), rfl⟩
theorem q234 : Cond.fieldLinkNest RX6 136 "WarmExtents$Extents" "plain" "[I" "WarmExtents" ∈ nwAll := List.mem_filter.mpr ⟨tq1 (List.mem_of_getElem? (i := 67) (by decide +kernel)), rfl⟩
theorem q235 : Cond.fieldLink RX2 39 "WarmExtents$Extents" "streamed" "[I" ∈ wAll := List.mem_filter.mpr ⟨tq1 (List.mem_of_getElem? (i := 68) (by decide +kernel)), rfl⟩
theorem q236 : Cond.fieldLinkNest RX10 86 "WarmExtents$Extents" "streamed" "[I" "WarmExtents" ∈ nwAll := List.mem_filter.mpr ⟨tq1 (List.mem_of_getElem? (i := 69) (by decide +kernel)), rfl⟩
theorem q237 : Cond.fieldLinkNest RX6 133 "WarmExtents$Extents" "streamed" "[I" "WarmExtents" ∈ nwAll := List.mem_filter.mpr ⟨tq1 (List.mem_of_getElem? (i := 70) (by decide +kernel)), rfl⟩
theorem q238 : Cond.fieldLink RX2 42 "WarmExtents$Extents" "savedHeat" "[I" ∈ wAll := List.mem_filter.mpr ⟨tq1 (List.mem_of_getElem? (i := 71) (by decide +kernel)), rfl⟩
theorem q239 : Cond.fieldLink RX2 45 "WarmExtents$Extents" "savedSeen" "[I" ∈ wAll := List.mem_filter.mpr ⟨tq1 (List.mem_of_getElem? (i := 72) (by decide +kernel)), rfl⟩
theorem q265 : Cond.arrayClass .int ∈ wAll := List.mem_filter.mpr ⟨tq1 (List.mem_of_getElem? (i := 98) (by decide +kernel)), rfl⟩
theorem q266 : Cond.classLink RX10 22 RX1 ∈ wAll := List.mem_filter.mpr ⟨tq1 (List.mem_of_getElem? (i := 99) (by decide +kernel)), rfl⟩
theorem q267 : Cond.instantiable RX1 4 ∈ wAll := List.mem_filter.mpr ⟨tq1 (List.mem_of_getElem? (i := 100) (by decide +kernel)), rfl⟩
theorem q268 : Cond.methodLinkNest RX10 24 yX1_init "WarmExtents" ∈ nwAll := List.mem_filter.mpr ⟨tq1 (List.mem_of_getElem? (i := 101) (by decide +kernel)), rfl⟩
theorem q269 : Cond.instanceMethod yX1_init ∈ wAll := List.mem_filter.mpr ⟨tq1 (List.mem_of_getElem? (i := 102) (by decide +kernel)), rfl⟩
theorem q270 : Cond.code yX1_init cX1_init 2 none ∈ wAll := List.mem_filter.mpr ⟨tq1 (List.mem_of_getElem? (i := 103) (by decide +kernel)), rfl⟩
theorem q271 : Cond.methodLink RX1 3 ⟨"java/lang/Object", "<init>", "()V"⟩ ∈ wAll := List.mem_filter.mpr ⟨tq1 (List.mem_of_getElem? (i := 104) (by decide +kernel)), rfl⟩
theorem q272 : Cond.fieldLink RX1 9 "WarmExtents$Disks" "slowValue" "[I" ∈ wAll := List.mem_filter.mpr ⟨tq1 (List.mem_of_getElem? (i := 105) (by decide +kernel)), rfl⟩
theorem q273 : Cond.fieldLinkNest RX10 103 "WarmExtents$Disks" "slowValue" "[I" "WarmExtents" ∈ nwAll := List.mem_filter.mpr ⟨tq1 (List.mem_of_getElem? (i := 106) (by decide +kernel)), rfl⟩
theorem q274 : Cond.fieldLinkNest RX11 192 "WarmExtents$Disks" "slowValue" "[I" "WarmExtents" ∈ nwAll := List.mem_filter.mpr ⟨tq1 (List.mem_of_getElem? (i := 107) (by decide +kernel)), rfl⟩
theorem q275 : Cond.fieldLink RX1 15 "WarmExtents$Disks" "fastValue" "[I" ∈ wAll := List.mem_filter.mpr ⟨tq1 (List.mem_of_getElem? (i := 108) (by decide +kernel)), rfl⟩
theorem q276 : Cond.fieldLinkNest RX11 189 "WarmExtents$Disks" "fastValue" "[I" "WarmExtents" ∈ nwAll := List.mem_filter.mpr ⟨tq1 (List.mem_of_getElem? (i := 109) (by decide +kernel)), rfl⟩
theorem q277 : Cond.fieldLink RX1 18 "WarmExtents$Disks" "slotOf" "[I" ∈ wAll := List.mem_filter.mpr ⟨tq1 (List.mem_of_getElem? (i := 110) (by decide +kernel)), rfl⟩
theorem q278 : Cond.fieldLinkNest RX11 181 "WarmExtents$Disks" "slotOf" "[I" "WarmExtents" ∈ nwAll := List.mem_filter.mpr ⟨tq1 (List.mem_of_getElem? (i := 111) (by decide +kernel)), rfl⟩
theorem q279 : Cond.fieldLink RX1 21 "WarmExtents$Disks" "holderOf" "[I" ∈ wAll := List.mem_filter.mpr ⟨tq1 (List.mem_of_getElem? (i := 112) (by decide +kernel)), rfl⟩
theorem q280 : Cond.fieldLinkNest RX11 195 "WarmExtents$Disks" "holderOf" "[I" "WarmExtents" ∈ nwAll := List.mem_filter.mpr ⟨tq1 (List.mem_of_getElem? (i := 113) (by decide +kernel)), rfl⟩
theorem q290 : Cond.classLink RX10 29 RX3 ∈ wAll := List.mem_filter.mpr ⟨tq1 (List.mem_of_getElem? (i := 123) (by decide +kernel)), rfl⟩
theorem q291 : Cond.instantiable RX3 3 ∈ wAll := List.mem_filter.mpr ⟨tq1 (List.mem_of_getElem? (i := 124) (by decide +kernel)), rfl⟩
theorem q292 : Cond.methodLinkNest RX10 31 yX3_init "WarmExtents" ∈ nwAll := List.mem_filter.mpr ⟨tq1 (List.mem_of_getElem? (i := 125) (by decide +kernel)), rfl⟩
theorem q293 : Cond.instanceMethod yX3_init ∈ wAll := List.mem_filter.mpr ⟨tq1 (List.mem_of_getElem? (i := 126) (by decide +kernel)), rfl⟩
theorem q294 : Cond.code yX3_init cX3_init 1 none ∈ wAll := List.mem_filter.mpr ⟨tq1 (List.mem_of_getElem? (i := 127) (by decide +kernel)), rfl⟩
theorem q295 : Cond.methodLink RX3 3 ⟨"java/lang/Object", "<init>", "()V"⟩ ∈ wAll := List.mem_filter.mpr ⟨tq1 (List.mem_of_getElem? (i := 128) (by decide +kernel)), rfl⟩
theorem q296 : Cond.fieldLink RX3 9 "WarmExtents$Heads" "many" "I" ∈ wAll := List.mem_filter.mpr ⟨tq1 (List.mem_of_getElem? (i := 129) (by decide +kernel)), rfl⟩
theorem q297 : Cond.fieldLinkNest RX10 222 "WarmExtents$Heads" "many" "I" "WarmExtents" ∈ nwAll := List.mem_filter.mpr ⟨tq1 (List.mem_of_getElem? (i := 130) (by decide +kernel)), rfl⟩
theorem q298 : Cond.fieldLink RX3 15 "WarmExtents$Heads" "awaited" "[I" ∈ wAll := List.mem_filter.mpr ⟨tq1 (List.mem_of_getElem? (i := 131) (by decide +kernel)), rfl⟩
theorem q299 : Cond.fieldLink RX3 19 "WarmExtents$Heads" "length" "[I" ∈ wAll := List.mem_filter.mpr ⟨tq1 (List.mem_of_getElem? (i := 132) (by decide +kernel)), rfl⟩
theorem q307 : Cond.classLink RX10 36 RX5 ∈ wAll := List.mem_filter.mpr ⟨tq1 (List.mem_of_getElem? (i := 140) (by decide +kernel)), rfl⟩
theorem q308 : Cond.instantiable RX5 5 ∈ wAll := List.mem_filter.mpr ⟨tq1 (List.mem_of_getElem? (i := 141) (by decide +kernel)), rfl⟩
theorem q309 : Cond.methodLinkNest RX10 38 yX5_init "WarmExtents" ∈ nwAll := List.mem_filter.mpr ⟨tq1 (List.mem_of_getElem? (i := 142) (by decide +kernel)), rfl⟩
theorem q310 : Cond.instanceMethod yX5_init ∈ wAll := List.mem_filter.mpr ⟨tq1 (List.mem_of_getElem? (i := 143) (by decide +kernel)), rfl⟩
theorem q311 : Cond.code yX5_init cX5_init 1 none ∈ wAll := List.mem_filter.mpr ⟨tq1 (List.mem_of_getElem? (i := 144) (by decide +kernel)), rfl⟩
theorem q312 : Cond.methodLink RX5 3 ⟨"java/lang/Object", "<init>", "()V"⟩ ∈ wAll := List.mem_filter.mpr ⟨tq1 (List.mem_of_getElem? (i := 145) (by decide +kernel)), rfl⟩
theorem q313 : Cond.fieldLink RX5 9 "WarmExtents$Moves" "many" "I" ∈ wAll := List.mem_filter.mpr ⟨tq1 (List.mem_of_getElem? (i := 146) (by decide +kernel)), rfl⟩
theorem q314 : Cond.fieldLinkNest RX6 116 "WarmExtents$Moves" "many" "I" "WarmExtents" ∈ nwAll := List.mem_filter.mpr ⟨tq1 (List.mem_of_getElem? (i := 147) (by decide +kernel)), rfl⟩
theorem q315 : Cond.fieldLinkNest RX10 141 "WarmExtents$Moves" "many" "I" "WarmExtents" ∈ nwAll := List.mem_filter.mpr ⟨tq1 (List.mem_of_getElem? (i := 148) (by decide +kernel)), rfl⟩
theorem q316 : Cond.fieldLinkNest RX11 143 "WarmExtents$Moves" "many" "I" "WarmExtents" ∈ nwAll := List.mem_filter.mpr ⟨tq1 (List.mem_of_getElem? (i := 149) (by decide +kernel)), rfl⟩
theorem q317 : Cond.fieldLink RX5 15 "WarmExtents$Moves" "extent" "[I" ∈ wAll := List.mem_filter.mpr ⟨tq1 (List.mem_of_getElem? (i := 150) (by decide +kernel)), rfl⟩
theorem q318 : Cond.fieldLinkNest RX6 124 "WarmExtents$Moves" "extent" "[I" "WarmExtents" ∈ nwAll := List.mem_filter.mpr ⟨tq1 (List.mem_of_getElem? (i := 151) (by decide +kernel)), rfl⟩
theorem q319 : Cond.fieldLinkNest RX10 155 "WarmExtents$Moves" "extent" "[I" "WarmExtents" ∈ nwAll := List.mem_filter.mpr ⟨tq1 (List.mem_of_getElem? (i := 152) (by decide +kernel)), rfl⟩
theorem q320 : Cond.fieldLink RX5 19 "WarmExtents$Moves" "toFast" "[I" ∈ wAll := List.mem_filter.mpr ⟨tq1 (List.mem_of_getElem? (i := 153) (by decide +kernel)), rfl⟩
theorem q321 : Cond.fieldLinkNest RX6 127 "WarmExtents$Moves" "toFast" "[I" "WarmExtents" ∈ nwAll := List.mem_filter.mpr ⟨tq1 (List.mem_of_getElem? (i := 154) (by decide +kernel)), rfl⟩
theorem q322 : Cond.fieldLinkNest RX10 158 "WarmExtents$Moves" "toFast" "[I" "WarmExtents" ∈ nwAll := List.mem_filter.mpr ⟨tq1 (List.mem_of_getElem? (i := 155) (by decide +kernel)), rfl⟩
theorem q323 : Cond.fieldLink RX5 22 "WarmExtents$Moves" "begun" "[I" ∈ wAll := List.mem_filter.mpr ⟨tq1 (List.mem_of_getElem? (i := 156) (by decide +kernel)), rfl⟩
theorem q324 : Cond.fieldLinkNest RX6 121 "WarmExtents$Moves" "begun" "[I" "WarmExtents" ∈ nwAll := List.mem_filter.mpr ⟨tq1 (List.mem_of_getElem? (i := 157) (by decide +kernel)), rfl⟩
theorem q325 : Cond.fieldLinkNest RX10 145 "WarmExtents$Moves" "begun" "[I" "WarmExtents" ∈ nwAll := List.mem_filter.mpr ⟨tq1 (List.mem_of_getElem? (i := 158) (by decide +kernel)), rfl⟩
theorem q326 : Cond.fieldLink RX5 25 "WarmExtents$Moves" "copied" "[I" ∈ wAll := List.mem_filter.mpr ⟨tq1 (List.mem_of_getElem? (i := 159) (by decide +kernel)), rfl⟩
theorem q327 : Cond.fieldLinkNest RX10 115 "WarmExtents$Moves" "copied" "[I" "WarmExtents" ∈ nwAll := List.mem_filter.mpr ⟨tq1 (List.mem_of_getElem? (i := 160) (by decide +kernel)), rfl⟩
theorem q339 : Cond.classLink RX10 43 RX0 ∈ wAll := List.mem_filter.mpr ⟨tq1 (List.mem_of_getElem? (i := 172) (by decide +kernel)), rfl⟩
theorem q340 : Cond.instantiable RX0 2 ∈ wAll := List.mem_filter.mpr ⟨tq1 (List.mem_of_getElem? (i := 173) (by decide +kernel)), rfl⟩
theorem q341 : Cond.methodLinkNest RX10 45 yX0_init "WarmExtents" ∈ nwAll := List.mem_filter.mpr ⟨tq1 (List.mem_of_getElem? (i := 174) (by decide +kernel)), rfl⟩
theorem q342 : Cond.instanceMethod yX0_init ∈ wAll := List.mem_filter.mpr ⟨tq1 (List.mem_of_getElem? (i := 175) (by decide +kernel)), rfl⟩
theorem q343 : Cond.code yX0_init cX0_init 1 none ∈ wAll := List.mem_filter.mpr ⟨tq1 (List.mem_of_getElem? (i := 176) (by decide +kernel)), rfl⟩
theorem q344 : Cond.methodLink RX0 3 ⟨"java/lang/Object", "<init>", "()V"⟩ ∈ wAll := List.mem_filter.mpr ⟨tq1 (List.mem_of_getElem? (i := 177) (by decide +kernel)), rfl⟩
theorem q345 : Cond.fieldLink RX0 9 "WarmExtents$Book" "many" "I" ∈ wAll := List.mem_filter.mpr ⟨tq1 (List.mem_of_getElem? (i := 178) (by decide +kernel)), rfl⟩
theorem q346 : Cond.fieldLink RX0 15 "WarmExtents$Book" "cells" "[I" ∈ wAll := List.mem_filter.mpr ⟨tq1 (List.mem_of_getElem? (i := 179) (by decide +kernel)), rfl⟩
theorem q352 : Cond.fieldLink RX10 9 "WarmExtents$World" "count" "[I" ∈ wAll := List.mem_filter.mpr ⟨tq1 (List.mem_of_getElem? (i := 185) (by decide +kernel)), rfl⟩
theorem q353 : Cond.fieldLinkNest RX6 84 "WarmExtents$World" "count" "[I" "WarmExtents" ∈ nwAll := List.mem_filter.mpr ⟨tq1 (List.mem_of_getElem? (i := 186) (by decide +kernel)), rfl⟩
theorem q354 : Cond.fieldLinkNest RX11 113 "WarmExtents$World" "count" "[I" "WarmExtents" ∈ nwAll := List.mem_filter.mpr ⟨tq1 (List.mem_of_getElem? (i := 187) (by decide +kernel)), rfl⟩
theorem q355 : Cond.fieldLink RX10 18 "WarmExtents$World" "extents" "LWarmExtents$Extents;" ∈ wAll := List.mem_filter.mpr ⟨tq1 (List.mem_of_getElem? (i := 188) (by decide +kernel)), rfl⟩
theorem q356 : Cond.fieldLinkNest RX6 72 "WarmExtents$World" "extents" "LWarmExtents$Extents;" "WarmExtents" ∈ nwAll := List.mem_filter.mpr ⟨tq1 (List.mem_of_getElem? (i := 189) (by decide +kernel)), rfl⟩
theorem q357 : Cond.fieldLinkNest RX11 99 "WarmExtents$World" "extents" "LWarmExtents$Extents;" "WarmExtents" ∈ nwAll := List.mem_filter.mpr ⟨tq1 (List.mem_of_getElem? (i := 190) (by decide +kernel)), rfl⟩
theorem q358 : Cond.fieldLink RX10 25 "WarmExtents$World" "disks" "LWarmExtents$Disks;" ∈ wAll := List.mem_filter.mpr ⟨tq1 (List.mem_of_getElem? (i := 191) (by decide +kernel)), rfl⟩
theorem q359 : Cond.fieldLinkNest RX11 177 "WarmExtents$World" "disks" "LWarmExtents$Disks;" "WarmExtents" ∈ nwAll := List.mem_filter.mpr ⟨tq1 (List.mem_of_getElem? (i := 192) (by decide +kernel)), rfl⟩
theorem q360 : Cond.fieldLink RX10 32 "WarmExtents$World" "heads" "LWarmExtents$Heads;" ∈ wAll := List.mem_filter.mpr ⟨tq1 (List.mem_of_getElem? (i := 193) (by decide +kernel)), rfl⟩
theorem q361 : Cond.fieldLinkNest RX11 207 "WarmExtents$World" "heads" "LWarmExtents$Heads;" "WarmExtents" ∈ nwAll := List.mem_filter.mpr ⟨tq1 (List.mem_of_getElem? (i := 194) (by decide +kernel)), rfl⟩
theorem q362 : Cond.fieldLink RX10 39 "WarmExtents$World" "moves" "LWarmExtents$Moves;" ∈ wAll := List.mem_filter.mpr ⟨tq1 (List.mem_of_getElem? (i := 195) (by decide +kernel)), rfl⟩
theorem q363 : Cond.fieldLinkNest RX6 62 "WarmExtents$World" "moves" "LWarmExtents$Moves;" "WarmExtents" ∈ nwAll := List.mem_filter.mpr ⟨tq1 (List.mem_of_getElem? (i := 196) (by decide +kernel)), rfl⟩
theorem q364 : Cond.fieldLinkNest RX11 130 "WarmExtents$World" "moves" "LWarmExtents$Moves;" "WarmExtents" ∈ nwAll := List.mem_filter.mpr ⟨tq1 (List.mem_of_getElem? (i := 197) (by decide +kernel)), rfl⟩
theorem q365 : Cond.fieldLink RX10 46 "WarmExtents$World" "book" "LWarmExtents$Book;" ∈ wAll := List.mem_filter.mpr ⟨tq1 (List.mem_of_getElem? (i := 198) (by decide +kernel)), rfl⟩
theorem q366 : Cond.fieldLinkNest RX11 287 "WarmExtents$World" "book" "LWarmExtents$Book;" "WarmExtents" ∈ nwAll := List.mem_filter.mpr ⟨tq1 (List.mem_of_getElem? (i := 199) (by decide +kernel)), rfl⟩
theorem q380 : Cond.classLink RX11 19 RX4 ∈ wAll := List.mem_filter.mpr ⟨tq1 (List.mem_of_getElem? (i := 213) (by decide +kernel)), rfl⟩
theorem q381 : Cond.instantiable RX4 3 ∈ wAll := List.mem_filter.mpr ⟨tq1 (List.mem_of_getElem? (i := 214) (by decide +kernel)), rfl⟩
theorem q382 : Cond.methodLinkNest RX11 21 yX4_init "WarmExtents" ∈ nwAll := List.mem_filter.mpr ⟨tq1 (List.mem_of_getElem? (i := 215) (by decide +kernel)), rfl⟩
theorem q383 : Cond.instanceMethod yX4_init ∈ wAll := List.mem_filter.mpr ⟨tq1 (List.mem_of_getElem? (i := 216) (by decide +kernel)), rfl⟩
theorem q384 : Cond.code yX4_init cX4_init 2 none ∈ wAll := List.mem_filter.mpr ⟨tq1 (List.mem_of_getElem? (i := 217) (by decide +kernel)), rfl⟩
theorem q385 : Cond.methodLink RX4 3 ⟨"java/lang/Object", "<init>", "()V"⟩ ∈ wAll := List.mem_filter.mpr ⟨tq1 (List.mem_of_getElem? (i := 218) (by decide +kernel)), rfl⟩
theorem q386 : Cond.classLink RX4 9 RX10 ∈ wAll := List.mem_filter.mpr ⟨tq1 (List.mem_of_getElem? (i := 219) (by decide +kernel)), rfl⟩
theorem q387 : Cond.arrayOver (.object "WarmExtents$World") ∈ nwAll := List.mem_filter.mpr ⟨tq1 (List.mem_of_getElem? (i := 220) (by decide +kernel)), rfl⟩
theorem q388 : Cond.methodLinkNest RX4 24 yX10_init "WarmExtents" ∈ nwAll := List.mem_filter.mpr ⟨tq1 (List.mem_of_getElem? (i := 221) (by decide +kernel)), rfl⟩
theorem q389 : Cond.fieldLink RX4 11 "WarmExtents$History" "rows" "[LWarmExtents$World;" ∈ wAll := List.mem_filter.mpr ⟨tq1 (List.mem_of_getElem? (i := 222) (by decide +kernel)), rfl⟩
theorem q390 : Cond.fieldLink RX4 17 "WarmExtents$History" "first" "I" ∈ wAll := List.mem_filter.mpr ⟨tq1 (List.mem_of_getElem? (i := 223) (by decide +kernel)), rfl⟩
theorem q391 : Cond.fieldLink RX4 21 "WarmExtents$History" "many" "I" ∈ wAll := List.mem_filter.mpr ⟨tq1 (List.mem_of_getElem? (i := 224) (by decide +kernel)), rfl⟩
theorem q392 : Cond.fieldLinkNest RX11 176 "WarmExtents$History" "many" "I" "WarmExtents" ∈ nwAll := List.mem_filter.mpr ⟨tq1 (List.mem_of_getElem? (i := 225) (by decide +kernel)), rfl⟩
theorem q400 : Cond.classLink RX11 26 RX6 ∈ wAll := List.mem_filter.mpr ⟨tq1 (List.mem_of_getElem? (i := 233) (by decide +kernel)), rfl⟩
theorem q401 : Cond.instantiable RX6 13 ∈ wAll := List.mem_filter.mpr ⟨tq1 (List.mem_of_getElem? (i := 234) (by decide +kernel)), rfl⟩
theorem q402 : Cond.methodLinkNest RX11 28 yX6_init "WarmExtents" ∈ nwAll := List.mem_filter.mpr ⟨tq1 (List.mem_of_getElem? (i := 235) (by decide +kernel)), rfl⟩
theorem q403 : Cond.instanceMethod yX6_init ∈ wAll := List.mem_filter.mpr ⟨tq1 (List.mem_of_getElem? (i := 236) (by decide +kernel)), rfl⟩
theorem q404 : Cond.code yX6_init cX6_init 1 none ∈ wAll := List.mem_filter.mpr ⟨tq1 (List.mem_of_getElem? (i := 237) (by decide +kernel)), rfl⟩
theorem q405 : Cond.methodLink RX6 3 ⟨"java/lang/Object", "<init>", "()V"⟩ ∈ wAll := List.mem_filter.mpr ⟨tq1 (List.mem_of_getElem? (i := 238) (by decide +kernel)), rfl⟩
theorem q406 : Cond.fieldLink RX6 9 "WarmExtents$Planner" "mayBeIn" "[Z" ∈ wAll := List.mem_filter.mpr ⟨tq1 (List.mem_of_getElem? (i := 239) (by decide +kernel)), rfl⟩
theorem q407 : Cond.fieldLink RX6 15 "WarmExtents$Planner" "mayBeOut" "[Z" ∈ wAll := List.mem_filter.mpr ⟨tq2 (List.mem_of_getElem? (i := 0) (by decide +kernel)), rfl⟩
theorem q408 : Cond.fieldLink RX6 18 "WarmExtents$Planner" "bound" "[Z" ∈ wAll := List.mem_filter.mpr ⟨tq2 (List.mem_of_getElem? (i := 1) (by decide +kernel)), rfl⟩
theorem q409 : Cond.fieldLink RX6 21 "WarmExtents$Planner" "worthIn" "[I" ∈ wAll := List.mem_filter.mpr ⟨tq2 (List.mem_of_getElem? (i := 2) (by decide +kernel)), rfl⟩
theorem q410 : Cond.fieldLink RX6 25 "WarmExtents$Planner" "worthOut" "[I" ∈ wAll := List.mem_filter.mpr ⟨tq2 (List.mem_of_getElem? (i := 3) (by decide +kernel)), rfl⟩
theorem q411 : Cond.fieldLink RX6 28 "WarmExtents$Planner" "needIn" "[I" ∈ wAll := List.mem_filter.mpr ⟨tq2 (List.mem_of_getElem? (i := 4) (by decide +kernel)), rfl⟩
theorem q412 : Cond.fieldLink RX6 31 "WarmExtents$Planner" "needOut" "[I" ∈ wAll := List.mem_filter.mpr ⟨tq2 (List.mem_of_getElem? (i := 5) (by decide +kernel)), rfl⟩
theorem q413 : Cond.fieldLink RX6 34 "WarmExtents$Planner" "room" "I" ∈ wAll := List.mem_filter.mpr ⟨tq2 (List.mem_of_getElem? (i := 6) (by decide +kernel)), rfl⟩
theorem q414 : Cond.fieldLink RX6 38 "WarmExtents$Planner" "found" "Z" ∈ wAll := List.mem_filter.mpr ⟨tq2 (List.mem_of_getElem? (i := 7) (by decide +kernel)), rfl⟩
theorem q415 : Cond.fieldLink RX6 42 "WarmExtents$Planner" "bestSet" "I" ∈ wAll := List.mem_filter.mpr ⟨tq2 (List.mem_of_getElem? (i := 8) (by decide +kernel)), rfl⟩
theorem q416 : Cond.fieldLinkNest RX10 216 "WarmExtents$Planner" "bestSet" "I" "WarmExtents" ∈ nwAll := List.mem_filter.mpr ⟨tq2 (List.mem_of_getElem? (i := 9) (by decide +kernel)), rfl⟩
theorem q417 : Cond.fieldLinkNest RX11 222 "WarmExtents$Planner" "bestSet" "I" "WarmExtents" ∈ nwAll := List.mem_filter.mpr ⟨tq2 (List.mem_of_getElem? (i := 10) (by decide +kernel)), rfl⟩
theorem q418 : Cond.fieldLink RX6 45 "WarmExtents$Planner" "bestWorth" "I" ∈ wAll := List.mem_filter.mpr ⟨tq2 (List.mem_of_getElem? (i := 11) (by decide +kernel)), rfl⟩
theorem q419 : Cond.fieldLinkNest RX11 226 "WarmExtents$Planner" "bestWorth" "I" "WarmExtents" ∈ nwAll := List.mem_filter.mpr ⟨tq2 (List.mem_of_getElem? (i := 12) (by decide +kernel)), rfl⟩
theorem q420 : Cond.fieldLink RX6 48 "WarmExtents$Planner" "newMoves" "[I" ∈ wAll := List.mem_filter.mpr ⟨tq2 (List.mem_of_getElem? (i := 13) (by decide +kernel)), rfl⟩
theorem q421 : Cond.fieldLinkNest RX10 211 "WarmExtents$Planner" "newMoves" "[I" "WarmExtents" ∈ nwAll := List.mem_filter.mpr ⟨tq2 (List.mem_of_getElem? (i := 14) (by decide +kernel)), rfl⟩
theorem q422 : Cond.fieldLinkNest RX11 260 "WarmExtents$Planner" "newMoves" "[I" "WarmExtents" ∈ nwAll := List.mem_filter.mpr ⟨tq2 (List.mem_of_getElem? (i := 15) (by decide +kernel)), rfl⟩
theorem q423 : Cond.fieldLink RX6 51 "WarmExtents$Planner" "newMany" "I" ∈ wAll := List.mem_filter.mpr ⟨tq2 (List.mem_of_getElem? (i := 16) (by decide +kernel)), rfl⟩
theorem q424 : Cond.fieldLinkNest RX10 208 "WarmExtents$Planner" "newMany" "I" "WarmExtents" ∈ nwAll := List.mem_filter.mpr ⟨tq2 (List.mem_of_getElem? (i := 17) (by decide +kernel)), rfl⟩
theorem q425 : Cond.fieldLinkNest RX11 257 "WarmExtents$Planner" "newMany" "I" "WarmExtents" ∈ nwAll := List.mem_filter.mpr ⟨tq2 (List.mem_of_getElem? (i := 18) (by decide +kernel)), rfl⟩
theorem q453 : Cond.arrayClass .boolean ∈ wAll := List.mem_filter.mpr ⟨tq2 (List.mem_of_getElem? (i := 46) (by decide +kernel)), rfl⟩
theorem q454 : Cond.classLink RX11 33 RX7 ∈ wAll := List.mem_filter.mpr ⟨tq2 (List.mem_of_getElem? (i := 47) (by decide +kernel)), rfl⟩
theorem q455 : Cond.instantiable RX7 8 ∈ wAll := List.mem_filter.mpr ⟨tq2 (List.mem_of_getElem? (i := 48) (by decide +kernel)), rfl⟩
theorem q456 : Cond.methodLinkNest RX11 35 yX7_init "WarmExtents" ∈ nwAll := List.mem_filter.mpr ⟨tq2 (List.mem_of_getElem? (i := 49) (by decide +kernel)), rfl⟩
theorem q457 : Cond.instanceMethod yX7_init ∈ wAll := List.mem_filter.mpr ⟨tq2 (List.mem_of_getElem? (i := 50) (by decide +kernel)), rfl⟩
theorem q458 : Cond.code yX7_init cX7_init 1 none ∈ wAll := List.mem_filter.mpr ⟨tq2 (List.mem_of_getElem? (i := 51) (by decide +kernel)), rfl⟩
theorem q459 : Cond.methodLink RX7 3 ⟨"java/lang/Object", "<init>", "()V"⟩ ∈ wAll := List.mem_filter.mpr ⟨tq2 (List.mem_of_getElem? (i := 52) (by decide +kernel)), rfl⟩
theorem q460 : Cond.fieldLink RX7 9 "WarmExtents$Player" "script" "LWarmExtents$Text;" ∈ wAll := List.mem_filter.mpr ⟨tq2 (List.mem_of_getElem? (i := 53) (by decide +kernel)), rfl⟩
theorem q461 : Cond.fieldLink RX7 15 "WarmExtents$Player" "world" "LWarmExtents$World;" ∈ wAll := List.mem_filter.mpr ⟨tq2 (List.mem_of_getElem? (i := 54) (by decide +kernel)), rfl⟩
theorem q462 : Cond.fieldLink RX7 19 "WarmExtents$Player" "planner" "LWarmExtents$Planner;" ∈ wAll := List.mem_filter.mpr ⟨tq2 (List.mem_of_getElem? (i := 55) (by decide +kernel)), rfl⟩
theorem q463 : Cond.fieldLink RX7 23 "WarmExtents$Player" "at" "I" ∈ wAll := List.mem_filter.mpr ⟨tq2 (List.mem_of_getElem? (i := 56) (by decide +kernel)), rfl⟩
theorem q464 : Cond.fieldLink RX7 27 "WarmExtents$Player" "acts" "I" ∈ wAll := List.mem_filter.mpr ⟨tq2 (List.mem_of_getElem? (i := 57) (by decide +kernel)), rfl⟩
theorem q465 : Cond.fieldLink RX7 30 "WarmExtents$Player" "depth" "I" ∈ wAll := List.mem_filter.mpr ⟨tq2 (List.mem_of_getElem? (i := 58) (by decide +kernel)), rfl⟩
theorem q466 : Cond.fieldLink RX7 33 "WarmExtents$Player" "rounds" "[I" ∈ wAll := List.mem_filter.mpr ⟨tq2 (List.mem_of_getElem? (i := 59) (by decide +kernel)), rfl⟩
theorem q467 : Cond.fieldLink RX7 37 "WarmExtents$Player" "times" "[I" ∈ wAll := List.mem_filter.mpr ⟨tq2 (List.mem_of_getElem? (i := 60) (by decide +kernel)), rfl⟩
theorem q485 : Cond.classLink RX11 40 RX8 ∈ wAll := List.mem_filter.mpr ⟨tq2 (List.mem_of_getElem? (i := 78) (by decide +kernel)), rfl⟩
theorem q486 : Cond.instantiable RX8 14 ∈ wAll := List.mem_filter.mpr ⟨tq2 (List.mem_of_getElem? (i := 79) (by decide +kernel)), rfl⟩
theorem q487 : Cond.methodLinkNest RX11 42 yX8_init "WarmExtents" ∈ nwAll := List.mem_filter.mpr ⟨tq2 (List.mem_of_getElem? (i := 80) (by decide +kernel)), rfl⟩
theorem q488 : Cond.instanceMethod yX8_init ∈ wAll := List.mem_filter.mpr ⟨tq2 (List.mem_of_getElem? (i := 81) (by decide +kernel)), rfl⟩
theorem q489 : Cond.code yX8_init cX8_init 1 none ∈ wAll := List.mem_filter.mpr ⟨tq2 (List.mem_of_getElem? (i := 82) (by decide +kernel)), rfl⟩
theorem q490 : Cond.methodLink RX8 3 ⟨"java/lang/Object", "<init>", "()V"⟩ ∈ wAll := List.mem_filter.mpr ⟨tq2 (List.mem_of_getElem? (i := 83) (by decide +kernel)), rfl⟩
theorem q491 : Cond.fieldLink RX8 9 "WarmExtents$Reader" "tape" "[I" ∈ wAll := List.mem_filter.mpr ⟨tq2 (List.mem_of_getElem? (i := 84) (by decide +kernel)), rfl⟩
theorem q492 : Cond.fieldLink RX8 15 "WarmExtents$Reader" "length" "I" ∈ wAll := List.mem_filter.mpr ⟨tq2 (List.mem_of_getElem? (i := 85) (by decide +kernel)), rfl⟩
theorem q493 : Cond.fieldLinkNest RX11 66 "WarmExtents$Reader" "length" "I" "WarmExtents" ∈ nwAll := List.mem_filter.mpr ⟨tq2 (List.mem_of_getElem? (i := 86) (by decide +kernel)), rfl⟩
theorem q494 : Cond.fieldLink RX8 19 "WarmExtents$Reader" "fault" "I" ∈ wAll := List.mem_filter.mpr ⟨tq2 (List.mem_of_getElem? (i := 87) (by decide +kernel)), rfl⟩
theorem q495 : Cond.fieldLinkNest RX11 77 "WarmExtents$Reader" "fault" "I" "WarmExtents" ∈ nwAll := List.mem_filter.mpr ⟨tq2 (List.mem_of_getElem? (i := 88) (by decide +kernel)), rfl⟩
theorem q496 : Cond.fieldLink RX8 22 "WarmExtents$Reader" "faultPlace" "I" ∈ wAll := List.mem_filter.mpr ⟨tq2 (List.mem_of_getElem? (i := 89) (by decide +kernel)), rfl⟩
theorem q497 : Cond.fieldLinkNest RX11 80 "WarmExtents$Reader" "faultPlace" "I" "WarmExtents" ∈ nwAll := List.mem_filter.mpr ⟨tq2 (List.mem_of_getElem? (i := 90) (by decide +kernel)), rfl⟩
theorem q498 : Cond.fieldLink RX8 25 "WarmExtents$Reader" "kinds" "[I" ∈ wAll := List.mem_filter.mpr ⟨tq2 (List.mem_of_getElem? (i := 91) (by decide +kernel)), rfl⟩
theorem q499 : Cond.fieldLink RX8 28 "WarmExtents$Reader" "values" "[I" ∈ wAll := List.mem_filter.mpr ⟨tq2 (List.mem_of_getElem? (i := 92) (by decide +kernel)), rfl⟩
theorem q500 : Cond.fieldLink RX8 31 "WarmExtents$Reader" "places" "[I" ∈ wAll := List.mem_filter.mpr ⟨tq2 (List.mem_of_getElem? (i := 93) (by decide +kernel)), rfl⟩
theorem q501 : Cond.fieldLink RX8 34 "WarmExtents$Reader" "many" "I" ∈ wAll := List.mem_filter.mpr ⟨tq2 (List.mem_of_getElem? (i := 94) (by decide +kernel)), rfl⟩
theorem q502 : Cond.fieldLink RX8 37 "WarmExtents$Reader" "at" "I" ∈ wAll := List.mem_filter.mpr ⟨tq2 (List.mem_of_getElem? (i := 95) (by decide +kernel)), rfl⟩
theorem q503 : Cond.fieldLink RX8 40 "WarmExtents$Reader" "statements" "I" ∈ wAll := List.mem_filter.mpr ⟨tq2 (List.mem_of_getElem? (i := 96) (by decide +kernel)), rfl⟩
theorem q504 : Cond.fieldLink RX8 43 "WarmExtents$Reader" "depth" "I" ∈ wAll := List.mem_filter.mpr ⟨tq2 (List.mem_of_getElem? (i := 97) (by decide +kernel)), rfl⟩
theorem q505 : Cond.fieldLink RX8 46 "WarmExtents$Reader" "openedAt" "[I" ∈ wAll := List.mem_filter.mpr ⟨tq2 (List.mem_of_getElem? (i := 98) (by decide +kernel)), rfl⟩
theorem q506 : Cond.fieldLink RX8 49 "WarmExtents$Reader" "loops" "I" ∈ wAll := List.mem_filter.mpr ⟨tq2 (List.mem_of_getElem? (i := 99) (by decide +kernel)), rfl⟩
theorem q507 : Cond.fieldLink RX8 52 "WarmExtents$Reader" "loopDepth" "[I" ∈ wAll := List.mem_filter.mpr ⟨tq2 (List.mem_of_getElem? (i := 100) (by decide +kernel)), rfl⟩
theorem q537 : Cond.classLink RX11 47 RX9 ∈ wAll := List.mem_filter.mpr ⟨tq2 (List.mem_of_getElem? (i := 130) (by decide +kernel)), rfl⟩
theorem q538 : Cond.arrayOver (.object "WarmExtents$Text") ∈ nwAll := List.mem_filter.mpr ⟨tq2 (List.mem_of_getElem? (i := 131) (by decide +kernel)), rfl⟩
theorem q539 : Cond.fieldLink RX11 10 "WarmExtents" "now" "LWarmExtents$World;" ∈ wAll := List.mem_filter.mpr ⟨tq2 (List.mem_of_getElem? (i := 132) (by decide +kernel)), rfl⟩
theorem q540 : Cond.fieldLink RX11 16 "WarmExtents" "scratch" "LWarmExtents$World;" ∈ wAll := List.mem_filter.mpr ⟨tq2 (List.mem_of_getElem? (i := 133) (by decide +kernel)), rfl⟩
theorem q541 : Cond.fieldLink RX11 22 "WarmExtents" "steps" "LWarmExtents$History;" ∈ wAll := List.mem_filter.mpr ⟨tq2 (List.mem_of_getElem? (i := 134) (by decide +kernel)), rfl⟩
theorem q542 : Cond.fieldLink RX11 29 "WarmExtents" "planner" "LWarmExtents$Planner;" ∈ wAll := List.mem_filter.mpr ⟨tq2 (List.mem_of_getElem? (i := 135) (by decide +kernel)), rfl⟩
theorem q543 : Cond.fieldLink RX11 36 "WarmExtents" "player" "LWarmExtents$Player;" ∈ wAll := List.mem_filter.mpr ⟨tq2 (List.mem_of_getElem? (i := 136) (by decide +kernel)), rfl⟩
theorem q544 : Cond.fieldLink RX11 43 "WarmExtents" "reader" "LWarmExtents$Reader;" ∈ wAll := List.mem_filter.mpr ⟨tq2 (List.mem_of_getElem? (i := 137) (by decide +kernel)), rfl⟩
theorem q545 : Cond.fieldLink RX11 49 "WarmExtents" "texts" "[LWarmExtents$Text;" ∈ wAll := List.mem_filter.mpr ⟨tq2 (List.mem_of_getElem? (i := 138) (by decide +kernel)), rfl⟩
theorem q546 : Cond.fieldLink RX11 53 "WarmExtents" "textCount" "I" ∈ wAll := List.mem_filter.mpr ⟨tq2 (List.mem_of_getElem? (i := 139) (by decide +kernel)), rfl⟩
theorem q547 : Cond.fieldLink RX11 57 "WarmExtents" "imageWorld" "LWarmExtents$World;" ∈ wAll := List.mem_filter.mpr ⟨tq2 (List.mem_of_getElem? (i := 140) (by decide +kernel)), rfl⟩
theorem q548 : Cond.fieldLink RX11 60 "WarmExtents" "imageSteps" "LWarmExtents$History;" ∈ wAll := List.mem_filter.mpr ⟨tq2 (List.mem_of_getElem? (i := 141) (by decide +kernel)), rfl⟩
theorem q549 : Cond.fieldLink RX11 63 "WarmExtents" "imageTextCount" "I" ∈ wAll := List.mem_filter.mpr ⟨tq2 (List.mem_of_getElem? (i := 142) (by decide +kernel)), rfl⟩
theorem q573 : Cond.methodLink RL 13 yX11_feed ∈ wAll := List.mem_filter.mpr ⟨tq2 (List.mem_of_getElem? (i := 166) (by decide +kernel)), rfl⟩
theorem q574 : Cond.instanceMethod yX11_feed ∈ wAll := List.mem_filter.mpr ⟨tq2 (List.mem_of_getElem? (i := 167) (by decide +kernel)), rfl⟩
theorem q575 : Cond.selects RX11 yX11_feed yX11_feed ∈ wAll := List.mem_filter.mpr ⟨tq2 (List.mem_of_getElem? (i := 168) (by decide +kernel)), rfl⟩
theorem q576 : Cond.code yX11_feed cX11_feed 6 (some .int) ∈ wAll := List.mem_filter.mpr ⟨tq2 (List.mem_of_getElem? (i := 169) (by decide +kernel)), rfl⟩
theorem q577 : Cond.methodLinkNest RX11 69 yX8_append "WarmExtents" ∈ nwAll := List.mem_filter.mpr ⟨tq2 (List.mem_of_getElem? (i := 170) (by decide +kernel)), rfl⟩
theorem q579 : Cond.instanceMethod yX8_append ∈ wAll := List.mem_filter.mpr ⟨tq2 (List.mem_of_getElem? (i := 172) (by decide +kernel)), rfl⟩
theorem q580 : Cond.code yX8_append cX8_append 3 none ∈ wAll := List.mem_filter.mpr ⟨tq2 (List.mem_of_getElem? (i := 173) (by decide +kernel)), rfl⟩
theorem q581 : Cond.methodLink RL 18 yX11_end ∈ wAll := List.mem_filter.mpr ⟨tq2 (List.mem_of_getElem? (i := 174) (by decide +kernel)), rfl⟩
theorem q582 : Cond.instanceMethod yX11_end ∈ wAll := List.mem_filter.mpr ⟨tq2 (List.mem_of_getElem? (i := 175) (by decide +kernel)), rfl⟩
theorem q583 : Cond.selects RX11 yX11_end yX11_end ∈ wAll := List.mem_filter.mpr ⟨tq2 (List.mem_of_getElem? (i := 176) (by decide +kernel)), rfl⟩
theorem q584 : Cond.code yX11_end cX11_end 2 (some .int) ∈ wAll := List.mem_filter.mpr ⟨tq2 (List.mem_of_getElem? (i := 177) (by decide +kernel)), rfl⟩
theorem q585 : Cond.methodLink RL 23 yX11_text ∈ wAll := List.mem_filter.mpr ⟨tq2 (List.mem_of_getElem? (i := 178) (by decide +kernel)), rfl⟩
theorem q586 : Cond.instanceMethod yX11_text ∈ wAll := List.mem_filter.mpr ⟨tq2 (List.mem_of_getElem? (i := 179) (by decide +kernel)), rfl⟩
theorem q587 : Cond.selects RX11 yX11_text yX11_text ∈ wAll := List.mem_filter.mpr ⟨tq2 (List.mem_of_getElem? (i := 180) (by decide +kernel)), rfl⟩
theorem q588 : Cond.code yX11_text cX11_text 2 (some .int) ∈ wAll := List.mem_filter.mpr ⟨tq2 (List.mem_of_getElem? (i := 181) (by decide +kernel)), rfl⟩
theorem q589 : Cond.methodLinkNest RX11 73 yX8_parse "WarmExtents" ∈ nwAll := List.mem_filter.mpr ⟨tq2 (List.mem_of_getElem? (i := 182) (by decide +kernel)), rfl⟩
theorem q591 : Cond.instanceMethod yX8_parse ∈ wAll := List.mem_filter.mpr ⟨tq2 (List.mem_of_getElem? (i := 184) (by decide +kernel)), rfl⟩
theorem q592 : Cond.code yX8_parse cX8_parse 2 (some (.object "WarmExtents$Text")) ∈ wAll := List.mem_filter.mpr ⟨tq2 (List.mem_of_getElem? (i := 185) (by decide +kernel)), rfl⟩
theorem q593 : Cond.methodLink RX8 55 yX8_listTokens ∈ wAll := List.mem_filter.mpr ⟨tq2 (List.mem_of_getElem? (i := 186) (by decide +kernel)), rfl⟩
theorem q595 : Cond.instanceMethod yX8_listTokens ∈ wAll := List.mem_filter.mpr ⟨tq2 (List.mem_of_getElem? (i := 188) (by decide +kernel)), rfl⟩
theorem q596 : Cond.code yX8_listTokens cX8_listTokens 5 none ∈ wAll := List.mem_filter.mpr ⟨tq2 (List.mem_of_getElem? (i := 189) (by decide +kernel)), rfl⟩
theorem q597 : Cond.methodLink RX8 73 yX8_isLetter ∈ wAll := List.mem_filter.mpr ⟨tq2 (List.mem_of_getElem? (i := 190) (by decide +kernel)), rfl⟩
theorem q598 : Cond.static yX8_isLetter ∈ wAll := List.mem_filter.mpr ⟨tq2 (List.mem_of_getElem? (i := 191) (by decide +kernel)), rfl⟩
theorem q599 : Cond.code yX8_isLetter cX8_isLetter 1 (some .boolean) ∈ wAll := List.mem_filter.mpr ⟨tq2 (List.mem_of_getElem? (i := 192) (by decide +kernel)), rfl⟩
theorem q600 : Cond.methodLink RX8 77 yX8_behindLetters ∈ wAll := List.mem_filter.mpr ⟨tq2 (List.mem_of_getElem? (i := 193) (by decide +kernel)), rfl⟩
theorem q602 : Cond.instanceMethod yX8_behindLetters ∈ wAll := List.mem_filter.mpr ⟨tq2 (List.mem_of_getElem? (i := 195) (by decide +kernel)), rfl⟩
theorem q603 : Cond.code yX8_behindLetters cX8_behindLetters 3 (some .int) ∈ wAll := List.mem_filter.mpr ⟨tq2 (List.mem_of_getElem? (i := 196) (by decide +kernel)), rfl⟩
theorem q604 : Cond.methodLink RX8 81 yX8_addWord ∈ wAll := List.mem_filter.mpr ⟨tq2 (List.mem_of_getElem? (i := 197) (by decide +kernel)), rfl⟩
theorem q606 : Cond.instanceMethod yX8_addWord ∈ wAll := List.mem_filter.mpr ⟨tq2 (List.mem_of_getElem? (i := 199) (by decide +kernel)), rfl⟩
theorem q607 : Cond.code yX8_addWord cX8_addWord 4 none ∈ wAll := List.mem_filter.mpr ⟨tq2 (List.mem_of_getElem? (i := 200) (by decide +kernel)), rfl⟩
theorem q608 : Cond.methodLink RX8 95 yX8_addToken ∈ wAll := List.mem_filter.mpr ⟨tq2 (List.mem_of_getElem? (i := 201) (by decide +kernel)), rfl⟩
theorem q610 : Cond.instanceMethod yX8_addToken ∈ wAll := List.mem_filter.mpr ⟨tq2 (List.mem_of_getElem? (i := 203) (by decide +kernel)), rfl⟩
theorem q611 : Cond.code yX8_addToken cX8_addToken 4 none ∈ wAll := List.mem_filter.mpr ⟨tq2 (List.mem_of_getElem? (i := 204) (by decide +kernel)), rfl⟩
theorem q612 : Cond.methodLink RX8 107 yX8_wordKind ∈ wAll := List.mem_filter.mpr ⟨tq2 (List.mem_of_getElem? (i := 205) (by decide +kernel)), rfl⟩
theorem q614 : Cond.instanceMethod yX8_wordKind ∈ wAll := List.mem_filter.mpr ⟨tq2 (List.mem_of_getElem? (i := 207) (by decide +kernel)), rfl⟩
theorem q615 : Cond.code yX8_wordKind cX8_wordKind 3 (some .int) ∈ wAll := List.mem_filter.mpr ⟨tq2 (List.mem_of_getElem? (i := 208) (by decide +kernel)), rfl⟩
theorem q617 : Cond.methodLink RX8 112 yX8_spells ∈ wAll := List.mem_filter.mpr ⟨tq2 (List.mem_of_getElem? (i := 210) (by decide +kernel)), rfl⟩
theorem q619 : Cond.instanceMethod yX8_spells ∈ wAll := List.mem_filter.mpr ⟨tq2 (List.mem_of_getElem? (i := 212) (by decide +kernel)), rfl⟩
theorem q620 : Cond.code yX8_spells cX8_spells 5 (some .boolean) ∈ wAll := List.mem_filter.mpr ⟨tq2 (List.mem_of_getElem? (i := 213) (by decide +kernel)), rfl⟩
theorem q621 : Cond.methodLink RX8 128 yJ0_length_8abf5 ∈ wAll := List.mem_filter.mpr ⟨tq2 (List.mem_of_getElem? (i := 214) (by decide +kernel)), rfl⟩
theorem q622 : Cond.instanceMethod yJ0_length_8abf5 ∈ wAll := List.mem_filter.mpr ⟨tq2 (List.mem_of_getElem? (i := 215) (by decide +kernel)), rfl⟩
theorem q623 : Cond.selects RJ0 yJ0_length_8abf5 yJ0_length_8abf5 ∈ wAll := List.mem_filter.mpr ⟨tq2 (List.mem_of_getElem? (i := 216) (by decide +kernel)), rfl⟩
theorem q624 : Cond.code yJ0_length_8abf5 cJ0_length_8abf5 1 (some .int) ∈ wAll := List.mem_filter.mpr ⟨tq2 (List.mem_of_getElem? (i := 217) (by decide +kernel)), rfl⟩
theorem q625 : Cond.methodLink RJ0 335 yJ0_coder_7d493 ∈ wAll := List.mem_filter.mpr ⟨tq2 (List.mem_of_getElem? (i := 218) (by decide +kernel)), rfl⟩
theorem q626 : Cond.instanceMethod yJ0_coder_7d493 ∈ wAll := List.mem_filter.mpr ⟨tq2 (List.mem_of_getElem? (i := 219) (by decide +kernel)), rfl⟩
theorem q627 : Cond.selects RJ0 yJ0_coder_7d493 yJ0_coder_7d493 ∈ wAll := List.mem_filter.mpr ⟨tq2 (List.mem_of_getElem? (i := 220) (by decide +kernel)), rfl⟩
theorem q628 : Cond.code yJ0_coder_7d493 cJ0_coder_7d493 1 (some .byte) ∈ wAll := List.mem_filter.mpr ⟨tq2 (List.mem_of_getElem? (i := 221) (by decide +kernel)), rfl⟩
theorem q629 : Cond.fieldLink RJ0 38 "java/lang/String" "COMPACT_STRINGS" "Z" ∈ wAll := List.mem_filter.mpr ⟨tq2 (List.mem_of_getElem? (i := 222) (by decide +kernel)), rfl⟩
theorem q631 : Cond.methodLink RX8 133 yJ0_charAt_5068e ∈ wAll := List.mem_filter.mpr ⟨tq2 (List.mem_of_getElem? (i := 224) (by decide +kernel)), rfl⟩
theorem q632 : Cond.instanceMethod yJ0_charAt_5068e ∈ wAll := List.mem_filter.mpr ⟨tq2 (List.mem_of_getElem? (i := 225) (by decide +kernel)), rfl⟩
theorem q633 : Cond.selects RJ0 yJ0_charAt_5068e yJ0_charAt_5068e ∈ wAll := List.mem_filter.mpr ⟨tq2 (List.mem_of_getElem? (i := 226) (by decide +kernel)), rfl⟩
theorem q634 : Cond.code yJ0_charAt_5068e cJ0_charAt_5068e 2 (some .char) ∈ wAll := List.mem_filter.mpr ⟨tq2 (List.mem_of_getElem? (i := 227) (by decide +kernel)), rfl⟩
theorem q635 : Cond.methodLink RJ0 492 yJ0_isLatin1_aae02 ∈ wAll := List.mem_filter.mpr ⟨tq2 (List.mem_of_getElem? (i := 228) (by decide +kernel)), rfl⟩
theorem q636 : Cond.instanceMethod yJ0_isLatin1_aae02 ∈ wAll := List.mem_filter.mpr ⟨tq2 (List.mem_of_getElem? (i := 229) (by decide +kernel)), rfl⟩
theorem q637 : Cond.selects RJ0 yJ0_isLatin1_aae02 yJ0_isLatin1_aae02 ∈ wAll := List.mem_filter.mpr ⟨tq2 (List.mem_of_getElem? (i := 230) (by decide +kernel)), rfl⟩
theorem q638 : Cond.code yJ0_isLatin1_aae02 cJ0_isLatin1_aae02 1 (some .boolean) ∈ wAll := List.mem_filter.mpr ⟨tq2 (List.mem_of_getElem? (i := 231) (by decide +kernel)), rfl⟩
theorem q639 : Cond.methodLink RJ0 495 yJ1_charAt_3b067 ∈ wAll := List.mem_filter.mpr ⟨tq2 (List.mem_of_getElem? (i := 232) (by decide +kernel)), rfl⟩
theorem q640 : Cond.static yJ1_charAt_3b067 ∈ wAll := List.mem_filter.mpr ⟨tq2 (List.mem_of_getElem? (i := 233) (by decide +kernel)), rfl⟩
theorem q641 : Cond.code yJ1_charAt_3b067 cJ1_charAt_3b067 2 (some .char) ∈ wAll := List.mem_filter.mpr ⟨tq2 (List.mem_of_getElem? (i := 234) (by decide +kernel)), rfl⟩
theorem q642 : Cond.methodLink RJ1 9 yJ0_checkIndex_df160 ∈ wAll := List.mem_filter.mpr ⟨tq2 (List.mem_of_getElem? (i := 235) (by decide +kernel)), rfl⟩
theorem q643 : Cond.static yJ0_checkIndex_df160 ∈ wAll := List.mem_filter.mpr ⟨tq2 (List.mem_of_getElem? (i := 236) (by decide +kernel)), rfl⟩
theorem q644 : Cond.code yJ0_checkIndex_df160 cJ0_checkIndex_df160 2 none ∈ wAll := List.mem_filter.mpr ⟨tq2 (List.mem_of_getElem? (i := 237) (by decide +kernel)), rfl⟩
theorem q645 : Cond.fieldLink RJ0 1053 "jdk/internal/util/Preconditions" "SIOOBE_FORMATTER" "Ljava/util/function/BiFunction;" ∈ wAll := List.mem_filter.mpr ⟨tq2 (List.mem_of_getElem? (i := 238) (by decide +kernel)), rfl⟩
theorem q647 : Cond.methodLink RJ0 1059 yJ3_checkIndex_8e157 ∈ wAll := List.mem_filter.mpr ⟨tq3 (List.mem_of_getElem? (i := 0) (by decide +kernel)), rfl⟩
theorem q648 : Cond.static yJ3_checkIndex_8e157 ∈ wAll := List.mem_filter.mpr ⟨tq3 (List.mem_of_getElem? (i := 1) (by decide +kernel)), rfl⟩
theorem q649 : Cond.code yJ3_checkIndex_8e157 cJ3_checkIndex_8e157 3 (some .int) ∈ wAll := List.mem_filter.mpr ⟨tq3 (List.mem_of_getElem? (i := 2) (by decide +kernel)), rfl⟩
theorem q650 : Cond.methodLink RJ0 498 yJ2_charAt_3b067 ∈ wAll := List.mem_filter.mpr ⟨tq3 (List.mem_of_getElem? (i := 3) (by decide +kernel)), rfl⟩
theorem q651 : Cond.static yJ2_charAt_3b067 ∈ wAll := List.mem_filter.mpr ⟨tq3 (List.mem_of_getElem? (i := 4) (by decide +kernel)), rfl⟩
theorem q652 : Cond.code yJ2_charAt_3b067 cJ2_charAt_3b067 2 (some .char) ∈ wAll := List.mem_filter.mpr ⟨tq3 (List.mem_of_getElem? (i := 5) (by decide +kernel)), rfl⟩
theorem q653 : Cond.methodLink RJ2 67 yJ2_checkIndex_2214a ∈ wAll := List.mem_filter.mpr ⟨tq3 (List.mem_of_getElem? (i := 6) (by decide +kernel)), rfl⟩
theorem q654 : Cond.static yJ2_checkIndex_2214a ∈ wAll := List.mem_filter.mpr ⟨tq3 (List.mem_of_getElem? (i := 7) (by decide +kernel)), rfl⟩
theorem q655 : Cond.code yJ2_checkIndex_2214a cJ2_checkIndex_2214a 2 none ∈ wAll := List.mem_filter.mpr ⟨tq3 (List.mem_of_getElem? (i := 8) (by decide +kernel)), rfl⟩
theorem q656 : Cond.methodLink RJ2 48 yJ2_length_9d52b ∈ wAll := List.mem_filter.mpr ⟨tq3 (List.mem_of_getElem? (i := 9) (by decide +kernel)), rfl⟩
theorem q657 : Cond.static yJ2_length_9d52b ∈ wAll := List.mem_filter.mpr ⟨tq3 (List.mem_of_getElem? (i := 10) (by decide +kernel)), rfl⟩
theorem q658 : Cond.code yJ2_length_9d52b cJ2_length_9d52b 1 (some .int) ∈ wAll := List.mem_filter.mpr ⟨tq3 (List.mem_of_getElem? (i := 11) (by decide +kernel)), rfl⟩
theorem q659 : Cond.methodLink RJ2 414 yJ0_checkIndex_df160 ∈ wAll := List.mem_filter.mpr ⟨tq3 (List.mem_of_getElem? (i := 12) (by decide +kernel)), rfl⟩
theorem q660 : Cond.methodLink RJ2 71 yJ2_getChar_3b067 ∈ wAll := List.mem_filter.mpr ⟨tq3 (List.mem_of_getElem? (i := 13) (by decide +kernel)), rfl⟩
theorem q661 : Cond.static yJ2_getChar_3b067 ∈ wAll := List.mem_filter.mpr ⟨tq3 (List.mem_of_getElem? (i := 14) (by decide +kernel)), rfl⟩
theorem q662 : Cond.code yJ2_getChar_3b067 cJ2_getChar_3b067 2 (some .char) ∈ wAll := List.mem_filter.mpr ⟨tq3 (List.mem_of_getElem? (i := 15) (by decide +kernel)), rfl⟩
theorem q663 : Cond.fieldLink RJ2 44 "java/lang/StringUTF16" "$assertionsDisabled" "Z" ∈ wAll := List.mem_filter.mpr ⟨tq3 (List.mem_of_getElem? (i := 16) (by decide +kernel)), rfl⟩
theorem q665 : Cond.fieldLink RJ2 59 "java/lang/StringUTF16" "HI_BYTE_SHIFT" "I" ∈ wAll := List.mem_filter.mpr ⟨tq3 (List.mem_of_getElem? (i := 18) (by decide +kernel)), rfl⟩
theorem q667 : Cond.fieldLink RJ2 63 "java/lang/StringUTF16" "LO_BYTE_SHIFT" "I" ∈ wAll := List.mem_filter.mpr ⟨tq3 (List.mem_of_getElem? (i := 20) (by decide +kernel)), rfl⟩
theorem q675 : Cond.methodLink RX8 85 yX8_isDigit ∈ wAll := List.mem_filter.mpr ⟨tq3 (List.mem_of_getElem? (i := 28) (by decide +kernel)), rfl⟩
theorem q676 : Cond.static yX8_isDigit ∈ wAll := List.mem_filter.mpr ⟨tq3 (List.mem_of_getElem? (i := 29) (by decide +kernel)), rfl⟩
theorem q677 : Cond.code yX8_isDigit cX8_isDigit 1 (some .boolean) ∈ wAll := List.mem_filter.mpr ⟨tq3 (List.mem_of_getElem? (i := 30) (by decide +kernel)), rfl⟩
theorem q678 : Cond.methodLink RX8 88 yX8_behindDigits ∈ wAll := List.mem_filter.mpr ⟨tq3 (List.mem_of_getElem? (i := 31) (by decide +kernel)), rfl⟩
theorem q680 : Cond.instanceMethod yX8_behindDigits ∈ wAll := List.mem_filter.mpr ⟨tq3 (List.mem_of_getElem? (i := 33) (by decide +kernel)), rfl⟩
theorem q681 : Cond.code yX8_behindDigits cX8_behindDigits 3 (some .int) ∈ wAll := List.mem_filter.mpr ⟨tq3 (List.mem_of_getElem? (i := 34) (by decide +kernel)), rfl⟩
theorem q682 : Cond.methodLink RX8 91 yX8_numberFrom ∈ wAll := List.mem_filter.mpr ⟨tq3 (List.mem_of_getElem? (i := 35) (by decide +kernel)), rfl⟩
theorem q684 : Cond.instanceMethod yX8_numberFrom ∈ wAll := List.mem_filter.mpr ⟨tq3 (List.mem_of_getElem? (i := 37) (by decide +kernel)), rfl⟩
theorem q685 : Cond.code yX8_numberFrom cX8_numberFrom 5 (some .int) ∈ wAll := List.mem_filter.mpr ⟨tq3 (List.mem_of_getElem? (i := 38) (by decide +kernel)), rfl⟩
theorem q686 : Cond.methodLink RX8 102 yJ9_min_7cf53 ∈ wAll := List.mem_filter.mpr ⟨tq3 (List.mem_of_getElem? (i := 39) (by decide +kernel)), rfl⟩
theorem q687 : Cond.static yJ9_min_7cf53 ∈ wAll := List.mem_filter.mpr ⟨tq3 (List.mem_of_getElem? (i := 40) (by decide +kernel)), rfl⟩
theorem q688 : Cond.code yJ9_min_7cf53 cJ9_min_7cf53 2 (some .int) ∈ wAll := List.mem_filter.mpr ⟨tq3 (List.mem_of_getElem? (i := 41) (by decide +kernel)), rfl⟩
theorem q689 : Cond.methodLink RX8 99 yX8_isSign ∈ wAll := List.mem_filter.mpr ⟨tq3 (List.mem_of_getElem? (i := 42) (by decide +kernel)), rfl⟩
theorem q690 : Cond.static yX8_isSign ∈ wAll := List.mem_filter.mpr ⟨tq3 (List.mem_of_getElem? (i := 43) (by decide +kernel)), rfl⟩
theorem q691 : Cond.code yX8_isSign cX8_isSign 1 (some .boolean) ∈ wAll := List.mem_filter.mpr ⟨tq3 (List.mem_of_getElem? (i := 44) (by decide +kernel)), rfl⟩
theorem q692 : Cond.methodLink RX8 58 yX8_close ∈ wAll := List.mem_filter.mpr ⟨tq3 (List.mem_of_getElem? (i := 45) (by decide +kernel)), rfl⟩
theorem q694 : Cond.instanceMethod yX8_close ∈ wAll := List.mem_filter.mpr ⟨tq3 (List.mem_of_getElem? (i := 47) (by decide +kernel)), rfl⟩
theorem q695 : Cond.code yX8_close cX8_close 1 none ∈ wAll := List.mem_filter.mpr ⟨tq3 (List.mem_of_getElem? (i := 48) (by decide +kernel)), rfl⟩
theorem q696 : Cond.methodLink RX8 61 yX8_statement ∈ wAll := List.mem_filter.mpr ⟨tq3 (List.mem_of_getElem? (i := 49) (by decide +kernel)), rfl⟩
theorem q698 : Cond.instanceMethod yX8_statement ∈ wAll := List.mem_filter.mpr ⟨tq3 (List.mem_of_getElem? (i := 51) (by decide +kernel)), rfl⟩
theorem q699 : Cond.code yX8_statement cX8_statement 2 none ∈ wAll := List.mem_filter.mpr ⟨tq3 (List.mem_of_getElem? (i := 52) (by decide +kernel)), rfl⟩
theorem q700 : Cond.methodLink RX8 64 yX8_blame ∈ wAll := List.mem_filter.mpr ⟨tq3 (List.mem_of_getElem? (i := 53) (by decide +kernel)), rfl⟩
theorem q702 : Cond.instanceMethod yX8_blame ∈ wAll := List.mem_filter.mpr ⟨tq3 (List.mem_of_getElem? (i := 55) (by decide +kernel)), rfl⟩
theorem q703 : Cond.code yX8_blame cX8_blame 2 none ∈ wAll := List.mem_filter.mpr ⟨tq3 (List.mem_of_getElem? (i := 56) (by decide +kernel)), rfl⟩
theorem q704 : Cond.methodLink RX8 137 yX8_behindWord ∈ wAll := List.mem_filter.mpr ⟨tq3 (List.mem_of_getElem? (i := 57) (by decide +kernel)), rfl⟩
theorem q706 : Cond.instanceMethod yX8_behindWord ∈ wAll := List.mem_filter.mpr ⟨tq3 (List.mem_of_getElem? (i := 59) (by decide +kernel)), rfl⟩
theorem q707 : Cond.code yX8_behindWord cX8_behindWord 2 none ∈ wAll := List.mem_filter.mpr ⟨tq3 (List.mem_of_getElem? (i := 60) (by decide +kernel)), rfl⟩
theorem q708 : Cond.methodLink RX8 140 yX8_sums ∈ wAll := List.mem_filter.mpr ⟨tq3 (List.mem_of_getElem? (i := 61) (by decide +kernel)), rfl⟩
theorem q710 : Cond.instanceMethod yX8_sums ∈ wAll := List.mem_filter.mpr ⟨tq3 (List.mem_of_getElem? (i := 63) (by decide +kernel)), rfl⟩
theorem q711 : Cond.code yX8_sums cX8_sums 3 none ∈ wAll := List.mem_filter.mpr ⟨tq3 (List.mem_of_getElem? (i := 64) (by decide +kernel)), rfl⟩
theorem q712 : Cond.methodLink RX8 153 yX8_sum ∈ wAll := List.mem_filter.mpr ⟨tq3 (List.mem_of_getElem? (i := 65) (by decide +kernel)), rfl⟩
theorem q714 : Cond.instanceMethod yX8_sum ∈ wAll := List.mem_filter.mpr ⟨tq3 (List.mem_of_getElem? (i := 67) (by decide +kernel)), rfl⟩
theorem q715 : Cond.code yX8_sum cX8_sum 2 none ∈ wAll := List.mem_filter.mpr ⟨tq3 (List.mem_of_getElem? (i := 68) (by decide +kernel)), rfl⟩
theorem q716 : Cond.methodLink RX8 156 yX8_factor ∈ wAll := List.mem_filter.mpr ⟨tq3 (List.mem_of_getElem? (i := 69) (by decide +kernel)), rfl⟩
theorem q718 : Cond.instanceMethod yX8_factor ∈ wAll := List.mem_filter.mpr ⟨tq3 (List.mem_of_getElem? (i := 71) (by decide +kernel)), rfl⟩
theorem q719 : Cond.code yX8_factor cX8_factor 1 none ∈ wAll := List.mem_filter.mpr ⟨tq3 (List.mem_of_getElem? (i := 72) (by decide +kernel)), rfl⟩
theorem q720 : Cond.methodLink RX8 143 yX8_take ∈ wAll := List.mem_filter.mpr ⟨tq3 (List.mem_of_getElem? (i := 73) (by decide +kernel)), rfl⟩
theorem q722 : Cond.instanceMethod yX8_take ∈ wAll := List.mem_filter.mpr ⟨tq3 (List.mem_of_getElem? (i := 75) (by decide +kernel)), rfl⟩
theorem q723 : Cond.code yX8_take cX8_take 2 none ∈ wAll := List.mem_filter.mpr ⟨tq3 (List.mem_of_getElem? (i := 76) (by decide +kernel)), rfl⟩
theorem q724 : Cond.methodLink RX8 146 yX8_times ∈ wAll := List.mem_filter.mpr ⟨tq3 (List.mem_of_getElem? (i := 77) (by decide +kernel)), rfl⟩
theorem q726 : Cond.instanceMethod yX8_times ∈ wAll := List.mem_filter.mpr ⟨tq3 (List.mem_of_getElem? (i := 79) (by decide +kernel)), rfl⟩
theorem q727 : Cond.code yX8_times cX8_times 1 none ∈ wAll := List.mem_filter.mpr ⟨tq3 (List.mem_of_getElem? (i := 80) (by decide +kernel)), rfl⟩
theorem q728 : Cond.methodLink RX8 149 yX8_open ∈ wAll := List.mem_filter.mpr ⟨tq3 (List.mem_of_getElem? (i := 81) (by decide +kernel)), rfl⟩
theorem q730 : Cond.instanceMethod yX8_open ∈ wAll := List.mem_filter.mpr ⟨tq3 (List.mem_of_getElem? (i := 83) (by decide +kernel)), rfl⟩
theorem q731 : Cond.code yX8_open cX8_open 3 none ∈ wAll := List.mem_filter.mpr ⟨tq3 (List.mem_of_getElem? (i := 84) (by decide +kernel)), rfl⟩
theorem q732 : Cond.classLink RX8 68 RX9 ∈ wAll := List.mem_filter.mpr ⟨tq3 (List.mem_of_getElem? (i := 85) (by decide +kernel)), rfl⟩
theorem q733 : Cond.instantiable RX9 3 ∈ wAll := List.mem_filter.mpr ⟨tq3 (List.mem_of_getElem? (i := 86) (by decide +kernel)), rfl⟩
theorem q734 : Cond.methodLinkNest RX8 70 yX9_init "WarmExtents" ∈ nwAll := List.mem_filter.mpr ⟨tq3 (List.mem_of_getElem? (i := 87) (by decide +kernel)), rfl⟩
theorem q735 : Cond.instanceMethod yX9_init ∈ wAll := List.mem_filter.mpr ⟨tq3 (List.mem_of_getElem? (i := 88) (by decide +kernel)), rfl⟩
theorem q736 : Cond.code yX9_init cX9_init 4 none ∈ wAll := List.mem_filter.mpr ⟨tq3 (List.mem_of_getElem? (i := 89) (by decide +kernel)), rfl⟩
theorem q737 : Cond.methodLink RX9 3 ⟨"java/lang/Object", "<init>", "()V"⟩ ∈ wAll := List.mem_filter.mpr ⟨tq3 (List.mem_of_getElem? (i := 90) (by decide +kernel)), rfl⟩
theorem q738 : Cond.methodLink RX9 22 ⟨RJ10, "arraycopy", "(Ljava/lang/Object;ILjava/lang/Object;II)V"⟩ ∈ wAll := List.mem_filter.mpr ⟨tq3 (List.mem_of_getElem? (i := 91) (by decide +kernel)), rfl⟩
theorem q739 : Cond.static ⟨RJ10, "arraycopy", "(Ljava/lang/Object;ILjava/lang/Object;II)V"⟩ ∈ wAll := List.mem_filter.mpr ⟨tq3 (List.mem_of_getElem? (i := 92) (by decide +kernel)), rfl⟩
theorem q740 : Cond.native ⟨RJ10, "arraycopy", "(Ljava/lang/Object;ILjava/lang/Object;II)V"⟩ ∈ wAll := List.mem_filter.mpr ⟨tq3 (List.mem_of_getElem? (i := 93) (by decide +kernel)), rfl⟩
theorem q741 : Cond.fieldLink RX9 9 "WarmExtents$Text" "many" "I" ∈ wAll := List.mem_filter.mpr ⟨tq3 (List.mem_of_getElem? (i := 94) (by decide +kernel)), rfl⟩
theorem q742 : Cond.fieldLinkNest RX7 41 "WarmExtents$Text" "many" "I" "WarmExtents" ∈ nwAll := List.mem_filter.mpr ⟨tq3 (List.mem_of_getElem? (i := 95) (by decide +kernel)), rfl⟩
theorem q743 : Cond.fieldLink RX9 15 "WarmExtents$Text" "kinds" "[I" ∈ wAll := List.mem_filter.mpr ⟨tq3 (List.mem_of_getElem? (i := 96) (by decide +kernel)), rfl⟩
theorem q744 : Cond.fieldLink RX9 19 "WarmExtents$Text" "values" "[I" ∈ wAll := List.mem_filter.mpr ⟨tq3 (List.mem_of_getElem? (i := 97) (by decide +kernel)), rfl⟩
theorem q752 : Cond.arrayClass .byte ∈ wAll := List.mem_filter.mpr ⟨tq3 (List.mem_of_getElem? (i := 105) (by decide +kernel)), rfl⟩
theorem q753 : Cond.methodLink RL 28 yX11_fault ∈ wAll := List.mem_filter.mpr ⟨tq3 (List.mem_of_getElem? (i := 106) (by decide +kernel)), rfl⟩
theorem q754 : Cond.instanceMethod yX11_fault ∈ wAll := List.mem_filter.mpr ⟨tq3 (List.mem_of_getElem? (i := 107) (by decide +kernel)), rfl⟩
theorem q755 : Cond.selects RX11 yX11_fault yX11_fault ∈ wAll := List.mem_filter.mpr ⟨tq3 (List.mem_of_getElem? (i := 108) (by decide +kernel)), rfl⟩
theorem q756 : Cond.code yX11_fault cX11_fault 2 (some .int) ∈ wAll := List.mem_filter.mpr ⟨tq3 (List.mem_of_getElem? (i := 109) (by decide +kernel)), rfl⟩
theorem q757 : Cond.methodLink RL 32 yX11_read ∈ wAll := List.mem_filter.mpr ⟨tq3 (List.mem_of_getElem? (i := 110) (by decide +kernel)), rfl⟩
theorem q758 : Cond.instanceMethod yX11_read ∈ wAll := List.mem_filter.mpr ⟨tq3 (List.mem_of_getElem? (i := 111) (by decide +kernel)), rfl⟩
theorem q759 : Cond.selects RX11 yX11_read yX11_read ∈ wAll := List.mem_filter.mpr ⟨tq3 (List.mem_of_getElem? (i := 112) (by decide +kernel)), rfl⟩
theorem q760 : Cond.code yX11_read cX11_read 3 (some .int) ∈ wAll := List.mem_filter.mpr ⟨tq3 (List.mem_of_getElem? (i := 113) (by decide +kernel)), rfl⟩
theorem q761 : Cond.methodLink RX11 83 yX11_isBlock ∈ wAll := List.mem_filter.mpr ⟨tq3 (List.mem_of_getElem? (i := 114) (by decide +kernel)), rfl⟩
theorem q762 : Cond.static yX11_isBlock ∈ wAll := List.mem_filter.mpr ⟨tq3 (List.mem_of_getElem? (i := 115) (by decide +kernel)), rfl⟩
theorem q763 : Cond.code yX11_isBlock cX11_isBlock 2 (some .boolean) ∈ wAll := List.mem_filter.mpr ⟨tq3 (List.mem_of_getElem? (i := 116) (by decide +kernel)), rfl⟩
theorem q764 : Cond.methodLink RX11 109 yX11_isExtent ∈ wAll := List.mem_filter.mpr ⟨tq3 (List.mem_of_getElem? (i := 117) (by decide +kernel)), rfl⟩
theorem q765 : Cond.static yX11_isExtent ∈ wAll := List.mem_filter.mpr ⟨tq3 (List.mem_of_getElem? (i := 118) (by decide +kernel)), rfl⟩
theorem q766 : Cond.code yX11_isExtent cX11_isExtent 1 (some .boolean) ∈ wAll := List.mem_filter.mpr ⟨tq3 (List.mem_of_getElem? (i := 119) (by decide +kernel)), rfl⟩
theorem q767 : Cond.fieldLink RX11 266 "WarmExtents" "SIZE" "[I" ∈ wAll := List.mem_filter.mpr ⟨tq3 (List.mem_of_getElem? (i := 120) (by decide +kernel)), rfl⟩
theorem q769 : Cond.methodLinkNest RX11 87 yX4_push "WarmExtents" ∈ nwAll := List.mem_filter.mpr ⟨tq3 (List.mem_of_getElem? (i := 122) (by decide +kernel)), rfl⟩
theorem q771 : Cond.instanceMethod yX4_push ∈ wAll := List.mem_filter.mpr ⟨tq3 (List.mem_of_getElem? (i := 124) (by decide +kernel)), rfl⟩
theorem q772 : Cond.code yX4_push cX4_push 2 none ∈ wAll := List.mem_filter.mpr ⟨tq3 (List.mem_of_getElem? (i := 125) (by decide +kernel)), rfl⟩
theorem q773 : Cond.methodLinkNest RX4 25 yX10_copyFrom "WarmExtents" ∈ nwAll := List.mem_filter.mpr ⟨tq3 (List.mem_of_getElem? (i := 126) (by decide +kernel)), rfl⟩
theorem q775 : Cond.instanceMethod yX10_copyFrom ∈ wAll := List.mem_filter.mpr ⟨tq3 (List.mem_of_getElem? (i := 128) (by decide +kernel)), rfl⟩
theorem q776 : Cond.code yX10_copyFrom cX10_copyFrom 2 none ∈ wAll := List.mem_filter.mpr ⟨tq3 (List.mem_of_getElem? (i := 129) (by decide +kernel)), rfl⟩
theorem q777 : Cond.methodLink RX10 50 ⟨RJ10, "arraycopy", "(Ljava/lang/Object;ILjava/lang/Object;II)V"⟩ ∈ wAll := List.mem_filter.mpr ⟨tq3 (List.mem_of_getElem? (i := 130) (by decide +kernel)), rfl⟩
theorem q778 : Cond.methodLinkNest RX10 56 yX2_copyFrom "WarmExtents" ∈ nwAll := List.mem_filter.mpr ⟨tq3 (List.mem_of_getElem? (i := 131) (by decide +kernel)), rfl⟩
theorem q780 : Cond.instanceMethod yX2_copyFrom ∈ wAll := List.mem_filter.mpr ⟨tq3 (List.mem_of_getElem? (i := 133) (by decide +kernel)), rfl⟩
theorem q781 : Cond.code yX2_copyFrom cX2_copyFrom 2 none ∈ wAll := List.mem_filter.mpr ⟨tq3 (List.mem_of_getElem? (i := 134) (by decide +kernel)), rfl⟩
theorem q782 : Cond.methodLink RX2 48 ⟨RJ10, "arraycopy", "(Ljava/lang/Object;ILjava/lang/Object;II)V"⟩ ∈ wAll := List.mem_filter.mpr ⟨tq3 (List.mem_of_getElem? (i := 135) (by decide +kernel)), rfl⟩
theorem q783 : Cond.methodLinkNest RX10 60 yX1_copyFrom "WarmExtents" ∈ nwAll := List.mem_filter.mpr ⟨tq3 (List.mem_of_getElem? (i := 136) (by decide +kernel)), rfl⟩
theorem q785 : Cond.instanceMethod yX1_copyFrom ∈ wAll := List.mem_filter.mpr ⟨tq3 (List.mem_of_getElem? (i := 138) (by decide +kernel)), rfl⟩
theorem q786 : Cond.code yX1_copyFrom cX1_copyFrom 2 none ∈ wAll := List.mem_filter.mpr ⟨tq3 (List.mem_of_getElem? (i := 139) (by decide +kernel)), rfl⟩
theorem q787 : Cond.methodLink RX1 24 ⟨RJ10, "arraycopy", "(Ljava/lang/Object;ILjava/lang/Object;II)V"⟩ ∈ wAll := List.mem_filter.mpr ⟨tq3 (List.mem_of_getElem? (i := 140) (by decide +kernel)), rfl⟩
theorem q788 : Cond.methodLinkNest RX10 63 yX3_copyFrom "WarmExtents" ∈ nwAll := List.mem_filter.mpr ⟨tq3 (List.mem_of_getElem? (i := 141) (by decide +kernel)), rfl⟩
theorem q790 : Cond.instanceMethod yX3_copyFrom ∈ wAll := List.mem_filter.mpr ⟨tq3 (List.mem_of_getElem? (i := 143) (by decide +kernel)), rfl⟩
theorem q791 : Cond.code yX3_copyFrom cX3_copyFrom 2 none ∈ wAll := List.mem_filter.mpr ⟨tq3 (List.mem_of_getElem? (i := 144) (by decide +kernel)), rfl⟩
theorem q792 : Cond.methodLink RX3 22 ⟨RJ10, "arraycopy", "(Ljava/lang/Object;ILjava/lang/Object;II)V"⟩ ∈ wAll := List.mem_filter.mpr ⟨tq3 (List.mem_of_getElem? (i := 145) (by decide +kernel)), rfl⟩
theorem q793 : Cond.methodLinkNest RX10 66 yX5_copyFrom "WarmExtents" ∈ nwAll := List.mem_filter.mpr ⟨tq3 (List.mem_of_getElem? (i := 146) (by decide +kernel)), rfl⟩
theorem q795 : Cond.instanceMethod yX5_copyFrom ∈ wAll := List.mem_filter.mpr ⟨tq3 (List.mem_of_getElem? (i := 148) (by decide +kernel)), rfl⟩
theorem q796 : Cond.code yX5_copyFrom cX5_copyFrom 2 none ∈ wAll := List.mem_filter.mpr ⟨tq3 (List.mem_of_getElem? (i := 149) (by decide +kernel)), rfl⟩
theorem q797 : Cond.methodLink RX5 28 ⟨RJ10, "arraycopy", "(Ljava/lang/Object;ILjava/lang/Object;II)V"⟩ ∈ wAll := List.mem_filter.mpr ⟨tq3 (List.mem_of_getElem? (i := 150) (by decide +kernel)), rfl⟩
theorem q798 : Cond.methodLinkNest RX10 69 yX0_copyFrom "WarmExtents" ∈ nwAll := List.mem_filter.mpr ⟨tq3 (List.mem_of_getElem? (i := 151) (by decide +kernel)), rfl⟩
theorem q800 : Cond.instanceMethod yX0_copyFrom ∈ wAll := List.mem_filter.mpr ⟨tq3 (List.mem_of_getElem? (i := 153) (by decide +kernel)), rfl⟩
theorem q801 : Cond.code yX0_copyFrom cX0_copyFrom 2 none ∈ wAll := List.mem_filter.mpr ⟨tq3 (List.mem_of_getElem? (i := 154) (by decide +kernel)), rfl⟩
theorem q802 : Cond.methodLink RX0 19 ⟨RJ10, "arraycopy", "(Ljava/lang/Object;ILjava/lang/Object;II)V"⟩ ∈ wAll := List.mem_filter.mpr ⟨tq3 (List.mem_of_getElem? (i := 155) (by decide +kernel)), rfl⟩
theorem q803 : Cond.methodLinkNest RX11 91 yX10_readBlock "WarmExtents" ∈ nwAll := List.mem_filter.mpr ⟨tq3 (List.mem_of_getElem? (i := 156) (by decide +kernel)), rfl⟩
theorem q805 : Cond.instanceMethod yX10_readBlock ∈ wAll := List.mem_filter.mpr ⟨tq3 (List.mem_of_getElem? (i := 158) (by decide +kernel)), rfl⟩
theorem q806 : Cond.code yX10_readBlock cX10_readBlock 4 (some .int) ∈ wAll := List.mem_filter.mpr ⟨tq3 (List.mem_of_getElem? (i := 159) (by decide +kernel)), rfl⟩
theorem q807 : Cond.fieldLinkNest RX10 79 "WarmExtents" "START" "[I" "WarmExtents" ∈ nwAll := List.mem_filter.mpr ⟨tq3 (List.mem_of_getElem? (i := 160) (by decide +kernel)), rfl⟩
theorem q809 : Cond.methodLink RX10 93 yX10_note ∈ wAll := List.mem_filter.mpr ⟨tq3 (List.mem_of_getElem? (i := 162) (by decide +kernel)), rfl⟩
theorem q811 : Cond.instanceMethod yX10_note ∈ wAll := List.mem_filter.mpr ⟨tq3 (List.mem_of_getElem? (i := 164) (by decide +kernel)), rfl⟩
theorem q812 : Cond.code yX10_note cX10_note 4 none ∈ wAll := List.mem_filter.mpr ⟨tq3 (List.mem_of_getElem? (i := 165) (by decide +kernel)), rfl⟩
theorem q813 : Cond.methodLinkNest RX10 82 yX3_advance "WarmExtents" ∈ nwAll := List.mem_filter.mpr ⟨tq3 (List.mem_of_getElem? (i := 166) (by decide +kernel)), rfl⟩
theorem q815 : Cond.instanceMethod yX3_advance ∈ wAll := List.mem_filter.mpr ⟨tq3 (List.mem_of_getElem? (i := 168) (by decide +kernel)), rfl⟩
theorem q816 : Cond.code yX3_advance cX3_advance 5 (some .int) ∈ wAll := List.mem_filter.mpr ⟨tq3 (List.mem_of_getElem? (i := 169) (by decide +kernel)), rfl⟩
theorem q817 : Cond.methodLinkNest RX10 89 yX2_warm "WarmExtents" ∈ nwAll := List.mem_filter.mpr ⟨tq3 (List.mem_of_getElem? (i := 170) (by decide +kernel)), rfl⟩
theorem q819 : Cond.instanceMethod yX2_warm ∈ wAll := List.mem_filter.mpr ⟨tq3 (List.mem_of_getElem? (i := 172) (by decide +kernel)), rfl⟩
theorem q820 : Cond.code yX2_warm cX2_warm 3 none ∈ wAll := List.mem_filter.mpr ⟨tq3 (List.mem_of_getElem? (i := 173) (by decide +kernel)), rfl⟩
theorem q821 : Cond.methodLink RX2 54 yJ9_min_7cf53 ∈ wAll := List.mem_filter.mpr ⟨tq3 (List.mem_of_getElem? (i := 174) (by decide +kernel)), rfl⟩
theorem q822 : Cond.methodLinkNest RX10 100 yX1_fastAt "WarmExtents" ∈ nwAll := List.mem_filter.mpr ⟨tq3 (List.mem_of_getElem? (i := 175) (by decide +kernel)), rfl⟩
theorem q824 : Cond.instanceMethod yX1_fastAt ∈ wAll := List.mem_filter.mpr ⟨tq3 (List.mem_of_getElem? (i := 177) (by decide +kernel)), rfl⟩
theorem q825 : Cond.code yX1_fastAt cX1_fastAt 3 (some .int) ∈ wAll := List.mem_filter.mpr ⟨tq3 (List.mem_of_getElem? (i := 178) (by decide +kernel)), rfl⟩
theorem q826 : Cond.methodLink RL 37 yX11_write ∈ wAll := List.mem_filter.mpr ⟨tq3 (List.mem_of_getElem? (i := 179) (by decide +kernel)), rfl⟩
theorem q827 : Cond.instanceMethod yX11_write ∈ wAll := List.mem_filter.mpr ⟨tq3 (List.mem_of_getElem? (i := 180) (by decide +kernel)), rfl⟩
theorem q828 : Cond.selects RX11 yX11_write yX11_write ∈ wAll := List.mem_filter.mpr ⟨tq3 (List.mem_of_getElem? (i := 181) (by decide +kernel)), rfl⟩
theorem q829 : Cond.code yX11_write cX11_write 4 (some .int) ∈ wAll := List.mem_filter.mpr ⟨tq3 (List.mem_of_getElem? (i := 182) (by decide +kernel)), rfl⟩
theorem q830 : Cond.methodLinkNest RX11 95 yX10_writeBlock "WarmExtents" ∈ nwAll := List.mem_filter.mpr ⟨tq3 (List.mem_of_getElem? (i := 183) (by decide +kernel)), rfl⟩
theorem q832 : Cond.instanceMethod yX10_writeBlock ∈ wAll := List.mem_filter.mpr ⟨tq3 (List.mem_of_getElem? (i := 185) (by decide +kernel)), rfl⟩
theorem q833 : Cond.code yX10_writeBlock cX10_writeBlock 6 none ∈ wAll := List.mem_filter.mpr ⟨tq3 (List.mem_of_getElem? (i := 186) (by decide +kernel)), rfl⟩
theorem q834 : Cond.methodLinkNest RX10 106 yX1_putFast "WarmExtents" ∈ nwAll := List.mem_filter.mpr ⟨tq3 (List.mem_of_getElem? (i := 187) (by decide +kernel)), rfl⟩
theorem q836 : Cond.instanceMethod yX1_putFast ∈ wAll := List.mem_filter.mpr ⟨tq3 (List.mem_of_getElem? (i := 189) (by decide +kernel)), rfl⟩
theorem q837 : Cond.code yX1_putFast cX1_putFast 4 none ∈ wAll := List.mem_filter.mpr ⟨tq3 (List.mem_of_getElem? (i := 190) (by decide +kernel)), rfl⟩
theorem q838 : Cond.methodLinkNest RX10 112 yX5_find "WarmExtents" ∈ nwAll := List.mem_filter.mpr ⟨tq3 (List.mem_of_getElem? (i := 191) (by decide +kernel)), rfl⟩
theorem q840 : Cond.instanceMethod yX5_find ∈ wAll := List.mem_filter.mpr ⟨tq3 (List.mem_of_getElem? (i := 193) (by decide +kernel)), rfl⟩
theorem q841 : Cond.code yX5_find cX5_find 3 (some .int) ∈ wAll := List.mem_filter.mpr ⟨tq3 (List.mem_of_getElem? (i := 194) (by decide +kernel)), rfl⟩
theorem q842 : Cond.methodLink RL 42 yX11_scan ∈ wAll := List.mem_filter.mpr ⟨tq3 (List.mem_of_getElem? (i := 195) (by decide +kernel)), rfl⟩
theorem q843 : Cond.instanceMethod yX11_scan ∈ wAll := List.mem_filter.mpr ⟨tq3 (List.mem_of_getElem? (i := 196) (by decide +kernel)), rfl⟩
theorem q844 : Cond.selects RX11 yX11_scan yX11_scan ∈ wAll := List.mem_filter.mpr ⟨tq3 (List.mem_of_getElem? (i := 197) (by decide +kernel)), rfl⟩
theorem q845 : Cond.code yX11_scan cX11_scan 4 (some .int) ∈ wAll := List.mem_filter.mpr ⟨tq3 (List.mem_of_getElem? (i := 198) (by decide +kernel)), rfl⟩
theorem q846 : Cond.methodLinkNest RX11 116 yX10_readExtents "WarmExtents" ∈ nwAll := List.mem_filter.mpr ⟨tq3 (List.mem_of_getElem? (i := 199) (by decide +kernel)), rfl⟩
theorem q848 : Cond.instanceMethod yX10_readExtents ∈ wAll := List.mem_filter.mpr ⟨tq3 (List.mem_of_getElem? (i := 201) (by decide +kernel)), rfl⟩
theorem q849 : Cond.code yX10_readExtents cX10_readExtents 7 (some .int) ∈ wAll := List.mem_filter.mpr ⟨tq3 (List.mem_of_getElem? (i := 202) (by decide +kernel)), rfl⟩
theorem q850 : Cond.fieldLinkNest RX10 118 "WarmExtents" "SIZE" "[I" "WarmExtents" ∈ nwAll := List.mem_filter.mpr ⟨tq3 (List.mem_of_getElem? (i := 203) (by decide +kernel)), rfl⟩
theorem q851 : Cond.methodLink RX10 121 yX10_readBlock ∈ wAll := List.mem_filter.mpr ⟨tq3 (List.mem_of_getElem? (i := 204) (by decide +kernel)), rfl⟩
theorem q852 : Cond.methodLink RL 46 yX11_pin ∈ wAll := List.mem_filter.mpr ⟨tq3 (List.mem_of_getElem? (i := 205) (by decide +kernel)), rfl⟩
theorem q853 : Cond.instanceMethod yX11_pin ∈ wAll := List.mem_filter.mpr ⟨tq3 (List.mem_of_getElem? (i := 206) (by decide +kernel)), rfl⟩
theorem q854 : Cond.selects RX11 yX11_pin yX11_pin ∈ wAll := List.mem_filter.mpr ⟨tq3 (List.mem_of_getElem? (i := 207) (by decide +kernel)), rfl⟩
theorem q855 : Cond.code yX11_pin cX11_pin 3 (some .boolean) ∈ wAll := List.mem_filter.mpr ⟨tq3 (List.mem_of_getElem? (i := 208) (by decide +kernel)), rfl⟩
theorem q856 : Cond.methodLinkNest RX11 123 yX10_writeDown "WarmExtents" ∈ nwAll := List.mem_filter.mpr ⟨tq3 (List.mem_of_getElem? (i := 209) (by decide +kernel)), rfl⟩
theorem q858 : Cond.instanceMethod yX10_writeDown ∈ wAll := List.mem_filter.mpr ⟨tq3 (List.mem_of_getElem? (i := 211) (by decide +kernel)), rfl⟩
theorem q859 : Cond.code yX10_writeDown cX10_writeDown 4 none ∈ wAll := List.mem_filter.mpr ⟨tq3 (List.mem_of_getElem? (i := 212) (by decide +kernel)), rfl⟩
theorem q860 : Cond.methodLinkNest RX10 72 yX0_add "WarmExtents" ∈ nwAll := List.mem_filter.mpr ⟨tq3 (List.mem_of_getElem? (i := 213) (by decide +kernel)), rfl⟩
theorem q862 : Cond.instanceMethod yX0_add ∈ wAll := List.mem_filter.mpr ⟨tq3 (List.mem_of_getElem? (i := 215) (by decide +kernel)), rfl⟩
theorem q863 : Cond.code yX0_add cX0_add 6 none ∈ wAll := List.mem_filter.mpr ⟨tq3 (List.mem_of_getElem? (i := 216) (by decide +kernel)), rfl⟩
theorem q864 : Cond.methodLink RL 51 yX11_tell ∈ wAll := List.mem_filter.mpr ⟨tq3 (List.mem_of_getElem? (i := 217) (by decide +kernel)), rfl⟩
theorem q865 : Cond.instanceMethod yX11_tell ∈ wAll := List.mem_filter.mpr ⟨tq3 (List.mem_of_getElem? (i := 218) (by decide +kernel)), rfl⟩
theorem q866 : Cond.selects RX11 yX11_tell yX11_tell ∈ wAll := List.mem_filter.mpr ⟨tq3 (List.mem_of_getElem? (i := 219) (by decide +kernel)), rfl⟩
theorem q867 : Cond.code yX11_tell cX11_tell 3 (some .boolean) ∈ wAll := List.mem_filter.mpr ⟨tq3 (List.mem_of_getElem? (i := 220) (by decide +kernel)), rfl⟩
theorem q868 : Cond.methodLink RX11 126 yX11_mostTold ∈ wAll := List.mem_filter.mpr ⟨tq3 (List.mem_of_getElem? (i := 221) (by decide +kernel)), rfl⟩
theorem q869 : Cond.static yX11_mostTold ∈ wAll := List.mem_filter.mpr ⟨tq3 (List.mem_of_getElem? (i := 222) (by decide +kernel)), rfl⟩
theorem q870 : Cond.code yX11_mostTold cX11_mostTold 1 (some .int) ∈ wAll := List.mem_filter.mpr ⟨tq3 (List.mem_of_getElem? (i := 223) (by decide +kernel)), rfl⟩
theorem q871 : Cond.methodLink RL 55 yX11_ask ∈ wAll := List.mem_filter.mpr ⟨tq3 (List.mem_of_getElem? (i := 224) (by decide +kernel)), rfl⟩
theorem q872 : Cond.instanceMethod yX11_ask ∈ wAll := List.mem_filter.mpr ⟨tq3 (List.mem_of_getElem? (i := 225) (by decide +kernel)), rfl⟩
theorem q873 : Cond.selects RX11 yX11_ask yX11_ask ∈ wAll := List.mem_filter.mpr ⟨tq3 (List.mem_of_getElem? (i := 226) (by decide +kernel)), rfl⟩
theorem q874 : Cond.code yX11_ask cX11_ask 2 (some .int) ∈ wAll := List.mem_filter.mpr ⟨tq3 (List.mem_of_getElem? (i := 227) (by decide +kernel)), rfl⟩
theorem q875 : Cond.methodLinkNest RX11 134 yX5_find "WarmExtents" ∈ nwAll := List.mem_filter.mpr ⟨tq3 (List.mem_of_getElem? (i := 228) (by decide +kernel)), rfl⟩
theorem q876 : Cond.methodLinkNest RX11 139 yX5_add "WarmExtents" ∈ nwAll := List.mem_filter.mpr ⟨tq3 (List.mem_of_getElem? (i := 229) (by decide +kernel)), rfl⟩
theorem q878 : Cond.instanceMethod yX5_add ∈ wAll := List.mem_filter.mpr ⟨tq3 (List.mem_of_getElem? (i := 231) (by decide +kernel)), rfl⟩
theorem q879 : Cond.code yX5_add cX5_add 3 none ∈ wAll := List.mem_filter.mpr ⟨tq3 (List.mem_of_getElem? (i := 232) (by decide +kernel)), rfl⟩
theorem q880 : Cond.methodLink RL 59 yX11_drop ∈ wAll := List.mem_filter.mpr ⟨tq3 (List.mem_of_getElem? (i := 233) (by decide +kernel)), rfl⟩
theorem q881 : Cond.instanceMethod yX11_drop ∈ wAll := List.mem_filter.mpr ⟨tq3 (List.mem_of_getElem? (i := 234) (by decide +kernel)), rfl⟩
theorem q882 : Cond.selects RX11 yX11_drop yX11_drop ∈ wAll := List.mem_filter.mpr ⟨tq3 (List.mem_of_getElem? (i := 235) (by decide +kernel)), rfl⟩
theorem q883 : Cond.code yX11_drop cX11_drop 3 (some .int) ∈ wAll := List.mem_filter.mpr ⟨tq3 (List.mem_of_getElem? (i := 236) (by decide +kernel)), rfl⟩
theorem q884 : Cond.methodLinkNest RX11 146 yX10_dropMove "WarmExtents" ∈ nwAll := List.mem_filter.mpr ⟨tq3 (List.mem_of_getElem? (i := 237) (by decide +kernel)), rfl⟩
theorem q886 : Cond.instanceMethod yX10_dropMove ∈ wAll := List.mem_filter.mpr ⟨tq3 (List.mem_of_getElem? (i := 239) (by decide +kernel)), rfl⟩
theorem q887 : Cond.code yX10_dropMove cX10_dropMove 4 none ∈ wAll := List.mem_filter.mpr ⟨tq4 (List.mem_of_getElem? (i := 0) (by decide +kernel)), rfl⟩
theorem q888 : Cond.methodLinkNest RX10 219 yX5_holdsSlots "WarmExtents" ∈ nwAll := List.mem_filter.mpr ⟨tq4 (List.mem_of_getElem? (i := 1) (by decide +kernel)), rfl⟩
theorem q890 : Cond.instanceMethod yX5_holdsSlots ∈ wAll := List.mem_filter.mpr ⟨tq4 (List.mem_of_getElem? (i := 3) (by decide +kernel)), rfl⟩
theorem q891 : Cond.code yX5_holdsSlots cX5_holdsSlots 2 (some .boolean) ∈ wAll := List.mem_filter.mpr ⟨tq4 (List.mem_of_getElem? (i := 4) (by decide +kernel)), rfl⟩
theorem q892 : Cond.methodLinkNest RX10 190 yX1_leaveSlots "WarmExtents" ∈ nwAll := List.mem_filter.mpr ⟨tq4 (List.mem_of_getElem? (i := 5) (by decide +kernel)), rfl⟩
theorem q894 : Cond.instanceMethod yX1_leaveSlots ∈ wAll := List.mem_filter.mpr ⟨tq4 (List.mem_of_getElem? (i := 7) (by decide +kernel)), rfl⟩
theorem q895 : Cond.code yX1_leaveSlots cX1_leaveSlots 4 none ∈ wAll := List.mem_filter.mpr ⟨tq4 (List.mem_of_getElem? (i := 8) (by decide +kernel)), rfl⟩
theorem q896 : Cond.fieldLinkNest RX1 30 "WarmExtents" "START" "[I" "WarmExtents" ∈ nwAll := List.mem_filter.mpr ⟨tq4 (List.mem_of_getElem? (i := 9) (by decide +kernel)), rfl⟩
theorem q897 : Cond.fieldLinkNest RX1 33 "WarmExtents" "SIZE" "[I" "WarmExtents" ∈ nwAll := List.mem_filter.mpr ⟨tq4 (List.mem_of_getElem? (i := 10) (by decide +kernel)), rfl⟩
theorem q898 : Cond.methodLinkNest RX10 193 yX5_remove "WarmExtents" ∈ nwAll := List.mem_filter.mpr ⟨tq4 (List.mem_of_getElem? (i := 11) (by decide +kernel)), rfl⟩
theorem q900 : Cond.instanceMethod yX5_remove ∈ wAll := List.mem_filter.mpr ⟨tq4 (List.mem_of_getElem? (i := 13) (by decide +kernel)), rfl⟩
theorem q901 : Cond.code yX5_remove cX5_remove 2 none ∈ wAll := List.mem_filter.mpr ⟨tq4 (List.mem_of_getElem? (i := 14) (by decide +kernel)), rfl⟩
theorem q902 : Cond.methodLink RX10 169 yX10_writeDown ∈ wAll := List.mem_filter.mpr ⟨tq4 (List.mem_of_getElem? (i := 15) (by decide +kernel)), rfl⟩
theorem q903 : Cond.methodLink RL 63 yX11_day ∈ wAll := List.mem_filter.mpr ⟨tq4 (List.mem_of_getElem? (i := 16) (by decide +kernel)), rfl⟩
theorem q904 : Cond.instanceMethod yX11_day ∈ wAll := List.mem_filter.mpr ⟨tq4 (List.mem_of_getElem? (i := 17) (by decide +kernel)), rfl⟩
theorem q905 : Cond.selects RX11 yX11_day yX11_day ∈ wAll := List.mem_filter.mpr ⟨tq4 (List.mem_of_getElem? (i := 18) (by decide +kernel)), rfl⟩
theorem q906 : Cond.code yX11_day cX11_day 2 (some .int) ∈ wAll := List.mem_filter.mpr ⟨tq4 (List.mem_of_getElem? (i := 19) (by decide +kernel)), rfl⟩
theorem q907 : Cond.methodLink RX11 149 yX11_isDays ∈ wAll := List.mem_filter.mpr ⟨tq4 (List.mem_of_getElem? (i := 20) (by decide +kernel)), rfl⟩
theorem q908 : Cond.static yX11_isDays ∈ wAll := List.mem_filter.mpr ⟨tq4 (List.mem_of_getElem? (i := 21) (by decide +kernel)), rfl⟩
theorem q909 : Cond.code yX11_isDays cX11_isDays 1 (some .boolean) ∈ wAll := List.mem_filter.mpr ⟨tq4 (List.mem_of_getElem? (i := 22) (by decide +kernel)), rfl⟩
theorem q910 : Cond.methodLinkNest RX11 152 yX10_pass "WarmExtents" ∈ nwAll := List.mem_filter.mpr ⟨tq4 (List.mem_of_getElem? (i := 23) (by decide +kernel)), rfl⟩
theorem q912 : Cond.instanceMethod yX10_pass ∈ wAll := List.mem_filter.mpr ⟨tq4 (List.mem_of_getElem? (i := 25) (by decide +kernel)), rfl⟩
theorem q913 : Cond.code yX10_pass cX10_pass 4 none ∈ wAll := List.mem_filter.mpr ⟨tq4 (List.mem_of_getElem? (i := 26) (by decide +kernel)), rfl⟩
theorem q914 : Cond.methodLink RX10 125 yX10_tick ∈ wAll := List.mem_filter.mpr ⟨tq4 (List.mem_of_getElem? (i := 27) (by decide +kernel)), rfl⟩
theorem q916 : Cond.instanceMethod yX10_tick ∈ wAll := List.mem_filter.mpr ⟨tq4 (List.mem_of_getElem? (i := 29) (by decide +kernel)), rfl⟩
theorem q917 : Cond.code yX10_tick cX10_tick 2 none ∈ wAll := List.mem_filter.mpr ⟨tq4 (List.mem_of_getElem? (i := 30) (by decide +kernel)), rfl⟩
theorem q918 : Cond.methodLink RX10 129 yX10_moveBlocks ∈ wAll := List.mem_filter.mpr ⟨tq4 (List.mem_of_getElem? (i := 31) (by decide +kernel)), rfl⟩
theorem q920 : Cond.instanceMethod yX10_moveBlocks ∈ wAll := List.mem_filter.mpr ⟨tq4 (List.mem_of_getElem? (i := 33) (by decide +kernel)), rfl⟩
theorem q921 : Cond.code yX10_moveBlocks cX10_moveBlocks 3 none ∈ wAll := List.mem_filter.mpr ⟨tq4 (List.mem_of_getElem? (i := 34) (by decide +kernel)), rfl⟩
theorem q922 : Cond.methodLink RX10 148 yX10_begin ∈ wAll := List.mem_filter.mpr ⟨tq4 (List.mem_of_getElem? (i := 35) (by decide +kernel)), rfl⟩
theorem q924 : Cond.instanceMethod yX10_begin ∈ wAll := List.mem_filter.mpr ⟨tq4 (List.mem_of_getElem? (i := 37) (by decide +kernel)), rfl⟩
theorem q925 : Cond.code yX10_begin cX10_begin 3 (some .boolean) ∈ wAll := List.mem_filter.mpr ⟨tq4 (List.mem_of_getElem? (i := 38) (by decide +kernel)), rfl⟩
theorem q926 : Cond.methodLinkNest RX10 161 yX1_freeSlots "WarmExtents" ∈ nwAll := List.mem_filter.mpr ⟨tq4 (List.mem_of_getElem? (i := 39) (by decide +kernel)), rfl⟩
theorem q928 : Cond.instanceMethod yX1_freeSlots ∈ wAll := List.mem_filter.mpr ⟨tq4 (List.mem_of_getElem? (i := 41) (by decide +kernel)), rfl⟩
theorem q929 : Cond.code yX1_freeSlots cX1_freeSlots 3 (some .int) ∈ wAll := List.mem_filter.mpr ⟨tq4 (List.mem_of_getElem? (i := 42) (by decide +kernel)), rfl⟩
theorem q930 : Cond.methodLinkNest RX10 165 yX1_takeSlots "WarmExtents" ∈ nwAll := List.mem_filter.mpr ⟨tq4 (List.mem_of_getElem? (i := 43) (by decide +kernel)), rfl⟩
theorem q932 : Cond.instanceMethod yX1_takeSlots ∈ wAll := List.mem_filter.mpr ⟨tq4 (List.mem_of_getElem? (i := 45) (by decide +kernel)), rfl⟩
theorem q933 : Cond.code yX1_takeSlots cX1_takeSlots 5 none ∈ wAll := List.mem_filter.mpr ⟨tq4 (List.mem_of_getElem? (i := 46) (by decide +kernel)), rfl⟩
theorem q934 : Cond.methodLink RX10 152 yX10_copyBlocks ∈ wAll := List.mem_filter.mpr ⟨tq4 (List.mem_of_getElem? (i := 47) (by decide +kernel)), rfl⟩
theorem q936 : Cond.instanceMethod yX10_copyBlocks ∈ wAll := List.mem_filter.mpr ⟨tq4 (List.mem_of_getElem? (i := 49) (by decide +kernel)), rfl⟩
theorem q937 : Cond.code yX10_copyBlocks cX10_copyBlocks 7 (some .int) ∈ wAll := List.mem_filter.mpr ⟨tq4 (List.mem_of_getElem? (i := 50) (by decide +kernel)), rfl⟩
theorem q938 : Cond.methodLink RX10 172 yX10_blocksToCopy ∈ wAll := List.mem_filter.mpr ⟨tq4 (List.mem_of_getElem? (i := 51) (by decide +kernel)), rfl⟩
theorem q940 : Cond.instanceMethod yX10_blocksToCopy ∈ wAll := List.mem_filter.mpr ⟨tq4 (List.mem_of_getElem? (i := 53) (by decide +kernel)), rfl⟩
theorem q941 : Cond.code yX10_blocksToCopy cX10_blocksToCopy 3 (some .int) ∈ wAll := List.mem_filter.mpr ⟨tq4 (List.mem_of_getElem? (i := 54) (by decide +kernel)), rfl⟩
theorem q942 : Cond.methodLinkNest RX10 178 yX2_allBlocks "WarmExtents" ∈ nwAll := List.mem_filter.mpr ⟨tq4 (List.mem_of_getElem? (i := 55) (by decide +kernel)), rfl⟩
theorem q943 : Cond.static yX2_allBlocks ∈ wAll := List.mem_filter.mpr ⟨tq4 (List.mem_of_getElem? (i := 56) (by decide +kernel)), rfl⟩
theorem q944 : Cond.code yX2_allBlocks cX2_allBlocks 1 (some .int) ∈ wAll := List.mem_filter.mpr ⟨tq4 (List.mem_of_getElem? (i := 57) (by decide +kernel)), rfl⟩
theorem q945 : Cond.fieldLinkNest RX2 68 "WarmExtents" "SIZE" "[I" "WarmExtents" ∈ nwAll := List.mem_filter.mpr ⟨tq4 (List.mem_of_getElem? (i := 58) (by decide +kernel)), rfl⟩
theorem q946 : Cond.methodLink RX10 175 yX10_copyBlock ∈ wAll := List.mem_filter.mpr ⟨tq4 (List.mem_of_getElem? (i := 59) (by decide +kernel)), rfl⟩
theorem q948 : Cond.instanceMethod yX10_copyBlock ∈ wAll := List.mem_filter.mpr ⟨tq4 (List.mem_of_getElem? (i := 61) (by decide +kernel)), rfl⟩
theorem q949 : Cond.code yX10_copyBlock cX10_copyBlock 5 none ∈ wAll := List.mem_filter.mpr ⟨tq4 (List.mem_of_getElem? (i := 62) (by decide +kernel)), rfl⟩
theorem q950 : Cond.methodLink RX10 132 yX10_switchWhole ∈ wAll := List.mem_filter.mpr ⟨tq4 (List.mem_of_getElem? (i := 63) (by decide +kernel)), rfl⟩
theorem q952 : Cond.instanceMethod yX10_switchWhole ∈ wAll := List.mem_filter.mpr ⟨tq4 (List.mem_of_getElem? (i := 65) (by decide +kernel)), rfl⟩
theorem q953 : Cond.code yX10_switchWhole cX10_switchWhole 3 none ∈ wAll := List.mem_filter.mpr ⟨tq4 (List.mem_of_getElem? (i := 66) (by decide +kernel)), rfl⟩
theorem q954 : Cond.methodLink RX10 181 yX10_switchOver ∈ wAll := List.mem_filter.mpr ⟨tq4 (List.mem_of_getElem? (i := 67) (by decide +kernel)), rfl⟩
theorem q956 : Cond.instanceMethod yX10_switchOver ∈ wAll := List.mem_filter.mpr ⟨tq4 (List.mem_of_getElem? (i := 69) (by decide +kernel)), rfl⟩
theorem q957 : Cond.code yX10_switchOver cX10_switchOver 4 none ∈ wAll := List.mem_filter.mpr ⟨tq4 (List.mem_of_getElem? (i := 70) (by decide +kernel)), rfl⟩
theorem q958 : Cond.methodLink RX10 135 yX10_makePlan ∈ wAll := List.mem_filter.mpr ⟨tq4 (List.mem_of_getElem? (i := 71) (by decide +kernel)), rfl⟩
theorem q960 : Cond.instanceMethod yX10_makePlan ∈ wAll := List.mem_filter.mpr ⟨tq4 (List.mem_of_getElem? (i := 73) (by decide +kernel)), rfl⟩
theorem q961 : Cond.code yX10_makePlan cX10_makePlan 5 none ∈ wAll := List.mem_filter.mpr ⟨tq4 (List.mem_of_getElem? (i := 74) (by decide +kernel)), rfl⟩
theorem q962 : Cond.methodLink RX10 196 yX10_dropMove ∈ wAll := List.mem_filter.mpr ⟨tq4 (List.mem_of_getElem? (i := 75) (by decide +kernel)), rfl⟩
theorem q963 : Cond.methodLinkNest RX10 199 yX6_makeFor "WarmExtents" ∈ nwAll := List.mem_filter.mpr ⟨tq4 (List.mem_of_getElem? (i := 76) (by decide +kernel)), rfl⟩
theorem q965 : Cond.instanceMethod yX6_makeFor ∈ wAll := List.mem_filter.mpr ⟨tq4 (List.mem_of_getElem? (i := 78) (by decide +kernel)), rfl⟩
theorem q966 : Cond.code yX6_makeFor cX6_makeFor 3 none ∈ wAll := List.mem_filter.mpr ⟨tq4 (List.mem_of_getElem? (i := 79) (by decide +kernel)), rfl⟩
theorem q967 : Cond.methodLink RX6 54 yX6_weigh ∈ wAll := List.mem_filter.mpr ⟨tq4 (List.mem_of_getElem? (i := 80) (by decide +kernel)), rfl⟩
theorem q969 : Cond.instanceMethod yX6_weigh ∈ wAll := List.mem_filter.mpr ⟨tq4 (List.mem_of_getElem? (i := 82) (by decide +kernel)), rfl⟩
theorem q970 : Cond.code yX6_weigh cX6_weigh 7 none ∈ wAll := List.mem_filter.mpr ⟨tq4 (List.mem_of_getElem? (i := 83) (by decide +kernel)), rfl⟩
theorem q971 : Cond.methodLink RX6 68 yX6_bind ∈ wAll := List.mem_filter.mpr ⟨tq4 (List.mem_of_getElem? (i := 84) (by decide +kernel)), rfl⟩
theorem q973 : Cond.instanceMethod yX6_bind ∈ wAll := List.mem_filter.mpr ⟨tq4 (List.mem_of_getElem? (i := 86) (by decide +kernel)), rfl⟩
theorem q974 : Cond.code yX6_bind cX6_bind 4 none ∈ wAll := List.mem_filter.mpr ⟨tq4 (List.mem_of_getElem? (i := 87) (by decide +kernel)), rfl⟩
theorem q975 : Cond.methodLink RX6 87 yX6_isWanted ∈ wAll := List.mem_filter.mpr ⟨tq4 (List.mem_of_getElem? (i := 88) (by decide +kernel)), rfl⟩
theorem q976 : Cond.static yX6_isWanted ∈ wAll := List.mem_filter.mpr ⟨tq4 (List.mem_of_getElem? (i := 89) (by decide +kernel)), rfl⟩
theorem q977 : Cond.code yX6_isWanted cX6_isWanted 2 (some .boolean) ∈ wAll := List.mem_filter.mpr ⟨tq4 (List.mem_of_getElem? (i := 90) (by decide +kernel)), rfl⟩
theorem q978 : Cond.methodLink RX6 97 yJ6_bitCount_0f7a4 ∈ wAll := List.mem_filter.mpr ⟨tq4 (List.mem_of_getElem? (i := 91) (by decide +kernel)), rfl⟩
theorem q979 : Cond.static yJ6_bitCount_0f7a4 ∈ wAll := List.mem_filter.mpr ⟨tq4 (List.mem_of_getElem? (i := 92) (by decide +kernel)), rfl⟩
theorem q980 : Cond.code yJ6_bitCount_0f7a4 cJ6_bitCount_0f7a4 1 (some .int) ∈ wAll := List.mem_filter.mpr ⟨tq4 (List.mem_of_getElem? (i := 93) (by decide +kernel)), rfl⟩
theorem q981 : Cond.constant RJ6 265 (1431655765) ∈ wAll := List.mem_filter.mpr ⟨tq4 (List.mem_of_getElem? (i := 94) (by decide +kernel)), rfl⟩
theorem q982 : Cond.constant RJ6 266 (858993459) ∈ wAll := List.mem_filter.mpr ⟨tq4 (List.mem_of_getElem? (i := 95) (by decide +kernel)), rfl⟩
theorem q983 : Cond.constant RJ6 267 (252645135) ∈ wAll := List.mem_filter.mpr ⟨tq4 (List.mem_of_getElem? (i := 96) (by decide +kernel)), rfl⟩
theorem q984 : Cond.fieldLinkNest RX6 91 "WarmExtents" "SIZE" "[I" "WarmExtents" ∈ nwAll := List.mem_filter.mpr ⟨tq4 (List.mem_of_getElem? (i := 97) (by decide +kernel)), rfl⟩
theorem q985 : Cond.methodLink RX6 106 yX6_heatWorth ∈ wAll := List.mem_filter.mpr ⟨tq4 (List.mem_of_getElem? (i := 98) (by decide +kernel)), rfl⟩
theorem q986 : Cond.static yX6_heatWorth ∈ wAll := List.mem_filter.mpr ⟨tq4 (List.mem_of_getElem? (i := 99) (by decide +kernel)), rfl⟩
theorem q987 : Cond.code yX6_heatWorth cX6_heatWorth 2 (some .int) ∈ wAll := List.mem_filter.mpr ⟨tq4 (List.mem_of_getElem? (i := 100) (by decide +kernel)), rfl⟩
theorem q988 : Cond.methodLink RX6 113 yX6_pinWorth ∈ wAll := List.mem_filter.mpr ⟨tq4 (List.mem_of_getElem? (i := 101) (by decide +kernel)), rfl⟩
theorem q989 : Cond.static yX6_pinWorth ∈ wAll := List.mem_filter.mpr ⟨tq4 (List.mem_of_getElem? (i := 102) (by decide +kernel)), rfl⟩
theorem q990 : Cond.code yX6_pinWorth cX6_pinWorth 1 (some .int) ∈ wAll := List.mem_filter.mpr ⟨tq4 (List.mem_of_getElem? (i := 103) (by decide +kernel)), rfl⟩
theorem q991 : Cond.constant RX6 139 (100000) ∈ wAll := List.mem_filter.mpr ⟨tq4 (List.mem_of_getElem? (i := 104) (by decide +kernel)), rfl⟩
theorem q992 : Cond.constant RX6 140 (-100000) ∈ wAll := List.mem_filter.mpr ⟨tq4 (List.mem_of_getElem? (i := 105) (by decide +kernel)), rfl⟩
theorem q993 : Cond.methodLink RX6 58 yX6_choose ∈ wAll := List.mem_filter.mpr ⟨tq4 (List.mem_of_getElem? (i := 106) (by decide +kernel)), rfl⟩
theorem q995 : Cond.instanceMethod yX6_choose ∈ wAll := List.mem_filter.mpr ⟨tq4 (List.mem_of_getElem? (i := 108) (by decide +kernel)), rfl⟩
theorem q996 : Cond.code yX6_choose cX6_choose 1 (some .boolean) ∈ wAll := List.mem_filter.mpr ⟨tq4 (List.mem_of_getElem? (i := 109) (by decide +kernel)), rfl⟩
theorem q997 : Cond.constant RX6 141 (-2147483648) ∈ wAll := List.mem_filter.mpr ⟨tq4 (List.mem_of_getElem? (i := 110) (by decide +kernel)), rfl⟩
theorem q998 : Cond.methodLink RX6 142 yX6_search ∈ wAll := List.mem_filter.mpr ⟨tq4 (List.mem_of_getElem? (i := 111) (by decide +kernel)), rfl⟩
theorem q999 : Cond.static yX6_search ∈ wAll := List.mem_filter.mpr ⟨tq4 (List.mem_of_getElem? (i := 112) (by decide +kernel)), rfl⟩
theorem q1000 : Cond.code yX6_search cX6_search 8 none ∈ wAll := List.mem_filter.mpr ⟨tq4 (List.mem_of_getElem? (i := 113) (by decide +kernel)), rfl⟩
theorem q1001 : Cond.methodLinkNest RX10 205 yX6_listMoves "WarmExtents" ∈ nwAll := List.mem_filter.mpr ⟨tq4 (List.mem_of_getElem? (i := 114) (by decide +kernel)), rfl⟩
theorem q1003 : Cond.instanceMethod yX6_listMoves ∈ wAll := List.mem_filter.mpr ⟨tq4 (List.mem_of_getElem? (i := 116) (by decide +kernel)), rfl⟩
theorem q1004 : Cond.code yX6_listMoves cX6_listMoves 5 none ∈ wAll := List.mem_filter.mpr ⟨tq4 (List.mem_of_getElem? (i := 117) (by decide +kernel)), rfl⟩
theorem q1005 : Cond.methodLink RX6 146 yX6_isIn ∈ wAll := List.mem_filter.mpr ⟨tq4 (List.mem_of_getElem? (i := 118) (by decide +kernel)), rfl⟩
theorem q1006 : Cond.static yX6_isIn ∈ wAll := List.mem_filter.mpr ⟨tq4 (List.mem_of_getElem? (i := 119) (by decide +kernel)), rfl⟩
theorem q1007 : Cond.code yX6_isIn cX6_isIn 2 (some .boolean) ∈ wAll := List.mem_filter.mpr ⟨tq4 (List.mem_of_getElem? (i := 120) (by decide +kernel)), rfl⟩
theorem q1008 : Cond.methodLinkNest RX6 153 yX2_hotter "WarmExtents" ∈ nwAll := List.mem_filter.mpr ⟨tq4 (List.mem_of_getElem? (i := 121) (by decide +kernel)), rfl⟩
theorem q1010 : Cond.instanceMethod yX2_hotter ∈ wAll := List.mem_filter.mpr ⟨tq4 (List.mem_of_getElem? (i := 123) (by decide +kernel)), rfl⟩
theorem q1011 : Cond.code yX2_hotter cX2_hotter 3 (some .boolean) ∈ wAll := List.mem_filter.mpr ⟨tq4 (List.mem_of_getElem? (i := 124) (by decide +kernel)), rfl⟩
theorem q1012 : Cond.methodLinkNest RX10 214 yX5_add "WarmExtents" ∈ nwAll := List.mem_filter.mpr ⟨tq4 (List.mem_of_getElem? (i := 125) (by decide +kernel)), rfl⟩
theorem q1013 : Cond.methodLinkNest RX10 138 yX2_age "WarmExtents" ∈ nwAll := List.mem_filter.mpr ⟨tq4 (List.mem_of_getElem? (i := 126) (by decide +kernel)), rfl⟩
theorem q1015 : Cond.instanceMethod yX2_age ∈ wAll := List.mem_filter.mpr ⟨tq4 (List.mem_of_getElem? (i := 128) (by decide +kernel)), rfl⟩
theorem q1016 : Cond.code yX2_age cX2_age 2 none ∈ wAll := List.mem_filter.mpr ⟨tq4 (List.mem_of_getElem? (i := 129) (by decide +kernel)), rfl⟩
theorem q1017 : Cond.methodLink RL 67 yX11_crash ∈ wAll := List.mem_filter.mpr ⟨tq4 (List.mem_of_getElem? (i := 130) (by decide +kernel)), rfl⟩
theorem q1018 : Cond.instanceMethod yX11_crash ∈ wAll := List.mem_filter.mpr ⟨tq4 (List.mem_of_getElem? (i := 131) (by decide +kernel)), rfl⟩
theorem q1019 : Cond.selects RX11 yX11_crash yX11_crash ∈ wAll := List.mem_filter.mpr ⟨tq4 (List.mem_of_getElem? (i := 132) (by decide +kernel)), rfl⟩
theorem q1020 : Cond.code yX11_crash cX11_crash 1 (some .int) ∈ wAll := List.mem_filter.mpr ⟨tq4 (List.mem_of_getElem? (i := 133) (by decide +kernel)), rfl⟩
theorem q1021 : Cond.methodLinkNest RX11 156 yX10_loseMemory "WarmExtents" ∈ nwAll := List.mem_filter.mpr ⟨tq4 (List.mem_of_getElem? (i := 134) (by decide +kernel)), rfl⟩
theorem q1023 : Cond.instanceMethod yX10_loseMemory ∈ wAll := List.mem_filter.mpr ⟨tq4 (List.mem_of_getElem? (i := 136) (by decide +kernel)), rfl⟩
theorem q1024 : Cond.code yX10_loseMemory cX10_loseMemory 4 (some .int) ∈ wAll := List.mem_filter.mpr ⟨tq4 (List.mem_of_getElem? (i := 137) (by decide +kernel)), rfl⟩
theorem q1025 : Cond.methodLinkNest RX10 223 yX2_forget "WarmExtents" ∈ nwAll := List.mem_filter.mpr ⟨tq4 (List.mem_of_getElem? (i := 138) (by decide +kernel)), rfl⟩
theorem q1027 : Cond.instanceMethod yX2_forget ∈ wAll := List.mem_filter.mpr ⟨tq4 (List.mem_of_getElem? (i := 140) (by decide +kernel)), rfl⟩
theorem q1028 : Cond.code yX2_forget cX2_forget 2 none ∈ wAll := List.mem_filter.mpr ⟨tq4 (List.mem_of_getElem? (i := 141) (by decide +kernel)), rfl⟩
theorem q1029 : Cond.methodLink RX2 60 yX2_allBlocks ∈ wAll := List.mem_filter.mpr ⟨tq4 (List.mem_of_getElem? (i := 142) (by decide +kernel)), rfl⟩
theorem q1030 : Cond.methodLink RL 71 yX11_played ∈ wAll := List.mem_filter.mpr ⟨tq4 (List.mem_of_getElem? (i := 143) (by decide +kernel)), rfl⟩
theorem q1031 : Cond.instanceMethod yX11_played ∈ wAll := List.mem_filter.mpr ⟨tq4 (List.mem_of_getElem? (i := 144) (by decide +kernel)), rfl⟩
theorem q1032 : Cond.selects RX11 yX11_played yX11_played ∈ wAll := List.mem_filter.mpr ⟨tq4 (List.mem_of_getElem? (i := 145) (by decide +kernel)), rfl⟩
theorem q1033 : Cond.code yX11_played cX11_played 3 (some .int) ∈ wAll := List.mem_filter.mpr ⟨tq4 (List.mem_of_getElem? (i := 146) (by decide +kernel)), rfl⟩
theorem q1034 : Cond.methodLink RX11 160 yX11_textAt ∈ wAll := List.mem_filter.mpr ⟨tq4 (List.mem_of_getElem? (i := 147) (by decide +kernel)), rfl⟩
theorem q1036 : Cond.instanceMethod yX11_textAt ∈ wAll := List.mem_filter.mpr ⟨tq4 (List.mem_of_getElem? (i := 149) (by decide +kernel)), rfl⟩
theorem q1037 : Cond.code yX11_textAt cX11_textAt 2 (some (.object "WarmExtents$Text")) ∈ wAll := List.mem_filter.mpr ⟨tq4 (List.mem_of_getElem? (i := 150) (by decide +kernel)), rfl⟩
theorem q1038 : Cond.methodLinkNest RX11 164 yX7_play "WarmExtents" ∈ nwAll := List.mem_filter.mpr ⟨tq4 (List.mem_of_getElem? (i := 151) (by decide +kernel)), rfl⟩
theorem q1040 : Cond.instanceMethod yX7_play ∈ wAll := List.mem_filter.mpr ⟨tq4 (List.mem_of_getElem? (i := 153) (by decide +kernel)), rfl⟩
theorem q1041 : Cond.code yX7_play cX7_play 5 (some .int) ∈ wAll := List.mem_filter.mpr ⟨tq4 (List.mem_of_getElem? (i := 154) (by decide +kernel)), rfl⟩
theorem q1042 : Cond.constant RX7 40 (1000000) ∈ wAll := List.mem_filter.mpr ⟨tq4 (List.mem_of_getElem? (i := 155) (by decide +kernel)), rfl⟩
theorem q1043 : Cond.methodLink RX7 46 yX7_statement ∈ wAll := List.mem_filter.mpr ⟨tq4 (List.mem_of_getElem? (i := 156) (by decide +kernel)), rfl⟩
theorem q1045 : Cond.instanceMethod yX7_statement ∈ wAll := List.mem_filter.mpr ⟨tq4 (List.mem_of_getElem? (i := 158) (by decide +kernel)), rfl⟩
theorem q1046 : Cond.code yX7_statement cX7_statement 2 none ∈ wAll := List.mem_filter.mpr ⟨tq4 (List.mem_of_getElem? (i := 159) (by decide +kernel)), rfl⟩
theorem q1047 : Cond.methodLinkNest RX7 49 yX9_kindAt "WarmExtents" ∈ nwAll := List.mem_filter.mpr ⟨tq4 (List.mem_of_getElem? (i := 160) (by decide +kernel)), rfl⟩
theorem q1049 : Cond.instanceMethod yX9_kindAt ∈ wAll := List.mem_filter.mpr ⟨tq4 (List.mem_of_getElem? (i := 162) (by decide +kernel)), rfl⟩
theorem q1050 : Cond.code yX9_kindAt cX9_kindAt 2 (some .int) ∈ wAll := List.mem_filter.mpr ⟨tq4 (List.mem_of_getElem? (i := 163) (by decide +kernel)), rfl⟩
theorem q1051 : Cond.methodLink RX7 53 yX7_readOne ∈ wAll := List.mem_filter.mpr ⟨tq4 (List.mem_of_getElem? (i := 164) (by decide +kernel)), rfl⟩
theorem q1053 : Cond.instanceMethod yX7_readOne ∈ wAll := List.mem_filter.mpr ⟨tq4 (List.mem_of_getElem? (i := 166) (by decide +kernel)), rfl⟩
theorem q1054 : Cond.code yX7_readOne cX7_readOne 3 none ∈ wAll := List.mem_filter.mpr ⟨tq4 (List.mem_of_getElem? (i := 167) (by decide +kernel)), rfl⟩
theorem q1055 : Cond.methodLink RX7 85 yX7_sum ∈ wAll := List.mem_filter.mpr ⟨tq4 (List.mem_of_getElem? (i := 168) (by decide +kernel)), rfl⟩
theorem q1057 : Cond.instanceMethod yX7_sum ∈ wAll := List.mem_filter.mpr ⟨tq4 (List.mem_of_getElem? (i := 170) (by decide +kernel)), rfl⟩
theorem q1058 : Cond.code yX7_sum cX7_sum 3 (some .int) ∈ wAll := List.mem_filter.mpr ⟨tq4 (List.mem_of_getElem? (i := 171) (by decide +kernel)), rfl⟩
theorem q1059 : Cond.methodLink RX7 103 yX7_product ∈ wAll := List.mem_filter.mpr ⟨tq4 (List.mem_of_getElem? (i := 172) (by decide +kernel)), rfl⟩
theorem q1061 : Cond.instanceMethod yX7_product ∈ wAll := List.mem_filter.mpr ⟨tq4 (List.mem_of_getElem? (i := 174) (by decide +kernel)), rfl⟩
theorem q1062 : Cond.code yX7_product cX7_product 3 (some .int) ∈ wAll := List.mem_filter.mpr ⟨tq4 (List.mem_of_getElem? (i := 175) (by decide +kernel)), rfl⟩
theorem q1063 : Cond.methodLink RX7 106 yX7_factor ∈ wAll := List.mem_filter.mpr ⟨tq4 (List.mem_of_getElem? (i := 176) (by decide +kernel)), rfl⟩
theorem q1065 : Cond.instanceMethod yX7_factor ∈ wAll := List.mem_filter.mpr ⟨tq4 (List.mem_of_getElem? (i := 178) (by decide +kernel)), rfl⟩
theorem q1066 : Cond.code yX7_factor cX7_factor 2 (some .int) ∈ wAll := List.mem_filter.mpr ⟨tq4 (List.mem_of_getElem? (i := 179) (by decide +kernel)), rfl⟩
theorem q1067 : Cond.methodLinkNest RX7 72 yX9_valueAt "WarmExtents" ∈ nwAll := List.mem_filter.mpr ⟨tq4 (List.mem_of_getElem? (i := 180) (by decide +kernel)), rfl⟩
theorem q1069 : Cond.instanceMethod yX9_valueAt ∈ wAll := List.mem_filter.mpr ⟨tq4 (List.mem_of_getElem? (i := 182) (by decide +kernel)), rfl⟩
theorem q1070 : Cond.code yX9_valueAt cX9_valueAt 2 (some .int) ∈ wAll := List.mem_filter.mpr ⟨tq4 (List.mem_of_getElem? (i := 183) (by decide +kernel)), rfl⟩
theorem q1071 : Cond.fieldLinkNest RX7 88 "WarmExtents" "SIZE" "[I" "WarmExtents" ∈ nwAll := List.mem_filter.mpr ⟨tq4 (List.mem_of_getElem? (i := 184) (by decide +kernel)), rfl⟩
theorem q1072 : Cond.methodLinkNest RX7 91 yX10_readBlock "WarmExtents" ∈ nwAll := List.mem_filter.mpr ⟨tq4 (List.mem_of_getElem? (i := 185) (by decide +kernel)), rfl⟩
theorem q1073 : Cond.methodLink RX7 56 yX7_writeOne ∈ wAll := List.mem_filter.mpr ⟨tq4 (List.mem_of_getElem? (i := 186) (by decide +kernel)), rfl⟩
theorem q1075 : Cond.instanceMethod yX7_writeOne ∈ wAll := List.mem_filter.mpr ⟨tq4 (List.mem_of_getElem? (i := 188) (by decide +kernel)), rfl⟩
theorem q1076 : Cond.code yX7_writeOne cX7_writeOne 3 none ∈ wAll := List.mem_filter.mpr ⟨tq4 (List.mem_of_getElem? (i := 189) (by decide +kernel)), rfl⟩
theorem q1077 : Cond.methodLinkNest RX7 95 yX10_writeBlock "WarmExtents" ∈ nwAll := List.mem_filter.mpr ⟨tq4 (List.mem_of_getElem? (i := 190) (by decide +kernel)), rfl⟩
theorem q1078 : Cond.methodLink RX7 59 yX7_scanSome ∈ wAll := List.mem_filter.mpr ⟨tq4 (List.mem_of_getElem? (i := 191) (by decide +kernel)), rfl⟩
theorem q1080 : Cond.instanceMethod yX7_scanSome ∈ wAll := List.mem_filter.mpr ⟨tq4 (List.mem_of_getElem? (i := 193) (by decide +kernel)), rfl⟩
theorem q1081 : Cond.code yX7_scanSome cX7_scanSome 3 none ∈ wAll := List.mem_filter.mpr ⟨tq4 (List.mem_of_getElem? (i := 194) (by decide +kernel)), rfl⟩
theorem q1082 : Cond.methodLinkNest RX7 99 yX10_readExtents "WarmExtents" ∈ nwAll := List.mem_filter.mpr ⟨tq4 (List.mem_of_getElem? (i := 195) (by decide +kernel)), rfl⟩
theorem q1083 : Cond.methodLinkNest RX7 62 yX10_tick "WarmExtents" ∈ nwAll := List.mem_filter.mpr ⟨tq4 (List.mem_of_getElem? (i := 196) (by decide +kernel)), rfl⟩
theorem q1084 : Cond.methodLinkNest RX7 68 yX10_loseMemory "WarmExtents" ∈ nwAll := List.mem_filter.mpr ⟨tq4 (List.mem_of_getElem? (i := 197) (by decide +kernel)), rfl⟩
theorem q1085 : Cond.methodLink RX7 75 yX7_enter ∈ wAll := List.mem_filter.mpr ⟨tq4 (List.mem_of_getElem? (i := 198) (by decide +kernel)), rfl⟩
theorem q1087 : Cond.instanceMethod yX7_enter ∈ wAll := List.mem_filter.mpr ⟨tq4 (List.mem_of_getElem? (i := 200) (by decide +kernel)), rfl⟩
theorem q1088 : Cond.code yX7_enter cX7_enter 2 none ∈ wAll := List.mem_filter.mpr ⟨tq4 (List.mem_of_getElem? (i := 201) (by decide +kernel)), rfl⟩
theorem q1089 : Cond.methodLink RX7 79 yX7_enterIf ∈ wAll := List.mem_filter.mpr ⟨tq4 (List.mem_of_getElem? (i := 202) (by decide +kernel)), rfl⟩
theorem q1091 : Cond.instanceMethod yX7_enterIf ∈ wAll := List.mem_filter.mpr ⟨tq4 (List.mem_of_getElem? (i := 204) (by decide +kernel)), rfl⟩
theorem q1092 : Cond.code yX7_enterIf cX7_enterIf 4 none ∈ wAll := List.mem_filter.mpr ⟨tq4 (List.mem_of_getElem? (i := 205) (by decide +kernel)), rfl⟩
theorem q1093 : Cond.methodLink RX7 82 yX7_leave ∈ wAll := List.mem_filter.mpr ⟨tq4 (List.mem_of_getElem? (i := 206) (by decide +kernel)), rfl⟩
theorem q1095 : Cond.instanceMethod yX7_leave ∈ wAll := List.mem_filter.mpr ⟨tq4 (List.mem_of_getElem? (i := 208) (by decide +kernel)), rfl⟩
theorem q1096 : Cond.code yX7_leave cX7_leave 2 none ∈ wAll := List.mem_filter.mpr ⟨tq4 (List.mem_of_getElem? (i := 209) (by decide +kernel)), rfl⟩
theorem q1097 : Cond.methodLink RL 75 yX11_years ∈ wAll := List.mem_filter.mpr ⟨tq4 (List.mem_of_getElem? (i := 210) (by decide +kernel)), rfl⟩
theorem q1098 : Cond.instanceMethod yX11_years ∈ wAll := List.mem_filter.mpr ⟨tq4 (List.mem_of_getElem? (i := 211) (by decide +kernel)), rfl⟩
theorem q1099 : Cond.selects RX11 yX11_years yX11_years ∈ wAll := List.mem_filter.mpr ⟨tq4 (List.mem_of_getElem? (i := 212) (by decide +kernel)), rfl⟩
theorem q1100 : Cond.code yX11_years cX11_years 3 (some .int) ∈ wAll := List.mem_filter.mpr ⟨tq4 (List.mem_of_getElem? (i := 213) (by decide +kernel)), rfl⟩
theorem q1101 : Cond.methodLinkNest RX11 168 yX10_live "WarmExtents" ∈ nwAll := List.mem_filter.mpr ⟨tq4 (List.mem_of_getElem? (i := 214) (by decide +kernel)), rfl⟩
theorem q1103 : Cond.instanceMethod yX10_live ∈ wAll := List.mem_filter.mpr ⟨tq4 (List.mem_of_getElem? (i := 216) (by decide +kernel)), rfl⟩
theorem q1104 : Cond.code yX10_live cX10_live 6 none ∈ wAll := List.mem_filter.mpr ⟨tq4 (List.mem_of_getElem? (i := 217) (by decide +kernel)), rfl⟩
theorem q1105 : Cond.methodLink RX10 226 yX10_happen ∈ wAll := List.mem_filter.mpr ⟨tq4 (List.mem_of_getElem? (i := 218) (by decide +kernel)), rfl⟩
theorem q1107 : Cond.instanceMethod yX10_happen ∈ wAll := List.mem_filter.mpr ⟨tq4 (List.mem_of_getElem? (i := 220) (by decide +kernel)), rfl⟩
theorem q1108 : Cond.code yX10_happen cX10_happen 7 none ∈ wAll := List.mem_filter.mpr ⟨tq4 (List.mem_of_getElem? (i := 221) (by decide +kernel)), rfl⟩
theorem q1109 : Cond.methodLink RX10 230 yX10_writeBlock ∈ wAll := List.mem_filter.mpr ⟨tq4 (List.mem_of_getElem? (i := 222) (by decide +kernel)), rfl⟩
theorem q1110 : Cond.methodLink RX10 233 yX10_readExtents ∈ wAll := List.mem_filter.mpr ⟨tq4 (List.mem_of_getElem? (i := 223) (by decide +kernel)), rfl⟩
theorem q1111 : Cond.methodLink RX10 237 yX10_loseMemory ∈ wAll := List.mem_filter.mpr ⟨tq4 (List.mem_of_getElem? (i := 224) (by decide +kernel)), rfl⟩
theorem q1112 : Cond.methodLink RL 79 yX11_undo ∈ wAll := List.mem_filter.mpr ⟨tq4 (List.mem_of_getElem? (i := 225) (by decide +kernel)), rfl⟩
theorem q1113 : Cond.instanceMethod yX11_undo ∈ wAll := List.mem_filter.mpr ⟨tq4 (List.mem_of_getElem? (i := 226) (by decide +kernel)), rfl⟩
theorem q1114 : Cond.selects RX11 yX11_undo yX11_undo ∈ wAll := List.mem_filter.mpr ⟨tq4 (List.mem_of_getElem? (i := 227) (by decide +kernel)), rfl⟩
theorem q1115 : Cond.code yX11_undo cX11_undo 1 (some .int) ∈ wAll := List.mem_filter.mpr ⟨tq4 (List.mem_of_getElem? (i := 228) (by decide +kernel)), rfl⟩
theorem q1116 : Cond.methodLinkNest RX11 172 yX4_pop "WarmExtents" ∈ nwAll := List.mem_filter.mpr ⟨tq4 (List.mem_of_getElem? (i := 229) (by decide +kernel)), rfl⟩
theorem q1118 : Cond.instanceMethod yX4_pop ∈ wAll := List.mem_filter.mpr ⟨tq4 (List.mem_of_getElem? (i := 231) (by decide +kernel)), rfl⟩
theorem q1119 : Cond.code yX4_pop cX4_pop 2 (some .boolean) ∈ wAll := List.mem_filter.mpr ⟨tq4 (List.mem_of_getElem? (i := 232) (by decide +kernel)), rfl⟩
theorem q1120 : Cond.methodLink RL 83 yX11_is ∈ wAll := List.mem_filter.mpr ⟨tq4 (List.mem_of_getElem? (i := 233) (by decide +kernel)), rfl⟩
theorem q1121 : Cond.instanceMethod yX11_is ∈ wAll := List.mem_filter.mpr ⟨tq4 (List.mem_of_getElem? (i := 234) (by decide +kernel)), rfl⟩
theorem q1122 : Cond.selects RX11 yX11_is yX11_is ∈ wAll := List.mem_filter.mpr ⟨tq4 (List.mem_of_getElem? (i := 235) (by decide +kernel)), rfl⟩
theorem q1123 : Cond.code yX11_is cX11_is 2 (some .int) ∈ wAll := List.mem_filter.mpr ⟨tq4 (List.mem_of_getElem? (i := 236) (by decide +kernel)), rfl⟩
theorem q1124 : Cond.methodLink RL 87 yX11_where ∈ wAll := List.mem_filter.mpr ⟨tq4 (List.mem_of_getElem? (i := 237) (by decide +kernel)), rfl⟩
theorem q1125 : Cond.instanceMethod yX11_where ∈ wAll := List.mem_filter.mpr ⟨tq4 (List.mem_of_getElem? (i := 238) (by decide +kernel)), rfl⟩
theorem q1126 : Cond.selects RX11 yX11_where yX11_where ∈ wAll := List.mem_filter.mpr ⟨tq4 (List.mem_of_getElem? (i := 239) (by decide +kernel)), rfl⟩
theorem q1127 : Cond.code yX11_where cX11_where 2 (some .int) ∈ wAll := List.mem_filter.mpr ⟨tq5 (List.mem_of_getElem? (i := 0) (by decide +kernel)), rfl⟩
theorem q1128 : Cond.methodLink RL 91 yX11_slot ∈ wAll := List.mem_filter.mpr ⟨tq5 (List.mem_of_getElem? (i := 1) (by decide +kernel)), rfl⟩
theorem q1129 : Cond.instanceMethod yX11_slot ∈ wAll := List.mem_filter.mpr ⟨tq5 (List.mem_of_getElem? (i := 2) (by decide +kernel)), rfl⟩
theorem q1130 : Cond.selects RX11 yX11_slot yX11_slot ∈ wAll := List.mem_filter.mpr ⟨tq5 (List.mem_of_getElem? (i := 3) (by decide +kernel)), rfl⟩
theorem q1131 : Cond.code yX11_slot cX11_slot 3 (some .int) ∈ wAll := List.mem_filter.mpr ⟨tq5 (List.mem_of_getElem? (i := 4) (by decide +kernel)), rfl⟩
theorem q1132 : Cond.fieldLink RX11 186 "WarmExtents" "START" "[I" ∈ wAll := List.mem_filter.mpr ⟨tq5 (List.mem_of_getElem? (i := 5) (by decide +kernel)), rfl⟩
theorem q1133 : Cond.methodLink RL 95 yX11_on ∈ wAll := List.mem_filter.mpr ⟨tq5 (List.mem_of_getElem? (i := 6) (by decide +kernel)), rfl⟩
theorem q1134 : Cond.instanceMethod yX11_on ∈ wAll := List.mem_filter.mpr ⟨tq5 (List.mem_of_getElem? (i := 7) (by decide +kernel)), rfl⟩
theorem q1135 : Cond.selects RX11 yX11_on yX11_on ∈ wAll := List.mem_filter.mpr ⟨tq5 (List.mem_of_getElem? (i := 8) (by decide +kernel)), rfl⟩
theorem q1136 : Cond.code yX11_on cX11_on 3 (some .int) ∈ wAll := List.mem_filter.mpr ⟨tq5 (List.mem_of_getElem? (i := 9) (by decide +kernel)), rfl⟩
theorem q1137 : Cond.methodLink RL 99 yX11_holder ∈ wAll := List.mem_filter.mpr ⟨tq5 (List.mem_of_getElem? (i := 10) (by decide +kernel)), rfl⟩
theorem q1138 : Cond.instanceMethod yX11_holder ∈ wAll := List.mem_filter.mpr ⟨tq5 (List.mem_of_getElem? (i := 11) (by decide +kernel)), rfl⟩
theorem q1139 : Cond.selects RX11 yX11_holder yX11_holder ∈ wAll := List.mem_filter.mpr ⟨tq5 (List.mem_of_getElem? (i := 12) (by decide +kernel)), rfl⟩
theorem q1140 : Cond.code yX11_holder cX11_holder 2 (some .int) ∈ wAll := List.mem_filter.mpr ⟨tq5 (List.mem_of_getElem? (i := 13) (by decide +kernel)), rfl⟩
theorem q1141 : Cond.methodLink RL 103 yX11_free ∈ wAll := List.mem_filter.mpr ⟨tq5 (List.mem_of_getElem? (i := 14) (by decide +kernel)), rfl⟩
theorem q1142 : Cond.instanceMethod yX11_free ∈ wAll := List.mem_filter.mpr ⟨tq5 (List.mem_of_getElem? (i := 15) (by decide +kernel)), rfl⟩
theorem q1143 : Cond.selects RX11 yX11_free yX11_free ∈ wAll := List.mem_filter.mpr ⟨tq5 (List.mem_of_getElem? (i := 16) (by decide +kernel)), rfl⟩
theorem q1144 : Cond.code yX11_free cX11_free 2 (some .int) ∈ wAll := List.mem_filter.mpr ⟨tq5 (List.mem_of_getElem? (i := 17) (by decide +kernel)), rfl⟩
theorem q1145 : Cond.methodLinkNest RX11 198 yX1_lowestFree "WarmExtents" ∈ nwAll := List.mem_filter.mpr ⟨tq5 (List.mem_of_getElem? (i := 18) (by decide +kernel)), rfl⟩
theorem q1147 : Cond.instanceMethod yX1_lowestFree ∈ wAll := List.mem_filter.mpr ⟨tq5 (List.mem_of_getElem? (i := 20) (by decide +kernel)), rfl⟩
theorem q1148 : Cond.code yX1_lowestFree cX1_lowestFree 3 (some .int) ∈ wAll := List.mem_filter.mpr ⟨tq5 (List.mem_of_getElem? (i := 21) (by decide +kernel)), rfl⟩
theorem q1149 : Cond.methodLink RL 107 yX11_position ∈ wAll := List.mem_filter.mpr ⟨tq5 (List.mem_of_getElem? (i := 22) (by decide +kernel)), rfl⟩
theorem q1150 : Cond.instanceMethod yX11_position ∈ wAll := List.mem_filter.mpr ⟨tq5 (List.mem_of_getElem? (i := 23) (by decide +kernel)), rfl⟩
theorem q1151 : Cond.selects RX11 yX11_position yX11_position ∈ wAll := List.mem_filter.mpr ⟨tq5 (List.mem_of_getElem? (i := 24) (by decide +kernel)), rfl⟩
theorem q1152 : Cond.code yX11_position cX11_position 3 (some .int) ∈ wAll := List.mem_filter.mpr ⟨tq5 (List.mem_of_getElem? (i := 25) (by decide +kernel)), rfl⟩
theorem q1153 : Cond.methodLink RL 111 yX11_heat ∈ wAll := List.mem_filter.mpr ⟨tq5 (List.mem_of_getElem? (i := 26) (by decide +kernel)), rfl⟩
theorem q1154 : Cond.instanceMethod yX11_heat ∈ wAll := List.mem_filter.mpr ⟨tq5 (List.mem_of_getElem? (i := 27) (by decide +kernel)), rfl⟩
theorem q1155 : Cond.selects RX11 yX11_heat yX11_heat ∈ wAll := List.mem_filter.mpr ⟨tq5 (List.mem_of_getElem? (i := 28) (by decide +kernel)), rfl⟩
theorem q1156 : Cond.code yX11_heat cX11_heat 2 (some .int) ∈ wAll := List.mem_filter.mpr ⟨tq5 (List.mem_of_getElem? (i := 29) (by decide +kernel)), rfl⟩
theorem q1157 : Cond.methodLink RL 115 yX11_of ∈ wAll := List.mem_filter.mpr ⟨tq5 (List.mem_of_getElem? (i := 30) (by decide +kernel)), rfl⟩
theorem q1158 : Cond.instanceMethod yX11_of ∈ wAll := List.mem_filter.mpr ⟨tq5 (List.mem_of_getElem? (i := 31) (by decide +kernel)), rfl⟩
theorem q1159 : Cond.selects RX11 yX11_of yX11_of ∈ wAll := List.mem_filter.mpr ⟨tq5 (List.mem_of_getElem? (i := 32) (by decide +kernel)), rfl⟩
theorem q1160 : Cond.code yX11_of cX11_of 3 (some .int) ∈ wAll := List.mem_filter.mpr ⟨tq5 (List.mem_of_getElem? (i := 33) (by decide +kernel)), rfl⟩
theorem q1161 : Cond.methodLinkNest RX11 204 yX2_detail "WarmExtents" ∈ nwAll := List.mem_filter.mpr ⟨tq5 (List.mem_of_getElem? (i := 34) (by decide +kernel)), rfl⟩
theorem q1163 : Cond.instanceMethod yX2_detail ∈ wAll := List.mem_filter.mpr ⟨tq5 (List.mem_of_getElem? (i := 36) (by decide +kernel)), rfl⟩
theorem q1164 : Cond.code yX2_detail cX2_detail 3 (some .int) ∈ wAll := List.mem_filter.mpr ⟨tq5 (List.mem_of_getElem? (i := 37) (by decide +kernel)), rfl⟩
theorem q1165 : Cond.methodLink RL 119 yX11_head ∈ wAll := List.mem_filter.mpr ⟨tq5 (List.mem_of_getElem? (i := 38) (by decide +kernel)), rfl⟩
theorem q1166 : Cond.instanceMethod yX11_head ∈ wAll := List.mem_filter.mpr ⟨tq5 (List.mem_of_getElem? (i := 39) (by decide +kernel)), rfl⟩
theorem q1167 : Cond.selects RX11 yX11_head yX11_head ∈ wAll := List.mem_filter.mpr ⟨tq5 (List.mem_of_getElem? (i := 40) (by decide +kernel)), rfl⟩
theorem q1168 : Cond.code yX11_head cX11_head 3 (some .int) ∈ wAll := List.mem_filter.mpr ⟨tq5 (List.mem_of_getElem? (i := 41) (by decide +kernel)), rfl⟩
theorem q1169 : Cond.methodLinkNest RX11 211 yX3_detail "WarmExtents" ∈ nwAll := List.mem_filter.mpr ⟨tq5 (List.mem_of_getElem? (i := 42) (by decide +kernel)), rfl⟩
theorem q1171 : Cond.instanceMethod yX3_detail ∈ wAll := List.mem_filter.mpr ⟨tq5 (List.mem_of_getElem? (i := 44) (by decide +kernel)), rfl⟩
theorem q1172 : Cond.code yX3_detail cX3_detail 3 (some .int) ∈ wAll := List.mem_filter.mpr ⟨tq5 (List.mem_of_getElem? (i := 45) (by decide +kernel)), rfl⟩
theorem q1173 : Cond.methodLink RL 123 yX11_move ∈ wAll := List.mem_filter.mpr ⟨tq5 (List.mem_of_getElem? (i := 46) (by decide +kernel)), rfl⟩
theorem q1174 : Cond.instanceMethod yX11_move ∈ wAll := List.mem_filter.mpr ⟨tq5 (List.mem_of_getElem? (i := 47) (by decide +kernel)), rfl⟩
theorem q1175 : Cond.selects RX11 yX11_move yX11_move ∈ wAll := List.mem_filter.mpr ⟨tq5 (List.mem_of_getElem? (i := 48) (by decide +kernel)), rfl⟩
theorem q1176 : Cond.code yX11_move cX11_move 4 (some .int) ∈ wAll := List.mem_filter.mpr ⟨tq5 (List.mem_of_getElem? (i := 49) (by decide +kernel)), rfl⟩
theorem q1177 : Cond.methodLinkNest RX11 214 yX10_blocksToCopy "WarmExtents" ∈ nwAll := List.mem_filter.mpr ⟨tq5 (List.mem_of_getElem? (i := 50) (by decide +kernel)), rfl⟩
theorem q1178 : Cond.methodLinkNest RX11 217 yX5_detail "WarmExtents" ∈ nwAll := List.mem_filter.mpr ⟨tq5 (List.mem_of_getElem? (i := 51) (by decide +kernel)), rfl⟩
theorem q1180 : Cond.instanceMethod yX5_detail ∈ wAll := List.mem_filter.mpr ⟨tq5 (List.mem_of_getElem? (i := 53) (by decide +kernel)), rfl⟩
theorem q1181 : Cond.code yX5_detail cX5_detail 3 (some .int) ∈ wAll := List.mem_filter.mpr ⟨tq5 (List.mem_of_getElem? (i := 54) (by decide +kernel)), rfl⟩
theorem q1182 : Cond.methodLink RL 127 yX11_moveOf ∈ wAll := List.mem_filter.mpr ⟨tq5 (List.mem_of_getElem? (i := 55) (by decide +kernel)), rfl⟩
theorem q1183 : Cond.instanceMethod yX11_moveOf ∈ wAll := List.mem_filter.mpr ⟨tq5 (List.mem_of_getElem? (i := 56) (by decide +kernel)), rfl⟩
theorem q1184 : Cond.selects RX11 yX11_moveOf yX11_moveOf ∈ wAll := List.mem_filter.mpr ⟨tq5 (List.mem_of_getElem? (i := 57) (by decide +kernel)), rfl⟩
theorem q1185 : Cond.code yX11_moveOf cX11_moveOf 2 (some .int) ∈ wAll := List.mem_filter.mpr ⟨tq5 (List.mem_of_getElem? (i := 58) (by decide +kernel)), rfl⟩
theorem q1186 : Cond.methodLink RL 131 yX11_plan ∈ wAll := List.mem_filter.mpr ⟨tq5 (List.mem_of_getElem? (i := 59) (by decide +kernel)), rfl⟩
theorem q1187 : Cond.instanceMethod yX11_plan ∈ wAll := List.mem_filter.mpr ⟨tq5 (List.mem_of_getElem? (i := 60) (by decide +kernel)), rfl⟩
theorem q1188 : Cond.selects RX11 yX11_plan yX11_plan ∈ wAll := List.mem_filter.mpr ⟨tq5 (List.mem_of_getElem? (i := 61) (by decide +kernel)), rfl⟩
theorem q1189 : Cond.code yX11_plan cX11_plan 1 (some .int) ∈ wAll := List.mem_filter.mpr ⟨tq5 (List.mem_of_getElem? (i := 62) (by decide +kernel)), rfl⟩
theorem q1190 : Cond.methodLinkNest RX11 218 yX6_makeFor "WarmExtents" ∈ nwAll := List.mem_filter.mpr ⟨tq5 (List.mem_of_getElem? (i := 63) (by decide +kernel)), rfl⟩
theorem q1191 : Cond.methodLink RL 135 yX11_worth ∈ wAll := List.mem_filter.mpr ⟨tq5 (List.mem_of_getElem? (i := 64) (by decide +kernel)), rfl⟩
theorem q1192 : Cond.instanceMethod yX11_worth ∈ wAll := List.mem_filter.mpr ⟨tq5 (List.mem_of_getElem? (i := 65) (by decide +kernel)), rfl⟩
theorem q1193 : Cond.selects RX11 yX11_worth yX11_worth ∈ wAll := List.mem_filter.mpr ⟨tq5 (List.mem_of_getElem? (i := 66) (by decide +kernel)), rfl⟩
theorem q1194 : Cond.code yX11_worth cX11_worth 2 (some .int) ∈ wAll := List.mem_filter.mpr ⟨tq5 (List.mem_of_getElem? (i := 67) (by decide +kernel)), rfl⟩
theorem q1195 : Cond.constant RX11 225 (-2147483648) ∈ wAll := List.mem_filter.mpr ⟨tq5 (List.mem_of_getElem? (i := 68) (by decide +kernel)), rfl⟩
theorem q1196 : Cond.methodLink RL 139 yX11_value ∈ wAll := List.mem_filter.mpr ⟨tq5 (List.mem_of_getElem? (i := 69) (by decide +kernel)), rfl⟩
theorem q1197 : Cond.instanceMethod yX11_value ∈ wAll := List.mem_filter.mpr ⟨tq5 (List.mem_of_getElem? (i := 70) (by decide +kernel)), rfl⟩
theorem q1198 : Cond.selects RX11 yX11_value yX11_value ∈ wAll := List.mem_filter.mpr ⟨tq5 (List.mem_of_getElem? (i := 71) (by decide +kernel)), rfl⟩
theorem q1199 : Cond.code yX11_value cX11_value 2 (some .int) ∈ wAll := List.mem_filter.mpr ⟨tq5 (List.mem_of_getElem? (i := 72) (by decide +kernel)), rfl⟩
theorem q1200 : Cond.methodLinkNest RX11 229 yX6_weigh "WarmExtents" ∈ nwAll := List.mem_filter.mpr ⟨tq5 (List.mem_of_getElem? (i := 73) (by decide +kernel)), rfl⟩
theorem q1201 : Cond.methodLinkNest RX11 232 yX6_allows "WarmExtents" ∈ nwAll := List.mem_filter.mpr ⟨tq5 (List.mem_of_getElem? (i := 74) (by decide +kernel)), rfl⟩
theorem q1203 : Cond.instanceMethod yX6_allows ∈ wAll := List.mem_filter.mpr ⟨tq5 (List.mem_of_getElem? (i := 76) (by decide +kernel)), rfl⟩
theorem q1204 : Cond.code yX6_allows cX6_allows 5 (some .boolean) ∈ wAll := List.mem_filter.mpr ⟨tq5 (List.mem_of_getElem? (i := 77) (by decide +kernel)), rfl⟩
theorem q1205 : Cond.methodLink RX6 150 yX6_needOf ∈ wAll := List.mem_filter.mpr ⟨tq5 (List.mem_of_getElem? (i := 78) (by decide +kernel)), rfl⟩
theorem q1207 : Cond.instanceMethod yX6_needOf ∈ wAll := List.mem_filter.mpr ⟨tq5 (List.mem_of_getElem? (i := 80) (by decide +kernel)), rfl⟩
theorem q1208 : Cond.code yX6_needOf cX6_needOf 4 (some .int) ∈ wAll := List.mem_filter.mpr ⟨tq5 (List.mem_of_getElem? (i := 81) (by decide +kernel)), rfl⟩
theorem q1209 : Cond.methodLinkNest RX11 235 yX6_worthOf "WarmExtents" ∈ nwAll := List.mem_filter.mpr ⟨tq5 (List.mem_of_getElem? (i := 82) (by decide +kernel)), rfl⟩
theorem q1211 : Cond.instanceMethod yX6_worthOf ∈ wAll := List.mem_filter.mpr ⟨tq5 (List.mem_of_getElem? (i := 84) (by decide +kernel)), rfl⟩
theorem q1212 : Cond.code yX6_worthOf cX6_worthOf 4 (some .int) ∈ wAll := List.mem_filter.mpr ⟨tq5 (List.mem_of_getElem? (i := 85) (by decide +kernel)), rfl⟩
theorem q1213 : Cond.methodLink RL 143 yX11_needs ∈ wAll := List.mem_filter.mpr ⟨tq5 (List.mem_of_getElem? (i := 86) (by decide +kernel)), rfl⟩
theorem q1214 : Cond.instanceMethod yX11_needs ∈ wAll := List.mem_filter.mpr ⟨tq5 (List.mem_of_getElem? (i := 87) (by decide +kernel)), rfl⟩
theorem q1215 : Cond.selects RX11 yX11_needs yX11_needs ∈ wAll := List.mem_filter.mpr ⟨tq5 (List.mem_of_getElem? (i := 88) (by decide +kernel)), rfl⟩
theorem q1216 : Cond.code yX11_needs cX11_needs 2 (some .int) ∈ wAll := List.mem_filter.mpr ⟨tq5 (List.mem_of_getElem? (i := 89) (by decide +kernel)), rfl⟩
theorem q1217 : Cond.methodLinkNest RX11 238 yX6_needOf "WarmExtents" ∈ nwAll := List.mem_filter.mpr ⟨tq5 (List.mem_of_getElem? (i := 90) (by decide +kernel)), rfl⟩
theorem q1218 : Cond.methodLink RL 147 yX11_threshold ∈ wAll := List.mem_filter.mpr ⟨tq5 (List.mem_of_getElem? (i := 91) (by decide +kernel)), rfl⟩
theorem q1219 : Cond.instanceMethod yX11_threshold ∈ wAll := List.mem_filter.mpr ⟨tq5 (List.mem_of_getElem? (i := 92) (by decide +kernel)), rfl⟩
theorem q1220 : Cond.selects RX11 yX11_threshold yX11_threshold ∈ wAll := List.mem_filter.mpr ⟨tq5 (List.mem_of_getElem? (i := 93) (by decide +kernel)), rfl⟩
theorem q1221 : Cond.code yX11_threshold cX11_threshold 2 (some .int) ∈ wAll := List.mem_filter.mpr ⟨tq5 (List.mem_of_getElem? (i := 94) (by decide +kernel)), rfl⟩
theorem q1222 : Cond.methodLinkNest RX11 241 yX6_leastHeat "WarmExtents" ∈ nwAll := List.mem_filter.mpr ⟨tq5 (List.mem_of_getElem? (i := 95) (by decide +kernel)), rfl⟩
theorem q1224 : Cond.instanceMethod yX6_leastHeat ∈ wAll := List.mem_filter.mpr ⟨tq5 (List.mem_of_getElem? (i := 97) (by decide +kernel)), rfl⟩
theorem q1225 : Cond.code yX6_leastHeat cX6_leastHeat 9 (some .int) ∈ wAll := List.mem_filter.mpr ⟨tq5 (List.mem_of_getElem? (i := 98) (by decide +kernel)), rfl⟩
theorem q1226 : Cond.methodLink RX6 156 yX6_force ∈ wAll := List.mem_filter.mpr ⟨tq5 (List.mem_of_getElem? (i := 99) (by decide +kernel)), rfl⟩
theorem q1228 : Cond.instanceMethod yX6_force ∈ wAll := List.mem_filter.mpr ⟨tq5 (List.mem_of_getElem? (i := 101) (by decide +kernel)), rfl⟩
theorem q1229 : Cond.code yX6_force cX6_force 3 none ∈ wAll := List.mem_filter.mpr ⟨tq5 (List.mem_of_getElem? (i := 102) (by decide +kernel)), rfl⟩
theorem q1230 : Cond.methodLink RX6 160 yX6_leastHeatOfWorth ∈ wAll := List.mem_filter.mpr ⟨tq5 (List.mem_of_getElem? (i := 103) (by decide +kernel)), rfl⟩
theorem q1231 : Cond.static yX6_leastHeatOfWorth ∈ wAll := List.mem_filter.mpr ⟨tq5 (List.mem_of_getElem? (i := 104) (by decide +kernel)), rfl⟩
theorem q1232 : Cond.code yX6_leastHeatOfWorth cX6_leastHeatOfWorth 6 (some .int) ∈ wAll := List.mem_filter.mpr ⟨tq5 (List.mem_of_getElem? (i := 105) (by decide +kernel)), rfl⟩
theorem q1233 : Cond.methodLink RL 151 yX11_displaced ∈ wAll := List.mem_filter.mpr ⟨tq5 (List.mem_of_getElem? (i := 106) (by decide +kernel)), rfl⟩
theorem q1234 : Cond.instanceMethod yX11_displaced ∈ wAll := List.mem_filter.mpr ⟨tq5 (List.mem_of_getElem? (i := 107) (by decide +kernel)), rfl⟩
theorem q1235 : Cond.selects RX11 yX11_displaced yX11_displaced ∈ wAll := List.mem_filter.mpr ⟨tq5 (List.mem_of_getElem? (i := 108) (by decide +kernel)), rfl⟩
theorem q1236 : Cond.code yX11_displaced cX11_displaced 3 (some .int) ∈ wAll := List.mem_filter.mpr ⟨tq5 (List.mem_of_getElem? (i := 109) (by decide +kernel)), rfl⟩
theorem q1237 : Cond.methodLink RL 155 yX11_may ∈ wAll := List.mem_filter.mpr ⟨tq5 (List.mem_of_getElem? (i := 110) (by decide +kernel)), rfl⟩
theorem q1238 : Cond.instanceMethod yX11_may ∈ wAll := List.mem_filter.mpr ⟨tq5 (List.mem_of_getElem? (i := 111) (by decide +kernel)), rfl⟩
theorem q1239 : Cond.selects RX11 yX11_may yX11_may ∈ wAll := List.mem_filter.mpr ⟨tq5 (List.mem_of_getElem? (i := 112) (by decide +kernel)), rfl⟩
theorem q1240 : Cond.code yX11_may cX11_may 3 (some .boolean) ∈ wAll := List.mem_filter.mpr ⟨tq5 (List.mem_of_getElem? (i := 113) (by decide +kernel)), rfl⟩
theorem q1241 : Cond.methodLinkNest RX11 245 yX6_force "WarmExtents" ∈ nwAll := List.mem_filter.mpr ⟨tq5 (List.mem_of_getElem? (i := 114) (by decide +kernel)), rfl⟩
theorem q1242 : Cond.methodLinkNest RX11 249 yX6_choose "WarmExtents" ∈ nwAll := List.mem_filter.mpr ⟨tq5 (List.mem_of_getElem? (i := 115) (by decide +kernel)), rfl⟩
theorem q1243 : Cond.methodLink RL 160 yX11_next ∈ wAll := List.mem_filter.mpr ⟨tq5 (List.mem_of_getElem? (i := 116) (by decide +kernel)), rfl⟩
theorem q1244 : Cond.instanceMethod yX11_next ∈ wAll := List.mem_filter.mpr ⟨tq5 (List.mem_of_getElem? (i := 117) (by decide +kernel)), rfl⟩
theorem q1245 : Cond.selects RX11 yX11_next yX11_next ∈ wAll := List.mem_filter.mpr ⟨tq5 (List.mem_of_getElem? (i := 118) (by decide +kernel)), rfl⟩
theorem q1246 : Cond.code yX11_next cX11_next 2 (some .int) ∈ wAll := List.mem_filter.mpr ⟨tq5 (List.mem_of_getElem? (i := 119) (by decide +kernel)), rfl⟩
theorem q1247 : Cond.methodLinkNest RX11 253 yX6_listMoves "WarmExtents" ∈ nwAll := List.mem_filter.mpr ⟨tq5 (List.mem_of_getElem? (i := 120) (by decide +kernel)), rfl⟩
theorem q1248 : Cond.methodLink RL 164 yX11_enough ∈ wAll := List.mem_filter.mpr ⟨tq5 (List.mem_of_getElem? (i := 121) (by decide +kernel)), rfl⟩
theorem q1249 : Cond.instanceMethod yX11_enough ∈ wAll := List.mem_filter.mpr ⟨tq5 (List.mem_of_getElem? (i := 122) (by decide +kernel)), rfl⟩
theorem q1250 : Cond.selects RX11 yX11_enough yX11_enough ∈ wAll := List.mem_filter.mpr ⟨tq5 (List.mem_of_getElem? (i := 123) (by decide +kernel)), rfl⟩
theorem q1251 : Cond.code yX11_enough cX11_enough 3 (some .int) ∈ wAll := List.mem_filter.mpr ⟨tq5 (List.mem_of_getElem? (i := 124) (by decide +kernel)), rfl⟩
theorem q1252 : Cond.methodLink RL 168 yX11_gained ∈ wAll := List.mem_filter.mpr ⟨tq5 (List.mem_of_getElem? (i := 125) (by decide +kernel)), rfl⟩
theorem q1253 : Cond.instanceMethod yX11_gained ∈ wAll := List.mem_filter.mpr ⟨tq5 (List.mem_of_getElem? (i := 126) (by decide +kernel)), rfl⟩
theorem q1254 : Cond.selects RX11 yX11_gained yX11_gained ∈ wAll := List.mem_filter.mpr ⟨tq5 (List.mem_of_getElem? (i := 127) (by decide +kernel)), rfl⟩
theorem q1255 : Cond.code yX11_gained cX11_gained 2 (some .int) ∈ wAll := List.mem_filter.mpr ⟨tq5 (List.mem_of_getElem? (i := 128) (by decide +kernel)), rfl⟩
theorem q1256 : Cond.methodLink RL 172 yX11_foretold ∈ wAll := List.mem_filter.mpr ⟨tq5 (List.mem_of_getElem? (i := 129) (by decide +kernel)), rfl⟩
theorem q1257 : Cond.instanceMethod yX11_foretold ∈ wAll := List.mem_filter.mpr ⟨tq5 (List.mem_of_getElem? (i := 130) (by decide +kernel)), rfl⟩
theorem q1258 : Cond.selects RX11 yX11_foretold yX11_foretold ∈ wAll := List.mem_filter.mpr ⟨tq5 (List.mem_of_getElem? (i := 131) (by decide +kernel)), rfl⟩
theorem q1259 : Cond.code yX11_foretold cX11_foretold 3 (some .int) ∈ wAll := List.mem_filter.mpr ⟨tq5 (List.mem_of_getElem? (i := 132) (by decide +kernel)), rfl⟩
theorem q1260 : Cond.methodLinkNest RX11 269 yX10_copyFrom "WarmExtents" ∈ nwAll := List.mem_filter.mpr ⟨tq5 (List.mem_of_getElem? (i := 133) (by decide +kernel)), rfl⟩
theorem q1261 : Cond.methodLink RL 176 yX11_copies ∈ wAll := List.mem_filter.mpr ⟨tq5 (List.mem_of_getElem? (i := 134) (by decide +kernel)), rfl⟩
theorem q1262 : Cond.instanceMethod yX11_copies ∈ wAll := List.mem_filter.mpr ⟨tq5 (List.mem_of_getElem? (i := 135) (by decide +kernel)), rfl⟩
theorem q1263 : Cond.selects RX11 yX11_copies yX11_copies ∈ wAll := List.mem_filter.mpr ⟨tq5 (List.mem_of_getElem? (i := 136) (by decide +kernel)), rfl⟩
theorem q1264 : Cond.code yX11_copies cX11_copies 2 (some .int) ∈ wAll := List.mem_filter.mpr ⟨tq5 (List.mem_of_getElem? (i := 137) (by decide +kernel)), rfl⟩
theorem q1265 : Cond.methodLink RL 180 yX11_would ∈ wAll := List.mem_filter.mpr ⟨tq5 (List.mem_of_getElem? (i := 138) (by decide +kernel)), rfl⟩
theorem q1266 : Cond.instanceMethod yX11_would ∈ wAll := List.mem_filter.mpr ⟨tq5 (List.mem_of_getElem? (i := 139) (by decide +kernel)), rfl⟩
theorem q1267 : Cond.selects RX11 yX11_would yX11_would ∈ wAll := List.mem_filter.mpr ⟨tq5 (List.mem_of_getElem? (i := 140) (by decide +kernel)), rfl⟩
theorem q1268 : Cond.code yX11_would cX11_would 3 (some .int) ∈ wAll := List.mem_filter.mpr ⟨tq5 (List.mem_of_getElem? (i := 141) (by decide +kernel)), rfl⟩
theorem q1269 : Cond.methodLink RL 184 yX11_cheapest ∈ wAll := List.mem_filter.mpr ⟨tq5 (List.mem_of_getElem? (i := 142) (by decide +kernel)), rfl⟩
theorem q1270 : Cond.instanceMethod yX11_cheapest ∈ wAll := List.mem_filter.mpr ⟨tq5 (List.mem_of_getElem? (i := 143) (by decide +kernel)), rfl⟩
theorem q1271 : Cond.selects RX11 yX11_cheapest yX11_cheapest ∈ wAll := List.mem_filter.mpr ⟨tq5 (List.mem_of_getElem? (i := 144) (by decide +kernel)), rfl⟩
theorem q1272 : Cond.code yX11_cheapest cX11_cheapest 5 (some .int) ∈ wAll := List.mem_filter.mpr ⟨tq5 (List.mem_of_getElem? (i := 145) (by decide +kernel)), rfl⟩
theorem q1273 : Cond.methodLink RL 188 yX11_rank ∈ wAll := List.mem_filter.mpr ⟨tq5 (List.mem_of_getElem? (i := 146) (by decide +kernel)), rfl⟩
theorem q1274 : Cond.instanceMethod yX11_rank ∈ wAll := List.mem_filter.mpr ⟨tq5 (List.mem_of_getElem? (i := 147) (by decide +kernel)), rfl⟩
theorem q1275 : Cond.selects RX11 yX11_rank yX11_rank ∈ wAll := List.mem_filter.mpr ⟨tq5 (List.mem_of_getElem? (i := 148) (by decide +kernel)), rfl⟩
theorem q1276 : Cond.code yX11_rank cX11_rank 3 (some .int) ∈ wAll := List.mem_filter.mpr ⟨tq5 (List.mem_of_getElem? (i := 149) (by decide +kernel)), rfl⟩
theorem q1277 : Cond.methodLinkNest RX11 272 yX2_hotterThan "WarmExtents" ∈ nwAll := List.mem_filter.mpr ⟨tq5 (List.mem_of_getElem? (i := 150) (by decide +kernel)), rfl⟩
theorem q1279 : Cond.instanceMethod yX2_hotterThan ∈ wAll := List.mem_filter.mpr ⟨tq5 (List.mem_of_getElem? (i := 152) (by decide +kernel)), rfl⟩
theorem q1280 : Cond.code yX2_hotterThan cX2_hotterThan 4 (some .int) ∈ wAll := List.mem_filter.mpr ⟨tq5 (List.mem_of_getElem? (i := 153) (by decide +kernel)), rfl⟩
theorem q1281 : Cond.methodLink RX2 64 yX2_hotter ∈ wAll := List.mem_filter.mpr ⟨tq5 (List.mem_of_getElem? (i := 154) (by decide +kernel)), rfl⟩
theorem q1282 : Cond.methodLink RL 192 yX11_coldest ∈ wAll := List.mem_filter.mpr ⟨tq5 (List.mem_of_getElem? (i := 155) (by decide +kernel)), rfl⟩
theorem q1283 : Cond.instanceMethod yX11_coldest ∈ wAll := List.mem_filter.mpr ⟨tq5 (List.mem_of_getElem? (i := 156) (by decide +kernel)), rfl⟩
theorem q1284 : Cond.selects RX11 yX11_coldest yX11_coldest ∈ wAll := List.mem_filter.mpr ⟨tq5 (List.mem_of_getElem? (i := 157) (by decide +kernel)), rfl⟩
theorem q1285 : Cond.code yX11_coldest cX11_coldest 4 (some .int) ∈ wAll := List.mem_filter.mpr ⟨tq5 (List.mem_of_getElem? (i := 158) (by decide +kernel)), rfl⟩
theorem q1286 : Cond.methodLinkNest RX11 275 yX2_hotter "WarmExtents" ∈ nwAll := List.mem_filter.mpr ⟨tq5 (List.mem_of_getElem? (i := 159) (by decide +kernel)), rfl⟩
theorem q1287 : Cond.methodLink RL 196 yX11_warmth ∈ wAll := List.mem_filter.mpr ⟨tq5 (List.mem_of_getElem? (i := 160) (by decide +kernel)), rfl⟩
theorem q1288 : Cond.instanceMethod yX11_warmth ∈ wAll := List.mem_filter.mpr ⟨tq5 (List.mem_of_getElem? (i := 161) (by decide +kernel)), rfl⟩
theorem q1289 : Cond.selects RX11 yX11_warmth yX11_warmth ∈ wAll := List.mem_filter.mpr ⟨tq5 (List.mem_of_getElem? (i := 162) (by decide +kernel)), rfl⟩
theorem q1290 : Cond.code yX11_warmth cX11_warmth 4 (some .int) ∈ wAll := List.mem_filter.mpr ⟨tq5 (List.mem_of_getElem? (i := 163) (by decide +kernel)), rfl⟩
theorem q1291 : Cond.methodLink RL 200 yX11_cools ∈ wAll := List.mem_filter.mpr ⟨tq5 (List.mem_of_getElem? (i := 164) (by decide +kernel)), rfl⟩
theorem q1292 : Cond.instanceMethod yX11_cools ∈ wAll := List.mem_filter.mpr ⟨tq5 (List.mem_of_getElem? (i := 165) (by decide +kernel)), rfl⟩
theorem q1293 : Cond.selects RX11 yX11_cools yX11_cools ∈ wAll := List.mem_filter.mpr ⟨tq5 (List.mem_of_getElem? (i := 166) (by decide +kernel)), rfl⟩
theorem q1294 : Cond.code yX11_cools cX11_cools 2 (some .int) ∈ wAll := List.mem_filter.mpr ⟨tq5 (List.mem_of_getElem? (i := 167) (by decide +kernel)), rfl⟩
theorem q1295 : Cond.methodLink RX11 278 yJ6_numberOfLeadingZeros_0f7a4 ∈ wAll := List.mem_filter.mpr ⟨tq5 (List.mem_of_getElem? (i := 168) (by decide +kernel)), rfl⟩
theorem q1296 : Cond.static yJ6_numberOfLeadingZeros_0f7a4 ∈ wAll := List.mem_filter.mpr ⟨tq5 (List.mem_of_getElem? (i := 169) (by decide +kernel)), rfl⟩
theorem q1297 : Cond.code yJ6_numberOfLeadingZeros_0f7a4 cJ6_numberOfLeadingZeros_0f7a4 2 (some .int) ∈ wAll := List.mem_filter.mpr ⟨tq5 (List.mem_of_getElem? (i := 170) (by decide +kernel)), rfl⟩
theorem q1298 : Cond.constant RJ6 264 (65536) ∈ wAll := List.mem_filter.mpr ⟨tq5 (List.mem_of_getElem? (i := 171) (by decide +kernel)), rfl⟩
theorem q1299 : Cond.methodLink RL 204 yX11_share ∈ wAll := List.mem_filter.mpr ⟨tq5 (List.mem_of_getElem? (i := 172) (by decide +kernel)), rfl⟩
theorem q1300 : Cond.instanceMethod yX11_share ∈ wAll := List.mem_filter.mpr ⟨tq5 (List.mem_of_getElem? (i := 173) (by decide +kernel)), rfl⟩
theorem q1301 : Cond.selects RX11 yX11_share yX11_share ∈ wAll := List.mem_filter.mpr ⟨tq5 (List.mem_of_getElem? (i := 174) (by decide +kernel)), rfl⟩
theorem q1302 : Cond.code yX11_share cX11_share 3 (some .int) ∈ wAll := List.mem_filter.mpr ⟨tq5 (List.mem_of_getElem? (i := 175) (by decide +kernel)), rfl⟩
theorem q1303 : Cond.methodLink RX11 283 yX11_bitsOf ∈ wAll := List.mem_filter.mpr ⟨tq5 (List.mem_of_getElem? (i := 176) (by decide +kernel)), rfl⟩
theorem q1304 : Cond.static yX11_bitsOf ∈ wAll := List.mem_filter.mpr ⟨tq5 (List.mem_of_getElem? (i := 177) (by decide +kernel)), rfl⟩
theorem q1305 : Cond.code yX11_bitsOf cX11_bitsOf 9 (some .long) ∈ wAll := List.mem_filter.mpr ⟨tq5 (List.mem_of_getElem? (i := 178) (by decide +kernel)), rfl⟩
theorem q1306 : Cond.constantDouble RX11 300 (4611686018427387904) ∈ wAll := List.mem_filter.mpr ⟨tq5 (List.mem_of_getElem? (i := 179) (by decide +kernel)), rfl⟩
theorem q1307 : Cond.methodLink RL 208 yX11_mean ∈ wAll := List.mem_filter.mpr ⟨tq5 (List.mem_of_getElem? (i := 180) (by decide +kernel)), rfl⟩
theorem q1308 : Cond.instanceMethod yX11_mean ∈ wAll := List.mem_filter.mpr ⟨tq5 (List.mem_of_getElem? (i := 181) (by decide +kernel)), rfl⟩
theorem q1309 : Cond.selects RX11 yX11_mean yX11_mean ∈ wAll := List.mem_filter.mpr ⟨tq5 (List.mem_of_getElem? (i := 182) (by decide +kernel)), rfl⟩
theorem q1310 : Cond.code yX11_mean cX11_mean 2 (some .long) ∈ wAll := List.mem_filter.mpr ⟨tq5 (List.mem_of_getElem? (i := 183) (by decide +kernel)), rfl⟩
theorem q1311 : Cond.methodLink RL 213 yX11_book ∈ wAll := List.mem_filter.mpr ⟨tq5 (List.mem_of_getElem? (i := 184) (by decide +kernel)), rfl⟩
theorem q1312 : Cond.instanceMethod yX11_book ∈ wAll := List.mem_filter.mpr ⟨tq5 (List.mem_of_getElem? (i := 185) (by decide +kernel)), rfl⟩
theorem q1313 : Cond.selects RX11 yX11_book yX11_book ∈ wAll := List.mem_filter.mpr ⟨tq5 (List.mem_of_getElem? (i := 186) (by decide +kernel)), rfl⟩
theorem q1314 : Cond.code yX11_book cX11_book 3 (some .int) ∈ wAll := List.mem_filter.mpr ⟨tq5 (List.mem_of_getElem? (i := 187) (by decide +kernel)), rfl⟩
theorem q1315 : Cond.methodLinkNest RX11 291 yX0_detail "WarmExtents" ∈ nwAll := List.mem_filter.mpr ⟨tq5 (List.mem_of_getElem? (i := 188) (by decide +kernel)), rfl⟩
theorem q1317 : Cond.instanceMethod yX0_detail ∈ wAll := List.mem_filter.mpr ⟨tq5 (List.mem_of_getElem? (i := 190) (by decide +kernel)), rfl⟩
theorem q1318 : Cond.code yX0_detail cX0_detail 3 (some .int) ∈ wAll := List.mem_filter.mpr ⟨tq5 (List.mem_of_getElem? (i := 191) (by decide +kernel)), rfl⟩
theorem q1319 : Cond.methodLink RL 217 yX11_ledger ∈ wAll := List.mem_filter.mpr ⟨tq5 (List.mem_of_getElem? (i := 192) (by decide +kernel)), rfl⟩
theorem q1320 : Cond.instanceMethod yX11_ledger ∈ wAll := List.mem_filter.mpr ⟨tq5 (List.mem_of_getElem? (i := 193) (by decide +kernel)), rfl⟩
theorem q1321 : Cond.selects RX11 yX11_ledger yX11_ledger ∈ wAll := List.mem_filter.mpr ⟨tq5 (List.mem_of_getElem? (i := 194) (by decide +kernel)), rfl⟩
theorem q1322 : Cond.code yX11_ledger cX11_ledger 2 (some .int) ∈ wAll := List.mem_filter.mpr ⟨tq5 (List.mem_of_getElem? (i := 195) (by decide +kernel)), rfl⟩
theorem q1323 : Cond.methodLinkNest RX11 294 yX0_linesOf "WarmExtents" ∈ nwAll := List.mem_filter.mpr ⟨tq5 (List.mem_of_getElem? (i := 196) (by decide +kernel)), rfl⟩
theorem q1325 : Cond.instanceMethod yX0_linesOf ∈ wAll := List.mem_filter.mpr ⟨tq5 (List.mem_of_getElem? (i := 198) (by decide +kernel)), rfl⟩
theorem q1326 : Cond.code yX0_linesOf cX0_linesOf 4 (some .int) ∈ wAll := List.mem_filter.mpr ⟨tq5 (List.mem_of_getElem? (i := 199) (by decide +kernel)), rfl⟩
theorem q1327 : Cond.methodLink RL 221 yX11_image ∈ wAll := List.mem_filter.mpr ⟨tq5 (List.mem_of_getElem? (i := 200) (by decide +kernel)), rfl⟩
theorem q1328 : Cond.instanceMethod yX11_image ∈ wAll := List.mem_filter.mpr ⟨tq5 (List.mem_of_getElem? (i := 201) (by decide +kernel)), rfl⟩
theorem q1329 : Cond.selects RX11 yX11_image yX11_image ∈ wAll := List.mem_filter.mpr ⟨tq5 (List.mem_of_getElem? (i := 202) (by decide +kernel)), rfl⟩
theorem q1330 : Cond.code yX11_image cX11_image 1 (some .int) ∈ wAll := List.mem_filter.mpr ⟨tq5 (List.mem_of_getElem? (i := 203) (by decide +kernel)), rfl⟩
theorem q1331 : Cond.methodLinkNest RX11 297 yX4_copyFrom "WarmExtents" ∈ nwAll := List.mem_filter.mpr ⟨tq5 (List.mem_of_getElem? (i := 204) (by decide +kernel)), rfl⟩
theorem q1333 : Cond.instanceMethod yX4_copyFrom ∈ wAll := List.mem_filter.mpr ⟨tq5 (List.mem_of_getElem? (i := 206) (by decide +kernel)), rfl⟩
theorem q1334 : Cond.code yX4_copyFrom cX4_copyFrom 3 none ∈ wAll := List.mem_filter.mpr ⟨tq5 (List.mem_of_getElem? (i := 207) (by decide +kernel)), rfl⟩
theorem q1335 : Cond.methodLink RL 225 yX11_back ∈ wAll := List.mem_filter.mpr ⟨tq5 (List.mem_of_getElem? (i := 208) (by decide +kernel)), rfl⟩
theorem q1336 : Cond.instanceMethod yX11_back ∈ wAll := List.mem_filter.mpr ⟨tq5 (List.mem_of_getElem? (i := 209) (by decide +kernel)), rfl⟩
theorem q1337 : Cond.selects RX11 yX11_back yX11_back ∈ wAll := List.mem_filter.mpr ⟨tq5 (List.mem_of_getElem? (i := 210) (by decide +kernel)), rfl⟩
theorem q1338 : Cond.code yX11_back cX11_back 1 (some .int) ∈ wAll := List.mem_filter.mpr ⟨tq5 (List.mem_of_getElem? (i := 211) (by decide +kernel)), rfl⟩
theorem q1339 : Cond.methodLink RL 229 yX11_about ∈ wAll := List.mem_filter.mpr ⟨tq5 (List.mem_of_getElem? (i := 212) (by decide +kernel)), rfl⟩
theorem q1340 : Cond.instanceMethod yX11_about ∈ wAll := List.mem_filter.mpr ⟨tq5 (List.mem_of_getElem? (i := 213) (by decide +kernel)), rfl⟩
theorem q1341 : Cond.selects RX11 yX11_about yX11_about ∈ wAll := List.mem_filter.mpr ⟨tq5 (List.mem_of_getElem? (i := 214) (by decide +kernel)), rfl⟩
theorem q1342 : Cond.code yX11_about cX11_about 2 (some .int) ∈ wAll := List.mem_filter.mpr ⟨tq5 (List.mem_of_getElem? (i := 215) (by decide +kernel)), rfl⟩
theorem q1343 : Cond.classLink RL 10 RX12 ∈ wAll := List.mem_filter.mpr ⟨tq5 (List.mem_of_getElem? (i := 216) (by decide +kernel)), rfl⟩
theorem q1344 : Cond.instantiable RX12 27 ∈ wAll := List.mem_filter.mpr ⟨tq5 (List.mem_of_getElem? (i := 217) (by decide +kernel)), rfl⟩
theorem q1345 : Cond.methodLink RL 12 yX12_init ∈ wAll := List.mem_filter.mpr ⟨tq5 (List.mem_of_getElem? (i := 218) (by decide +kernel)), rfl⟩
theorem q1346 : Cond.instanceMethod yX12_init ∈ wAll := List.mem_filter.mpr ⟨tq5 (List.mem_of_getElem? (i := 219) (by decide +kernel)), rfl⟩
theorem q1347 : Cond.code yX12_init cX12_init 2 none ∈ wAll := List.mem_filter.mpr ⟨tq5 (List.mem_of_getElem? (i := 220) (by decide +kernel)), rfl⟩
theorem q1348 : Cond.methodLink RX12 1 ⟨"java/lang/Object", "<init>", "()V"⟩ ∈ wAll := List.mem_filter.mpr ⟨tq5 (List.mem_of_getElem? (i := 221) (by decide +kernel)), rfl⟩
theorem q1349 : Cond.methodLink RX12 48 yX12_copy ∈ wAll := List.mem_filter.mpr ⟨tq5 (List.mem_of_getElem? (i := 222) (by decide +kernel)), rfl⟩
theorem q1350 : Cond.static yX12_copy ∈ wAll := List.mem_filter.mpr ⟨tq5 (List.mem_of_getElem? (i := 223) (by decide +kernel)), rfl⟩
theorem q1351 : Cond.code yX12_copy cX12_copy 3 none ∈ wAll := List.mem_filter.mpr ⟨tq5 (List.mem_of_getElem? (i := 224) (by decide +kernel)), rfl⟩
theorem q1352 : Cond.fieldLink RX12 7 "WarmExtentsModel" "a" "[I" ∈ wAll := List.mem_filter.mpr ⟨tq5 (List.mem_of_getElem? (i := 225) (by decide +kernel)), rfl⟩
theorem q1353 : Cond.fieldLink RX12 13 "WarmExtentsModel" "image" "[I" ∈ wAll := List.mem_filter.mpr ⟨tq5 (List.mem_of_getElem? (i := 226) (by decide +kernel)), rfl⟩
theorem q1354 : Cond.fieldLink RX12 16 "WarmExtentsModel" "texts" "[I" ∈ wAll := List.mem_filter.mpr ⟨tq5 (List.mem_of_getElem? (i := 227) (by decide +kernel)), rfl⟩
theorem q1355 : Cond.fieldLink RX12 19 "WarmExtentsModel" "tape" "[I" ∈ wAll := List.mem_filter.mpr ⟨tq5 (List.mem_of_getElem? (i := 228) (by decide +kernel)), rfl⟩
theorem q1356 : Cond.fieldLink RX12 67 "WarmExtentsModel" "taped" "I" ∈ wAll := List.mem_filter.mpr ⟨tq5 (List.mem_of_getElem? (i := 229) (by decide +kernel)), rfl⟩
theorem q1357 : Cond.fieldLink RX12 22 "WarmExtentsModel" "fault" "I" ∈ wAll := List.mem_filter.mpr ⟨tq5 (List.mem_of_getElem? (i := 230) (by decide +kernel)), rfl⟩
theorem q1358 : Cond.fieldLink RX12 26 "WarmExtentsModel" "faultPlace" "I" ∈ wAll := List.mem_filter.mpr ⟨tq5 (List.mem_of_getElem? (i := 231) (by decide +kernel)), rfl⟩
theorem q1359 : Cond.fieldLink RX12 81 "WarmExtentsModel" "at" "I" ∈ wAll := List.mem_filter.mpr ⟨tq5 (List.mem_of_getElem? (i := 232) (by decide +kernel)), rfl⟩
theorem q1360 : Cond.fieldLink RX12 84 "WarmExtentsModel" "place" "I" ∈ wAll := List.mem_filter.mpr ⟨tq5 (List.mem_of_getElem? (i := 233) (by decide +kernel)), rfl⟩
theorem q1361 : Cond.fieldLink RX12 90 "WarmExtentsModel" "token" "I" ∈ wAll := List.mem_filter.mpr ⟨tq5 (List.mem_of_getElem? (i := 234) (by decide +kernel)), rfl⟩
theorem q1362 : Cond.fieldLink RX12 87 "WarmExtentsModel" "number" "I" ∈ wAll := List.mem_filter.mpr ⟨tq5 (List.mem_of_getElem? (i := 235) (by decide +kernel)), rfl⟩
theorem q1363 : Cond.fieldLink RX12 107 "WarmExtentsModel" "text0" "I" ∈ wAll := List.mem_filter.mpr ⟨tq5 (List.mem_of_getElem? (i := 236) (by decide +kernel)), rfl⟩
theorem q1364 : Cond.fieldLink RX12 129 "WarmExtentsModel" "stated" "I" ∈ wAll := List.mem_filter.mpr ⟨tq5 (List.mem_of_getElem? (i := 237) (by decide +kernel)), rfl⟩
theorem q1365 : Cond.fieldLink RX12 29 "WarmExtentsModel" "ofLoop" "[Z" ∈ wAll := List.mem_filter.mpr ⟨tq5 (List.mem_of_getElem? (i := 238) (by decide +kernel)), rfl⟩
theorem q1366 : Cond.fieldLink RX12 119 "WarmExtentsModel" "depth" "I" ∈ wAll := List.mem_filter.mpr ⟨tq5 (List.mem_of_getElem? (i := 239) (by decide +kernel)), rfl⟩
theorem q1367 : Cond.fieldLink RX12 122 "WarmExtentsModel" "loops" "I" ∈ wAll := List.mem_filter.mpr ⟨tq6 (List.mem_of_getElem? (i := 0) (by decide +kernel)), rfl⟩
theorem q1368 : Cond.fieldLink RX12 33 "WarmExtentsModel" "fresh" "[I" ∈ wAll := List.mem_filter.mpr ⟨tq6 (List.mem_of_getElem? (i := 1) (by decide +kernel)), rfl⟩
theorem q1369 : Cond.fieldLink RX12 276 "WarmExtentsModel" "going" "I" ∈ wAll := List.mem_filter.mpr ⟨tq6 (List.mem_of_getElem? (i := 2) (by decide +kernel)), rfl⟩
theorem q1370 : Cond.fieldLink RX12 291 "WarmExtentsModel" "acts" "I" ∈ wAll := List.mem_filter.mpr ⟨tq6 (List.mem_of_getElem? (i := 3) (by decide +kernel)), rfl⟩
theorem q1371 : Cond.fieldLink RX12 36 "WarmExtentsModel" "begins" "[I" ∈ wAll := List.mem_filter.mpr ⟨tq6 (List.mem_of_getElem? (i := 4) (by decide +kernel)), rfl⟩
theorem q1372 : Cond.fieldLink RX12 39 "WarmExtentsModel" "times" "[I" ∈ wAll := List.mem_filter.mpr ⟨tq6 (List.mem_of_getElem? (i := 5) (by decide +kernel)), rfl⟩
theorem q1373 : Cond.fieldLink RX12 42 "WarmExtentsModel" "rounds" "[I" ∈ wAll := List.mem_filter.mpr ⟨tq6 (List.mem_of_getElem? (i := 6) (by decide +kernel)), rfl⟩
theorem q1374 : Cond.fieldLink RX12 45 "WarmExtentsModel" "aside" "[I" ∈ wAll := List.mem_filter.mpr ⟨tq6 (List.mem_of_getElem? (i := 7) (by decide +kernel)), rfl⟩
theorem q1375 : Cond.fieldLink RX12 345 "WarmExtentsModel" "bestIn" "I" ∈ wAll := List.mem_filter.mpr ⟨tq6 (List.mem_of_getElem? (i := 8) (by decide +kernel)), rfl⟩
theorem q1376 : Cond.fieldLink RX12 348 "WarmExtentsModel" "bestOut" "I" ∈ wAll := List.mem_filter.mpr ⟨tq6 (List.mem_of_getElem? (i := 9) (by decide +kernel)), rfl⟩
theorem q1377 : Cond.fieldLink RX12 351 "WarmExtentsModel" "worthIn" "I" ∈ wAll := List.mem_filter.mpr ⟨tq6 (List.mem_of_getElem? (i := 10) (by decide +kernel)), rfl⟩
theorem q1378 : Cond.fieldLink RX12 354 "WarmExtentsModel" "worthOut" "I" ∈ wAll := List.mem_filter.mpr ⟨tq6 (List.mem_of_getElem? (i := 11) (by decide +kernel)), rfl⟩
theorem q1434 : Cond.methodLink RL 17 yX12_feed ∈ wAll := List.mem_filter.mpr ⟨tq6 (List.mem_of_getElem? (i := 67) (by decide +kernel)), rfl⟩
theorem q1435 : Cond.instanceMethod yX12_feed ∈ wAll := List.mem_filter.mpr ⟨tq6 (List.mem_of_getElem? (i := 68) (by decide +kernel)), rfl⟩
theorem q1436 : Cond.selects RX12 yX12_feed yX12_feed ∈ wAll := List.mem_filter.mpr ⟨tq6 (List.mem_of_getElem? (i := 69) (by decide +kernel)), rfl⟩
theorem q1437 : Cond.code yX12_feed cX12_feed 6 (some .int) ∈ wAll := List.mem_filter.mpr ⟨tq6 (List.mem_of_getElem? (i := 70) (by decide +kernel)), rfl⟩
theorem q1438 : Cond.methodLink RX12 70 yX12_four ∈ wAll := List.mem_filter.mpr ⟨tq6 (List.mem_of_getElem? (i := 71) (by decide +kernel)), rfl⟩
theorem q1440 : Cond.instanceMethod yX12_four ∈ wAll := List.mem_filter.mpr ⟨tq6 (List.mem_of_getElem? (i := 73) (by decide +kernel)), rfl⟩
theorem q1441 : Cond.code yX12_four cX12_four 3 none ∈ wAll := List.mem_filter.mpr ⟨tq6 (List.mem_of_getElem? (i := 74) (by decide +kernel)), rfl⟩
theorem q1442 : Cond.methodLink RL 22 yX12_end ∈ wAll := List.mem_filter.mpr ⟨tq6 (List.mem_of_getElem? (i := 75) (by decide +kernel)), rfl⟩
theorem q1443 : Cond.instanceMethod yX12_end ∈ wAll := List.mem_filter.mpr ⟨tq6 (List.mem_of_getElem? (i := 76) (by decide +kernel)), rfl⟩
theorem q1444 : Cond.selects RX12 yX12_end yX12_end ∈ wAll := List.mem_filter.mpr ⟨tq6 (List.mem_of_getElem? (i := 77) (by decide +kernel)), rfl⟩
theorem q1445 : Cond.code yX12_end cX12_end 2 (some .int) ∈ wAll := List.mem_filter.mpr ⟨tq6 (List.mem_of_getElem? (i := 78) (by decide +kernel)), rfl⟩
theorem q1446 : Cond.methodLink RX12 52 yX12_isIn ∈ wAll := List.mem_filter.mpr ⟨tq6 (List.mem_of_getElem? (i := 79) (by decide +kernel)), rfl⟩
theorem q1447 : Cond.static yX12_isIn ∈ wAll := List.mem_filter.mpr ⟨tq6 (List.mem_of_getElem? (i := 80) (by decide +kernel)), rfl⟩
theorem q1448 : Cond.code yX12_isIn cX12_isIn 3 (some .boolean) ∈ wAll := List.mem_filter.mpr ⟨tq6 (List.mem_of_getElem? (i := 81) (by decide +kernel)), rfl⟩
theorem q1449 : Cond.methodLink RL 27 yX12_text ∈ wAll := List.mem_filter.mpr ⟨tq6 (List.mem_of_getElem? (i := 82) (by decide +kernel)), rfl⟩
theorem q1450 : Cond.instanceMethod yX12_text ∈ wAll := List.mem_filter.mpr ⟨tq6 (List.mem_of_getElem? (i := 83) (by decide +kernel)), rfl⟩
theorem q1451 : Cond.selects RX12 yX12_text yX12_text ∈ wAll := List.mem_filter.mpr ⟨tq6 (List.mem_of_getElem? (i := 84) (by decide +kernel)), rfl⟩
theorem q1452 : Cond.code yX12_text cX12_text 1 (some .int) ∈ wAll := List.mem_filter.mpr ⟨tq6 (List.mem_of_getElem? (i := 85) (by decide +kernel)), rfl⟩
theorem q1453 : Cond.methodLink RX12 148 yX12_readText ∈ wAll := List.mem_filter.mpr ⟨tq6 (List.mem_of_getElem? (i := 86) (by decide +kernel)), rfl⟩
theorem q1455 : Cond.instanceMethod yX12_readText ∈ wAll := List.mem_filter.mpr ⟨tq6 (List.mem_of_getElem? (i := 88) (by decide +kernel)), rfl⟩
theorem q1456 : Cond.code yX12_readText cX12_readText 2 (some .int) ∈ wAll := List.mem_filter.mpr ⟨tq6 (List.mem_of_getElem? (i := 89) (by decide +kernel)), rfl⟩
theorem q1457 : Cond.methodLink RX12 110 yX12_nextToken ∈ wAll := List.mem_filter.mpr ⟨tq6 (List.mem_of_getElem? (i := 90) (by decide +kernel)), rfl⟩
theorem q1459 : Cond.instanceMethod yX12_nextToken ∈ wAll := List.mem_filter.mpr ⟨tq6 (List.mem_of_getElem? (i := 92) (by decide +kernel)), rfl⟩
theorem q1460 : Cond.code yX12_nextToken cX12_nextToken 3 none ∈ wAll := List.mem_filter.mpr ⟨tq6 (List.mem_of_getElem? (i := 93) (by decide +kernel)), rfl⟩
theorem q1461 : Cond.methodLink RX12 74 yX12_byteAt ∈ wAll := List.mem_filter.mpr ⟨tq6 (List.mem_of_getElem? (i := 94) (by decide +kernel)), rfl⟩
theorem q1463 : Cond.instanceMethod yX12_byteAt ∈ wAll := List.mem_filter.mpr ⟨tq6 (List.mem_of_getElem? (i := 96) (by decide +kernel)), rfl⟩
theorem q1464 : Cond.code yX12_byteAt cX12_byteAt 2 (some .int) ∈ wAll := List.mem_filter.mpr ⟨tq6 (List.mem_of_getElem? (i := 97) (by decide +kernel)), rfl⟩
theorem q1465 : Cond.methodLink RX12 93 yX12_isFigure ∈ wAll := List.mem_filter.mpr ⟨tq6 (List.mem_of_getElem? (i := 98) (by decide +kernel)), rfl⟩
theorem q1466 : Cond.static yX12_isFigure ∈ wAll := List.mem_filter.mpr ⟨tq6 (List.mem_of_getElem? (i := 99) (by decide +kernel)), rfl⟩
theorem q1467 : Cond.code yX12_isFigure cX12_isFigure 1 (some .boolean) ∈ wAll := List.mem_filter.mpr ⟨tq6 (List.mem_of_getElem? (i := 100) (by decide +kernel)), rfl⟩
theorem q1468 : Cond.constant RX12 96 (99999) ∈ wAll := List.mem_filter.mpr ⟨tq6 (List.mem_of_getElem? (i := 101) (by decide +kernel)), rfl⟩
theorem q1469 : Cond.methodLink RX12 97 yX12_isLetterByte ∈ wAll := List.mem_filter.mpr ⟨tq6 (List.mem_of_getElem? (i := 102) (by decide +kernel)), rfl⟩
theorem q1470 : Cond.static yX12_isLetterByte ∈ wAll := List.mem_filter.mpr ⟨tq6 (List.mem_of_getElem? (i := 103) (by decide +kernel)), rfl⟩
theorem q1471 : Cond.code yX12_isLetterByte cX12_isLetterByte 1 (some .boolean) ∈ wAll := List.mem_filter.mpr ⟨tq6 (List.mem_of_getElem? (i := 104) (by decide +kernel)), rfl⟩
theorem q1472 : Cond.methodLink RX12 100 yX12_wordOf ∈ wAll := List.mem_filter.mpr ⟨tq6 (List.mem_of_getElem? (i := 105) (by decide +kernel)), rfl⟩
theorem q1474 : Cond.instanceMethod yX12_wordOf ∈ wAll := List.mem_filter.mpr ⟨tq6 (List.mem_of_getElem? (i := 107) (by decide +kernel)), rfl⟩
theorem q1475 : Cond.code yX12_wordOf cX12_wordOf 3 (some .int) ∈ wAll := List.mem_filter.mpr ⟨tq6 (List.mem_of_getElem? (i := 108) (by decide +kernel)), rfl⟩
theorem q1476 : Cond.methodLink RX12 77 yX12_isWord ∈ wAll := List.mem_filter.mpr ⟨tq6 (List.mem_of_getElem? (i := 109) (by decide +kernel)), rfl⟩
theorem q1478 : Cond.instanceMethod yX12_isWord ∈ wAll := List.mem_filter.mpr ⟨tq6 (List.mem_of_getElem? (i := 111) (by decide +kernel)), rfl⟩
theorem q1479 : Cond.code yX12_isWord cX12_isWord 9 (some .boolean) ∈ wAll := List.mem_filter.mpr ⟨tq6 (List.mem_of_getElem? (i := 112) (by decide +kernel)), rfl⟩
theorem q1480 : Cond.methodLink RX12 104 yX12_isSign ∈ wAll := List.mem_filter.mpr ⟨tq6 (List.mem_of_getElem? (i := 113) (by decide +kernel)), rfl⟩
theorem q1481 : Cond.static yX12_isSign ∈ wAll := List.mem_filter.mpr ⟨tq6 (List.mem_of_getElem? (i := 114) (by decide +kernel)), rfl⟩
theorem q1482 : Cond.code yX12_isSign cX12_isSign 1 (some .boolean) ∈ wAll := List.mem_filter.mpr ⟨tq6 (List.mem_of_getElem? (i := 115) (by decide +kernel)), rfl⟩
theorem q1483 : Cond.methodLink RX12 142 yX12_closed ∈ wAll := List.mem_filter.mpr ⟨tq6 (List.mem_of_getElem? (i := 116) (by decide +kernel)), rfl⟩
theorem q1485 : Cond.instanceMethod yX12_closed ∈ wAll := List.mem_filter.mpr ⟨tq6 (List.mem_of_getElem? (i := 118) (by decide +kernel)), rfl⟩
theorem q1486 : Cond.code yX12_closed cX12_closed 1 none ∈ wAll := List.mem_filter.mpr ⟨tq6 (List.mem_of_getElem? (i := 119) (by decide +kernel)), rfl⟩
theorem q1487 : Cond.methodLink RX12 145 yX12_statement ∈ wAll := List.mem_filter.mpr ⟨tq6 (List.mem_of_getElem? (i := 120) (by decide +kernel)), rfl⟩
theorem q1489 : Cond.instanceMethod yX12_statement ∈ wAll := List.mem_filter.mpr ⟨tq6 (List.mem_of_getElem? (i := 122) (by decide +kernel)), rfl⟩
theorem q1490 : Cond.code yX12_statement cX12_statement 2 (some .int) ∈ wAll := List.mem_filter.mpr ⟨tq6 (List.mem_of_getElem? (i := 123) (by decide +kernel)), rfl⟩
theorem q1491 : Cond.methodLink RX12 132 yX12_sums ∈ wAll := List.mem_filter.mpr ⟨tq6 (List.mem_of_getElem? (i := 124) (by decide +kernel)), rfl⟩
theorem q1493 : Cond.instanceMethod yX12_sums ∈ wAll := List.mem_filter.mpr ⟨tq6 (List.mem_of_getElem? (i := 126) (by decide +kernel)), rfl⟩
theorem q1494 : Cond.code yX12_sums cX12_sums 5 (some .int) ∈ wAll := List.mem_filter.mpr ⟨tq6 (List.mem_of_getElem? (i := 127) (by decide +kernel)), rfl⟩
theorem q1495 : Cond.methodLink RX12 116 yX12_summed ∈ wAll := List.mem_filter.mpr ⟨tq6 (List.mem_of_getElem? (i := 128) (by decide +kernel)), rfl⟩
theorem q1497 : Cond.instanceMethod yX12_summed ∈ wAll := List.mem_filter.mpr ⟨tq6 (List.mem_of_getElem? (i := 130) (by decide +kernel)), rfl⟩
theorem q1498 : Cond.code yX12_summed cX12_summed 3 (some .int) ∈ wAll := List.mem_filter.mpr ⟨tq6 (List.mem_of_getElem? (i := 131) (by decide +kernel)), rfl⟩
theorem q1499 : Cond.methodLink RX12 113 yX12_one ∈ wAll := List.mem_filter.mpr ⟨tq6 (List.mem_of_getElem? (i := 132) (by decide +kernel)), rfl⟩
theorem q1501 : Cond.instanceMethod yX12_one ∈ wAll := List.mem_filter.mpr ⟨tq6 (List.mem_of_getElem? (i := 134) (by decide +kernel)), rfl⟩
theorem q1502 : Cond.code yX12_one cX12_one 2 (some .int) ∈ wAll := List.mem_filter.mpr ⟨tq6 (List.mem_of_getElem? (i := 135) (by decide +kernel)), rfl⟩
theorem q1503 : Cond.methodLink RX12 135 yX12_loopHead ∈ wAll := List.mem_filter.mpr ⟨tq6 (List.mem_of_getElem? (i := 136) (by decide +kernel)), rfl⟩
theorem q1505 : Cond.instanceMethod yX12_loopHead ∈ wAll := List.mem_filter.mpr ⟨tq6 (List.mem_of_getElem? (i := 138) (by decide +kernel)), rfl⟩
theorem q1506 : Cond.code yX12_loopHead cX12_loopHead 1 (some .int) ∈ wAll := List.mem_filter.mpr ⟨tq6 (List.mem_of_getElem? (i := 139) (by decide +kernel)), rfl⟩
theorem q1507 : Cond.methodLink RX12 125 yX12_opened ∈ wAll := List.mem_filter.mpr ⟨tq6 (List.mem_of_getElem? (i := 140) (by decide +kernel)), rfl⟩
theorem q1509 : Cond.instanceMethod yX12_opened ∈ wAll := List.mem_filter.mpr ⟨tq6 (List.mem_of_getElem? (i := 142) (by decide +kernel)), rfl⟩
theorem q1510 : Cond.code yX12_opened cX12_opened 2 (some .int) ∈ wAll := List.mem_filter.mpr ⟨tq6 (List.mem_of_getElem? (i := 143) (by decide +kernel)), rfl⟩
theorem q1511 : Cond.methodLink RX12 139 yX12_choiceHead ∈ wAll := List.mem_filter.mpr ⟨tq6 (List.mem_of_getElem? (i := 144) (by decide +kernel)), rfl⟩
theorem q1513 : Cond.instanceMethod yX12_choiceHead ∈ wAll := List.mem_filter.mpr ⟨tq6 (List.mem_of_getElem? (i := 146) (by decide +kernel)), rfl⟩
theorem q1514 : Cond.code yX12_choiceHead cX12_choiceHead 2 (some .int) ∈ wAll := List.mem_filter.mpr ⟨tq6 (List.mem_of_getElem? (i := 147) (by decide +kernel)), rfl⟩
theorem q1515 : Cond.methodLink RL 31 yX12_fault ∈ wAll := List.mem_filter.mpr ⟨tq6 (List.mem_of_getElem? (i := 148) (by decide +kernel)), rfl⟩
theorem q1516 : Cond.instanceMethod yX12_fault ∈ wAll := List.mem_filter.mpr ⟨tq6 (List.mem_of_getElem? (i := 149) (by decide +kernel)), rfl⟩
theorem q1517 : Cond.selects RX12 yX12_fault yX12_fault ∈ wAll := List.mem_filter.mpr ⟨tq6 (List.mem_of_getElem? (i := 150) (by decide +kernel)), rfl⟩
theorem q1518 : Cond.code yX12_fault cX12_fault 2 (some .int) ∈ wAll := List.mem_filter.mpr ⟨tq6 (List.mem_of_getElem? (i := 151) (by decide +kernel)), rfl⟩
theorem q1519 : Cond.methodLink RL 82 yX12_undo ∈ wAll := List.mem_filter.mpr ⟨tq6 (List.mem_of_getElem? (i := 152) (by decide +kernel)), rfl⟩
theorem q1520 : Cond.instanceMethod yX12_undo ∈ wAll := List.mem_filter.mpr ⟨tq6 (List.mem_of_getElem? (i := 153) (by decide +kernel)), rfl⟩
theorem q1521 : Cond.selects RX12 yX12_undo yX12_undo ∈ wAll := List.mem_filter.mpr ⟨tq6 (List.mem_of_getElem? (i := 154) (by decide +kernel)), rfl⟩
theorem q1522 : Cond.code yX12_undo cX12_undo 3 (some .int) ∈ wAll := List.mem_filter.mpr ⟨tq6 (List.mem_of_getElem? (i := 155) (by decide +kernel)), rfl⟩
theorem q1523 : Cond.methodLink RX12 323 yX12_stepAt ∈ wAll := List.mem_filter.mpr ⟨tq6 (List.mem_of_getElem? (i := 156) (by decide +kernel)), rfl⟩
theorem q1524 : Cond.static yX12_stepAt ∈ wAll := List.mem_filter.mpr ⟨tq6 (List.mem_of_getElem? (i := 157) (by decide +kernel)), rfl⟩
theorem q1525 : Cond.code yX12_stepAt cX12_stepAt 2 (some .int) ∈ wAll := List.mem_filter.mpr ⟨tq6 (List.mem_of_getElem? (i := 158) (by decide +kernel)), rfl⟩
theorem q1526 : Cond.methodLink RL 36 yX12_read ∈ wAll := List.mem_filter.mpr ⟨tq6 (List.mem_of_getElem? (i := 159) (by decide +kernel)), rfl⟩
theorem q1527 : Cond.instanceMethod yX12_read ∈ wAll := List.mem_filter.mpr ⟨tq6 (List.mem_of_getElem? (i := 160) (by decide +kernel)), rfl⟩
theorem q1528 : Cond.selects RX12 yX12_read yX12_read ∈ wAll := List.mem_filter.mpr ⟨tq6 (List.mem_of_getElem? (i := 161) (by decide +kernel)), rfl⟩
theorem q1529 : Cond.code yX12_read cX12_read 3 (some .int) ∈ wAll := List.mem_filter.mpr ⟨tq6 (List.mem_of_getElem? (i := 162) (by decide +kernel)), rfl⟩
theorem q1530 : Cond.methodLink RX12 326 yX12_isBlock ∈ wAll := List.mem_filter.mpr ⟨tq6 (List.mem_of_getElem? (i := 163) (by decide +kernel)), rfl⟩
theorem q1531 : Cond.static yX12_isBlock ∈ wAll := List.mem_filter.mpr ⟨tq6 (List.mem_of_getElem? (i := 164) (by decide +kernel)), rfl⟩
theorem q1532 : Cond.code yX12_isBlock cX12_isBlock 2 (some .boolean) ∈ wAll := List.mem_filter.mpr ⟨tq6 (List.mem_of_getElem? (i := 165) (by decide +kernel)), rfl⟩
theorem q1533 : Cond.methodLink RX12 56 yX12_isExtent ∈ wAll := List.mem_filter.mpr ⟨tq6 (List.mem_of_getElem? (i := 166) (by decide +kernel)), rfl⟩
theorem q1534 : Cond.static yX12_isExtent ∈ wAll := List.mem_filter.mpr ⟨tq6 (List.mem_of_getElem? (i := 167) (by decide +kernel)), rfl⟩
theorem q1535 : Cond.code yX12_isExtent cX12_isExtent 1 (some .boolean) ∈ wAll := List.mem_filter.mpr ⟨tq6 (List.mem_of_getElem? (i := 168) (by decide +kernel)), rfl⟩
theorem q1536 : Cond.methodLink RX12 60 yX12_sizeOf ∈ wAll := List.mem_filter.mpr ⟨tq6 (List.mem_of_getElem? (i := 169) (by decide +kernel)), rfl⟩
theorem q1537 : Cond.static yX12_sizeOf ∈ wAll := List.mem_filter.mpr ⟨tq6 (List.mem_of_getElem? (i := 170) (by decide +kernel)), rfl⟩
theorem q1538 : Cond.code yX12_sizeOf cX12_sizeOf 1 (some .int) ∈ wAll := List.mem_filter.mpr ⟨tq6 (List.mem_of_getElem? (i := 171) (by decide +kernel)), rfl⟩
theorem q1539 : Cond.methodLink RX12 329 yX12_keep ∈ wAll := List.mem_filter.mpr ⟨tq6 (List.mem_of_getElem? (i := 172) (by decide +kernel)), rfl⟩
theorem q1541 : Cond.instanceMethod yX12_keep ∈ wAll := List.mem_filter.mpr ⟨tq6 (List.mem_of_getElem? (i := 174) (by decide +kernel)), rfl⟩
theorem q1542 : Cond.code yX12_keep cX12_keep 3 none ∈ wAll := List.mem_filter.mpr ⟨tq6 (List.mem_of_getElem? (i := 175) (by decide +kernel)), rfl⟩
theorem q1543 : Cond.methodLink RX12 254 yX12_readNow ∈ wAll := List.mem_filter.mpr ⟨tq6 (List.mem_of_getElem? (i := 176) (by decide +kernel)), rfl⟩
theorem q1545 : Cond.instanceMethod yX12_readNow ∈ wAll := List.mem_filter.mpr ⟨tq6 (List.mem_of_getElem? (i := 178) (by decide +kernel)), rfl⟩
theorem q1546 : Cond.code yX12_readNow cX12_readNow 3 (some .int) ∈ wAll := List.mem_filter.mpr ⟨tq6 (List.mem_of_getElem? (i := 179) (by decide +kernel)), rfl⟩
theorem q1547 : Cond.methodLink RX12 163 yX12_access ∈ wAll := List.mem_filter.mpr ⟨tq6 (List.mem_of_getElem? (i := 180) (by decide +kernel)), rfl⟩
theorem q1549 : Cond.instanceMethod yX12_access ∈ wAll := List.mem_filter.mpr ⟨tq6 (List.mem_of_getElem? (i := 182) (by decide +kernel)), rfl⟩
theorem q1550 : Cond.code yX12_access cX12_access 6 none ∈ wAll := List.mem_filter.mpr ⟨tq6 (List.mem_of_getElem? (i := 183) (by decide +kernel)), rfl⟩
theorem q1551 : Cond.methodLink RX12 157 yX12_isFast ∈ wAll := List.mem_filter.mpr ⟨tq6 (List.mem_of_getElem? (i := 184) (by decide +kernel)), rfl⟩
theorem q1553 : Cond.instanceMethod yX12_isFast ∈ wAll := List.mem_filter.mpr ⟨tq6 (List.mem_of_getElem? (i := 186) (by decide +kernel)), rfl⟩
theorem q1554 : Cond.code yX12_isFast cX12_isFast 2 (some .boolean) ∈ wAll := List.mem_filter.mpr ⟨tq6 (List.mem_of_getElem? (i := 187) (by decide +kernel)), rfl⟩
theorem q1555 : Cond.methodLink RX12 64 yX12_firstOf ∈ wAll := List.mem_filter.mpr ⟨tq6 (List.mem_of_getElem? (i := 188) (by decide +kernel)), rfl⟩
theorem q1556 : Cond.static yX12_firstOf ∈ wAll := List.mem_filter.mpr ⟨tq6 (List.mem_of_getElem? (i := 189) (by decide +kernel)), rfl⟩
theorem q1557 : Cond.code yX12_firstOf cX12_firstOf 1 (some .int) ∈ wAll := List.mem_filter.mpr ⟨tq6 (List.mem_of_getElem? (i := 190) (by decide +kernel)), rfl⟩
theorem q1558 : Cond.methodLink RX12 160 yX12_headed ∈ wAll := List.mem_filter.mpr ⟨tq6 (List.mem_of_getElem? (i := 191) (by decide +kernel)), rfl⟩
theorem q1560 : Cond.instanceMethod yX12_headed ∈ wAll := List.mem_filter.mpr ⟨tq6 (List.mem_of_getElem? (i := 193) (by decide +kernel)), rfl⟩
theorem q1561 : Cond.code yX12_headed cX12_headed 4 (some .int) ∈ wAll := List.mem_filter.mpr ⟨tq6 (List.mem_of_getElem? (i := 194) (by decide +kernel)), rfl⟩
theorem q1562 : Cond.methodLink RX12 151 yX12_headAt ∈ wAll := List.mem_filter.mpr ⟨tq6 (List.mem_of_getElem? (i := 195) (by decide +kernel)), rfl⟩
theorem q1564 : Cond.instanceMethod yX12_headAt ∈ wAll := List.mem_filter.mpr ⟨tq6 (List.mem_of_getElem? (i := 197) (by decide +kernel)), rfl⟩
theorem q1565 : Cond.code yX12_headAt cX12_headAt 3 (some .int) ∈ wAll := List.mem_filter.mpr ⟨tq6 (List.mem_of_getElem? (i := 198) (by decide +kernel)), rfl⟩
theorem q1566 : Cond.methodLink RX12 154 yX12_outHead ∈ wAll := List.mem_filter.mpr ⟨tq6 (List.mem_of_getElem? (i := 199) (by decide +kernel)), rfl⟩
theorem q1568 : Cond.instanceMethod yX12_outHead ∈ wAll := List.mem_filter.mpr ⟨tq6 (List.mem_of_getElem? (i := 201) (by decide +kernel)), rfl⟩
theorem q1569 : Cond.code yX12_outHead cX12_outHead 3 none ∈ wAll := List.mem_filter.mpr ⟨tq6 (List.mem_of_getElem? (i := 202) (by decide +kernel)), rfl⟩
theorem q1570 : Cond.methodLink RX12 167 yX12_slotOf ∈ wAll := List.mem_filter.mpr ⟨tq6 (List.mem_of_getElem? (i := 203) (by decide +kernel)), rfl⟩
theorem q1572 : Cond.instanceMethod yX12_slotOf ∈ wAll := List.mem_filter.mpr ⟨tq6 (List.mem_of_getElem? (i := 205) (by decide +kernel)), rfl⟩
theorem q1573 : Cond.code yX12_slotOf cX12_slotOf 3 (some .int) ∈ wAll := List.mem_filter.mpr ⟨tq6 (List.mem_of_getElem? (i := 206) (by decide +kernel)), rfl⟩
theorem q1574 : Cond.methodLink RL 41 yX12_write ∈ wAll := List.mem_filter.mpr ⟨tq6 (List.mem_of_getElem? (i := 207) (by decide +kernel)), rfl⟩
theorem q1575 : Cond.instanceMethod yX12_write ∈ wAll := List.mem_filter.mpr ⟨tq6 (List.mem_of_getElem? (i := 208) (by decide +kernel)), rfl⟩
theorem q1576 : Cond.selects RX12 yX12_write yX12_write ∈ wAll := List.mem_filter.mpr ⟨tq6 (List.mem_of_getElem? (i := 209) (by decide +kernel)), rfl⟩
theorem q1577 : Cond.code yX12_write cX12_write 4 (some .int) ∈ wAll := List.mem_filter.mpr ⟨tq6 (List.mem_of_getElem? (i := 210) (by decide +kernel)), rfl⟩
theorem q1578 : Cond.methodLink RX12 266 yX12_writeNow ∈ wAll := List.mem_filter.mpr ⟨tq6 (List.mem_of_getElem? (i := 211) (by decide +kernel)), rfl⟩
theorem q1580 : Cond.instanceMethod yX12_writeNow ∈ wAll := List.mem_filter.mpr ⟨tq6 (List.mem_of_getElem? (i := 213) (by decide +kernel)), rfl⟩
theorem q1581 : Cond.code yX12_writeNow cX12_writeNow 5 (some .int) ∈ wAll := List.mem_filter.mpr ⟨tq6 (List.mem_of_getElem? (i := 214) (by decide +kernel)), rfl⟩
theorem q1582 : Cond.methodLink RX12 170 yX12_moveAt ∈ wAll := List.mem_filter.mpr ⟨tq6 (List.mem_of_getElem? (i := 215) (by decide +kernel)), rfl⟩
theorem q1584 : Cond.instanceMethod yX12_moveAt ∈ wAll := List.mem_filter.mpr ⟨tq6 (List.mem_of_getElem? (i := 217) (by decide +kernel)), rfl⟩
theorem q1585 : Cond.code yX12_moveAt cX12_moveAt 3 (some .int) ∈ wAll := List.mem_filter.mpr ⟨tq6 (List.mem_of_getElem? (i := 218) (by decide +kernel)), rfl⟩
theorem q1586 : Cond.methodLink RL 45 yX12_scan ∈ wAll := List.mem_filter.mpr ⟨tq6 (List.mem_of_getElem? (i := 219) (by decide +kernel)), rfl⟩
theorem q1587 : Cond.instanceMethod yX12_scan ∈ wAll := List.mem_filter.mpr ⟨tq6 (List.mem_of_getElem? (i := 220) (by decide +kernel)), rfl⟩
theorem q1588 : Cond.selects RX12 yX12_scan yX12_scan ∈ wAll := List.mem_filter.mpr ⟨tq6 (List.mem_of_getElem? (i := 221) (by decide +kernel)), rfl⟩
theorem q1589 : Cond.code yX12_scan cX12_scan 3 (some .int) ∈ wAll := List.mem_filter.mpr ⟨tq6 (List.mem_of_getElem? (i := 222) (by decide +kernel)), rfl⟩
theorem q1590 : Cond.methodLink RX12 270 yX12_scanNow ∈ wAll := List.mem_filter.mpr ⟨tq6 (List.mem_of_getElem? (i := 223) (by decide +kernel)), rfl⟩
theorem q1592 : Cond.instanceMethod yX12_scanNow ∈ wAll := List.mem_filter.mpr ⟨tq6 (List.mem_of_getElem? (i := 225) (by decide +kernel)), rfl⟩
theorem q1593 : Cond.code yX12_scanNow cX12_scanNow 6 (some .int) ∈ wAll := List.mem_filter.mpr ⟨tq6 (List.mem_of_getElem? (i := 226) (by decide +kernel)), rfl⟩
theorem q1594 : Cond.methodLink RL 50 yX12_pin ∈ wAll := List.mem_filter.mpr ⟨tq6 (List.mem_of_getElem? (i := 227) (by decide +kernel)), rfl⟩
theorem q1595 : Cond.instanceMethod yX12_pin ∈ wAll := List.mem_filter.mpr ⟨tq6 (List.mem_of_getElem? (i := 228) (by decide +kernel)), rfl⟩
theorem q1596 : Cond.selects RX12 yX12_pin yX12_pin ∈ wAll := List.mem_filter.mpr ⟨tq6 (List.mem_of_getElem? (i := 229) (by decide +kernel)), rfl⟩
theorem q1597 : Cond.code yX12_pin cX12_pin 3 (some .boolean) ∈ wAll := List.mem_filter.mpr ⟨tq6 (List.mem_of_getElem? (i := 230) (by decide +kernel)), rfl⟩
theorem q1598 : Cond.methodLink RX12 185 yX12_writeDown ∈ wAll := List.mem_filter.mpr ⟨tq6 (List.mem_of_getElem? (i := 231) (by decide +kernel)), rfl⟩
theorem q1600 : Cond.instanceMethod yX12_writeDown ∈ wAll := List.mem_filter.mpr ⟨tq6 (List.mem_of_getElem? (i := 233) (by decide +kernel)), rfl⟩
theorem q1601 : Cond.code yX12_writeDown cX12_writeDown 5 none ∈ wAll := List.mem_filter.mpr ⟨tq6 (List.mem_of_getElem? (i := 234) (by decide +kernel)), rfl⟩
theorem q1602 : Cond.methodLink RL 54 yX12_tell ∈ wAll := List.mem_filter.mpr ⟨tq6 (List.mem_of_getElem? (i := 235) (by decide +kernel)), rfl⟩
theorem q1603 : Cond.instanceMethod yX12_tell ∈ wAll := List.mem_filter.mpr ⟨tq6 (List.mem_of_getElem? (i := 236) (by decide +kernel)), rfl⟩
theorem q1604 : Cond.selects RX12 yX12_tell yX12_tell ∈ wAll := List.mem_filter.mpr ⟨tq6 (List.mem_of_getElem? (i := 237) (by decide +kernel)), rfl⟩
theorem q1605 : Cond.code yX12_tell cX12_tell 3 (some .boolean) ∈ wAll := List.mem_filter.mpr ⟨tq6 (List.mem_of_getElem? (i := 238) (by decide +kernel)), rfl⟩
theorem q1606 : Cond.methodLink RL 58 yX12_ask ∈ wAll := List.mem_filter.mpr ⟨tq6 (List.mem_of_getElem? (i := 239) (by decide +kernel)), rfl⟩
theorem q1607 : Cond.instanceMethod yX12_ask ∈ wAll := List.mem_filter.mpr ⟨tq7 (List.mem_of_getElem? (i := 0) (by decide +kernel)), rfl⟩
theorem q1608 : Cond.selects RX12 yX12_ask yX12_ask ∈ wAll := List.mem_filter.mpr ⟨tq7 (List.mem_of_getElem? (i := 1) (by decide +kernel)), rfl⟩
theorem q1609 : Cond.code yX12_ask cX12_ask 2 (some .int) ∈ wAll := List.mem_filter.mpr ⟨tq7 (List.mem_of_getElem? (i := 2) (by decide +kernel)), rfl⟩
theorem q1610 : Cond.methodLink RX12 242 yX12_addMove ∈ wAll := List.mem_filter.mpr ⟨tq7 (List.mem_of_getElem? (i := 3) (by decide +kernel)), rfl⟩
theorem q1612 : Cond.instanceMethod yX12_addMove ∈ wAll := List.mem_filter.mpr ⟨tq7 (List.mem_of_getElem? (i := 5) (by decide +kernel)), rfl⟩
theorem q1613 : Cond.code yX12_addMove cX12_addMove 3 none ∈ wAll := List.mem_filter.mpr ⟨tq7 (List.mem_of_getElem? (i := 6) (by decide +kernel)), rfl⟩
theorem q1614 : Cond.methodLink RL 62 yX12_drop ∈ wAll := List.mem_filter.mpr ⟨tq7 (List.mem_of_getElem? (i := 7) (by decide +kernel)), rfl⟩
theorem q1615 : Cond.instanceMethod yX12_drop ∈ wAll := List.mem_filter.mpr ⟨tq7 (List.mem_of_getElem? (i := 8) (by decide +kernel)), rfl⟩
theorem q1616 : Cond.selects RX12 yX12_drop yX12_drop ∈ wAll := List.mem_filter.mpr ⟨tq7 (List.mem_of_getElem? (i := 9) (by decide +kernel)), rfl⟩
theorem q1617 : Cond.code yX12_drop cX12_drop 2 (some .int) ∈ wAll := List.mem_filter.mpr ⟨tq7 (List.mem_of_getElem? (i := 10) (by decide +kernel)), rfl⟩
theorem q1618 : Cond.methodLink RX12 233 yX12_dropMove ∈ wAll := List.mem_filter.mpr ⟨tq7 (List.mem_of_getElem? (i := 11) (by decide +kernel)), rfl⟩
theorem q1620 : Cond.instanceMethod yX12_dropMove ∈ wAll := List.mem_filter.mpr ⟨tq7 (List.mem_of_getElem? (i := 13) (by decide +kernel)), rfl⟩
theorem q1621 : Cond.code yX12_dropMove cX12_dropMove 4 none ∈ wAll := List.mem_filter.mpr ⟨tq7 (List.mem_of_getElem? (i := 14) (by decide +kernel)), rfl⟩
theorem q1622 : Cond.methodLink RX12 176 yX12_ofMove ∈ wAll := List.mem_filter.mpr ⟨tq7 (List.mem_of_getElem? (i := 15) (by decide +kernel)), rfl⟩
theorem q1624 : Cond.instanceMethod yX12_ofMove ∈ wAll := List.mem_filter.mpr ⟨tq7 (List.mem_of_getElem? (i := 17) (by decide +kernel)), rfl⟩
theorem q1625 : Cond.code yX12_ofMove cX12_ofMove 3 (some .int) ∈ wAll := List.mem_filter.mpr ⟨tq7 (List.mem_of_getElem? (i := 18) (by decide +kernel)), rfl⟩
theorem q1626 : Cond.methodLink RX12 179 yX12_freeSlots ∈ wAll := List.mem_filter.mpr ⟨tq7 (List.mem_of_getElem? (i := 19) (by decide +kernel)), rfl⟩
theorem q1628 : Cond.instanceMethod yX12_freeSlots ∈ wAll := List.mem_filter.mpr ⟨tq7 (List.mem_of_getElem? (i := 21) (by decide +kernel)), rfl⟩
theorem q1629 : Cond.code yX12_freeSlots cX12_freeSlots 3 none ∈ wAll := List.mem_filter.mpr ⟨tq7 (List.mem_of_getElem? (i := 22) (by decide +kernel)), rfl⟩
theorem q1630 : Cond.methodLink RX12 182 yX12_outMove ∈ wAll := List.mem_filter.mpr ⟨tq7 (List.mem_of_getElem? (i := 23) (by decide +kernel)), rfl⟩
theorem q1632 : Cond.instanceMethod yX12_outMove ∈ wAll := List.mem_filter.mpr ⟨tq7 (List.mem_of_getElem? (i := 25) (by decide +kernel)), rfl⟩
theorem q1633 : Cond.code yX12_outMove cX12_outMove 3 none ∈ wAll := List.mem_filter.mpr ⟨tq7 (List.mem_of_getElem? (i := 26) (by decide +kernel)), rfl⟩
theorem q1634 : Cond.methodLink RL 66 yX12_day ∈ wAll := List.mem_filter.mpr ⟨tq7 (List.mem_of_getElem? (i := 27) (by decide +kernel)), rfl⟩
theorem q1635 : Cond.instanceMethod yX12_day ∈ wAll := List.mem_filter.mpr ⟨tq7 (List.mem_of_getElem? (i := 28) (by decide +kernel)), rfl⟩
theorem q1636 : Cond.selects RX12 yX12_day yX12_day ∈ wAll := List.mem_filter.mpr ⟨tq7 (List.mem_of_getElem? (i := 29) (by decide +kernel)), rfl⟩
theorem q1637 : Cond.code yX12_day cX12_day 2 (some .int) ∈ wAll := List.mem_filter.mpr ⟨tq7 (List.mem_of_getElem? (i := 30) (by decide +kernel)), rfl⟩
theorem q1638 : Cond.methodLink RX12 332 yX12_ticks ∈ wAll := List.mem_filter.mpr ⟨tq7 (List.mem_of_getElem? (i := 31) (by decide +kernel)), rfl⟩
theorem q1640 : Cond.instanceMethod yX12_ticks ∈ wAll := List.mem_filter.mpr ⟨tq7 (List.mem_of_getElem? (i := 33) (by decide +kernel)), rfl⟩
theorem q1641 : Cond.code yX12_ticks cX12_ticks 3 none ∈ wAll := List.mem_filter.mpr ⟨tq7 (List.mem_of_getElem? (i := 34) (by decide +kernel)), rfl⟩
theorem q1642 : Cond.methodLink RX12 257 yX12_tick ∈ wAll := List.mem_filter.mpr ⟨tq7 (List.mem_of_getElem? (i := 35) (by decide +kernel)), rfl⟩
theorem q1644 : Cond.instanceMethod yX12_tick ∈ wAll := List.mem_filter.mpr ⟨tq7 (List.mem_of_getElem? (i := 37) (by decide +kernel)), rfl⟩
theorem q1645 : Cond.code yX12_tick cX12_tick 1 none ∈ wAll := List.mem_filter.mpr ⟨tq7 (List.mem_of_getElem? (i := 38) (by decide +kernel)), rfl⟩
theorem q1646 : Cond.methodLink RX12 248 yX12_goMoves ∈ wAll := List.mem_filter.mpr ⟨tq7 (List.mem_of_getElem? (i := 39) (by decide +kernel)), rfl⟩
theorem q1648 : Cond.instanceMethod yX12_goMoves ∈ wAll := List.mem_filter.mpr ⟨tq7 (List.mem_of_getElem? (i := 41) (by decide +kernel)), rfl⟩
theorem q1649 : Cond.code yX12_goMoves cX12_goMoves 3 none ∈ wAll := List.mem_filter.mpr ⟨tq7 (List.mem_of_getElem? (i := 42) (by decide +kernel)), rfl⟩
theorem q1650 : Cond.methodLink RX12 202 yX12_isBegun ∈ wAll := List.mem_filter.mpr ⟨tq7 (List.mem_of_getElem? (i := 43) (by decide +kernel)), rfl⟩
theorem q1652 : Cond.instanceMethod yX12_isBegun ∈ wAll := List.mem_filter.mpr ⟨tq7 (List.mem_of_getElem? (i := 45) (by decide +kernel)), rfl⟩
theorem q1653 : Cond.code yX12_isBegun cX12_isBegun 4 (some .boolean) ∈ wAll := List.mem_filter.mpr ⟨tq7 (List.mem_of_getElem? (i := 46) (by decide +kernel)), rfl⟩
theorem q1654 : Cond.methodLink RX12 189 yX12_manyFree ∈ wAll := List.mem_filter.mpr ⟨tq7 (List.mem_of_getElem? (i := 47) (by decide +kernel)), rfl⟩
theorem q1656 : Cond.instanceMethod yX12_manyFree ∈ wAll := List.mem_filter.mpr ⟨tq7 (List.mem_of_getElem? (i := 49) (by decide +kernel)), rfl⟩
theorem q1657 : Cond.code yX12_manyFree cX12_manyFree 3 (some .int) ∈ wAll := List.mem_filter.mpr ⟨tq7 (List.mem_of_getElem? (i := 50) (by decide +kernel)), rfl⟩
theorem q1658 : Cond.methodLink RX12 192 yX12_freeFrom ∈ wAll := List.mem_filter.mpr ⟨tq7 (List.mem_of_getElem? (i := 51) (by decide +kernel)), rfl⟩
theorem q1660 : Cond.instanceMethod yX12_freeFrom ∈ wAll := List.mem_filter.mpr ⟨tq7 (List.mem_of_getElem? (i := 53) (by decide +kernel)), rfl⟩
theorem q1661 : Cond.code yX12_freeFrom cX12_freeFrom 3 (some .int) ∈ wAll := List.mem_filter.mpr ⟨tq7 (List.mem_of_getElem? (i := 54) (by decide +kernel)), rfl⟩
theorem q1662 : Cond.methodLink RX12 173 yX12_holderOf ∈ wAll := List.mem_filter.mpr ⟨tq7 (List.mem_of_getElem? (i := 55) (by decide +kernel)), rfl⟩
theorem q1664 : Cond.instanceMethod yX12_holderOf ∈ wAll := List.mem_filter.mpr ⟨tq7 (List.mem_of_getElem? (i := 57) (by decide +kernel)), rfl⟩
theorem q1665 : Cond.code yX12_holderOf cX12_holderOf 3 (some .int) ∈ wAll := List.mem_filter.mpr ⟨tq7 (List.mem_of_getElem? (i := 58) (by decide +kernel)), rfl⟩
theorem q1666 : Cond.methodLink RX12 195 yX12_toCopy ∈ wAll := List.mem_filter.mpr ⟨tq7 (List.mem_of_getElem? (i := 59) (by decide +kernel)), rfl⟩
theorem q1668 : Cond.instanceMethod yX12_toCopy ∈ wAll := List.mem_filter.mpr ⟨tq7 (List.mem_of_getElem? (i := 61) (by decide +kernel)), rfl⟩
theorem q1669 : Cond.code yX12_toCopy cX12_toCopy 3 (some .int) ∈ wAll := List.mem_filter.mpr ⟨tq7 (List.mem_of_getElem? (i := 62) (by decide +kernel)), rfl⟩
theorem q1670 : Cond.methodLink RX12 205 yX12_copyBlock ∈ wAll := List.mem_filter.mpr ⟨tq7 (List.mem_of_getElem? (i := 63) (by decide +kernel)), rfl⟩
theorem q1672 : Cond.instanceMethod yX12_copyBlock ∈ wAll := List.mem_filter.mpr ⟨tq7 (List.mem_of_getElem? (i := 65) (by decide +kernel)), rfl⟩
theorem q1673 : Cond.code yX12_copyBlock cX12_copyBlock 6 none ∈ wAll := List.mem_filter.mpr ⟨tq7 (List.mem_of_getElem? (i := 66) (by decide +kernel)), rfl⟩
theorem q1674 : Cond.methodLink RX12 198 yX12_has ∈ wAll := List.mem_filter.mpr ⟨tq7 (List.mem_of_getElem? (i := 67) (by decide +kernel)), rfl⟩
theorem q1675 : Cond.static yX12_has ∈ wAll := List.mem_filter.mpr ⟨tq7 (List.mem_of_getElem? (i := 68) (by decide +kernel)), rfl⟩
theorem q1676 : Cond.code yX12_has cX12_has 2 (some .boolean) ∈ wAll := List.mem_filter.mpr ⟨tq7 (List.mem_of_getElem? (i := 69) (by decide +kernel)), rfl⟩
theorem q1677 : Cond.methodLink RX12 208 yX12_switchMove ∈ wAll := List.mem_filter.mpr ⟨tq7 (List.mem_of_getElem? (i := 70) (by decide +kernel)), rfl⟩
theorem q1679 : Cond.instanceMethod yX12_switchMove ∈ wAll := List.mem_filter.mpr ⟨tq7 (List.mem_of_getElem? (i := 72) (by decide +kernel)), rfl⟩
theorem q1680 : Cond.code yX12_switchMove cX12_switchMove 4 none ∈ wAll := List.mem_filter.mpr ⟨tq7 (List.mem_of_getElem? (i := 73) (by decide +kernel)), rfl⟩
theorem q1681 : Cond.methodLink RX12 251 yX12_endEpoch ∈ wAll := List.mem_filter.mpr ⟨tq7 (List.mem_of_getElem? (i := 74) (by decide +kernel)), rfl⟩
theorem q1683 : Cond.instanceMethod yX12_endEpoch ∈ wAll := List.mem_filter.mpr ⟨tq7 (List.mem_of_getElem? (i := 76) (by decide +kernel)), rfl⟩
theorem q1684 : Cond.code yX12_endEpoch cX12_endEpoch 2 none ∈ wAll := List.mem_filter.mpr ⟨tq7 (List.mem_of_getElem? (i := 77) (by decide +kernel)), rfl⟩
theorem q1685 : Cond.methodLink RX12 245 yX12_makePlan ∈ wAll := List.mem_filter.mpr ⟨tq7 (List.mem_of_getElem? (i := 78) (by decide +kernel)), rfl⟩
theorem q1687 : Cond.instanceMethod yX12_makePlan ∈ wAll := List.mem_filter.mpr ⟨tq7 (List.mem_of_getElem? (i := 80) (by decide +kernel)), rfl⟩
theorem q1688 : Cond.code yX12_makePlan cX12_makePlan 5 none ∈ wAll := List.mem_filter.mpr ⟨tq7 (List.mem_of_getElem? (i := 81) (by decide +kernel)), rfl⟩
theorem q1689 : Cond.methodLink RX12 236 yX12_bestSet ∈ wAll := List.mem_filter.mpr ⟨tq7 (List.mem_of_getElem? (i := 82) (by decide +kernel)), rfl⟩
theorem q1691 : Cond.instanceMethod yX12_bestSet ∈ wAll := List.mem_filter.mpr ⟨tq7 (List.mem_of_getElem? (i := 84) (by decide +kernel)), rfl⟩
theorem q1692 : Cond.code yX12_bestSet cX12_bestSet 4 (some .int) ∈ wAll := List.mem_filter.mpr ⟨tq7 (List.mem_of_getElem? (i := 85) (by decide +kernel)), rfl⟩
theorem q1693 : Cond.methodLink RX12 227 yX12_isAllowed ∈ wAll := List.mem_filter.mpr ⟨tq7 (List.mem_of_getElem? (i := 86) (by decide +kernel)), rfl⟩
theorem q1695 : Cond.instanceMethod yX12_isAllowed ∈ wAll := List.mem_filter.mpr ⟨tq7 (List.mem_of_getElem? (i := 88) (by decide +kernel)), rfl⟩
theorem q1696 : Cond.code yX12_isAllowed cX12_isAllowed 7 (some .boolean) ∈ wAll := List.mem_filter.mpr ⟨tq7 (List.mem_of_getElem? (i := 89) (by decide +kernel)), rfl⟩
theorem q1697 : Cond.methodLink RX12 217 yX12_mayBe ∈ wAll := List.mem_filter.mpr ⟨tq7 (List.mem_of_getElem? (i := 90) (by decide +kernel)), rfl⟩
theorem q1699 : Cond.instanceMethod yX12_mayBe ∈ wAll := List.mem_filter.mpr ⟨tq7 (List.mem_of_getElem? (i := 92) (by decide +kernel)), rfl⟩
theorem q1700 : Cond.code yX12_mayBe cX12_mayBe 4 (some .boolean) ∈ wAll := List.mem_filter.mpr ⟨tq7 (List.mem_of_getElem? (i := 93) (by decide +kernel)), rfl⟩
theorem q1701 : Cond.methodLink RX12 211 yX12_begunOf ∈ wAll := List.mem_filter.mpr ⟨tq7 (List.mem_of_getElem? (i := 94) (by decide +kernel)), rfl⟩
theorem q1703 : Cond.instanceMethod yX12_begunOf ∈ wAll := List.mem_filter.mpr ⟨tq7 (List.mem_of_getElem? (i := 96) (by decide +kernel)), rfl⟩
theorem q1704 : Cond.code yX12_begunOf cX12_begunOf 3 (some .int) ∈ wAll := List.mem_filter.mpr ⟨tq7 (List.mem_of_getElem? (i := 97) (by decide +kernel)), rfl⟩
theorem q1705 : Cond.methodLink RX12 214 yX12_bitsOf ∈ wAll := List.mem_filter.mpr ⟨tq7 (List.mem_of_getElem? (i := 98) (by decide +kernel)), rfl⟩
theorem q1706 : Cond.static yX12_bitsOf ∈ wAll := List.mem_filter.mpr ⟨tq7 (List.mem_of_getElem? (i := 99) (by decide +kernel)), rfl⟩
theorem q1707 : Cond.code yX12_bitsOf cX12_bitsOf 3 (some .int) ∈ wAll := List.mem_filter.mpr ⟨tq7 (List.mem_of_getElem? (i := 100) (by decide +kernel)), rfl⟩
theorem q1708 : Cond.methodLink RX12 221 yX12_copiedFor ∈ wAll := List.mem_filter.mpr ⟨tq7 (List.mem_of_getElem? (i := 101) (by decide +kernel)), rfl⟩
theorem q1710 : Cond.instanceMethod yX12_copiedFor ∈ wAll := List.mem_filter.mpr ⟨tq7 (List.mem_of_getElem? (i := 103) (by decide +kernel)), rfl⟩
theorem q1711 : Cond.code yX12_copiedFor cX12_copiedFor 3 (some .int) ∈ wAll := List.mem_filter.mpr ⟨tq7 (List.mem_of_getElem? (i := 104) (by decide +kernel)), rfl⟩
theorem q1712 : Cond.methodLink RX12 230 yX12_worthOf ∈ wAll := List.mem_filter.mpr ⟨tq7 (List.mem_of_getElem? (i := 105) (by decide +kernel)), rfl⟩
theorem q1714 : Cond.instanceMethod yX12_worthOf ∈ wAll := List.mem_filter.mpr ⟨tq7 (List.mem_of_getElem? (i := 107) (by decide +kernel)), rfl⟩
theorem q1715 : Cond.code yX12_worthOf cX12_worthOf 4 (some .int) ∈ wAll := List.mem_filter.mpr ⟨tq7 (List.mem_of_getElem? (i := 108) (by decide +kernel)), rfl⟩
theorem q1716 : Cond.constant RX12 225 (100000) ∈ wAll := List.mem_filter.mpr ⟨tq7 (List.mem_of_getElem? (i := 109) (by decide +kernel)), rfl⟩
theorem q1717 : Cond.constant RX12 226 (-100000) ∈ wAll := List.mem_filter.mpr ⟨tq7 (List.mem_of_getElem? (i := 110) (by decide +kernel)), rfl⟩
theorem q1718 : Cond.methodLink RX12 239 yX12_layNew ∈ wAll := List.mem_filter.mpr ⟨tq7 (List.mem_of_getElem? (i := 111) (by decide +kernel)), rfl⟩
theorem q1720 : Cond.instanceMethod yX12_layNew ∈ wAll := List.mem_filter.mpr ⟨tq7 (List.mem_of_getElem? (i := 113) (by decide +kernel)), rfl⟩
theorem q1721 : Cond.code yX12_layNew cX12_layNew 6 (some .int) ∈ wAll := List.mem_filter.mpr ⟨tq7 (List.mem_of_getElem? (i := 114) (by decide +kernel)), rfl⟩
theorem q1722 : Cond.methodLink RL 70 yX12_crash ∈ wAll := List.mem_filter.mpr ⟨tq7 (List.mem_of_getElem? (i := 115) (by decide +kernel)), rfl⟩
theorem q1723 : Cond.instanceMethod yX12_crash ∈ wAll := List.mem_filter.mpr ⟨tq7 (List.mem_of_getElem? (i := 116) (by decide +kernel)), rfl⟩
theorem q1724 : Cond.selects RX12 yX12_crash yX12_crash ∈ wAll := List.mem_filter.mpr ⟨tq7 (List.mem_of_getElem? (i := 117) (by decide +kernel)), rfl⟩
theorem q1725 : Cond.code yX12_crash cX12_crash 1 (some .int) ∈ wAll := List.mem_filter.mpr ⟨tq7 (List.mem_of_getElem? (i := 118) (by decide +kernel)), rfl⟩
theorem q1726 : Cond.methodLink RX12 273 yX12_crashNow ∈ wAll := List.mem_filter.mpr ⟨tq7 (List.mem_of_getElem? (i := 119) (by decide +kernel)), rfl⟩
theorem q1728 : Cond.instanceMethod yX12_crashNow ∈ wAll := List.mem_filter.mpr ⟨tq7 (List.mem_of_getElem? (i := 121) (by decide +kernel)), rfl⟩
theorem q1729 : Cond.code yX12_crashNow cX12_crashNow 4 (some .int) ∈ wAll := List.mem_filter.mpr ⟨tq7 (List.mem_of_getElem? (i := 122) (by decide +kernel)), rfl⟩
theorem q1730 : Cond.methodLink RL 74 yX12_played ∈ wAll := List.mem_filter.mpr ⟨tq7 (List.mem_of_getElem? (i := 123) (by decide +kernel)), rfl⟩
theorem q1731 : Cond.instanceMethod yX12_played ∈ wAll := List.mem_filter.mpr ⟨tq7 (List.mem_of_getElem? (i := 124) (by decide +kernel)), rfl⟩
theorem q1732 : Cond.selects RX12 yX12_played yX12_played ∈ wAll := List.mem_filter.mpr ⟨tq7 (List.mem_of_getElem? (i := 125) (by decide +kernel)), rfl⟩
theorem q1733 : Cond.code yX12_played cX12_played 2 (some .int) ∈ wAll := List.mem_filter.mpr ⟨tq7 (List.mem_of_getElem? (i := 126) (by decide +kernel)), rfl⟩
theorem q1734 : Cond.methodLink RX12 335 yX12_goText ∈ wAll := List.mem_filter.mpr ⟨tq7 (List.mem_of_getElem? (i := 127) (by decide +kernel)), rfl⟩
theorem q1736 : Cond.instanceMethod yX12_goText ∈ wAll := List.mem_filter.mpr ⟨tq7 (List.mem_of_getElem? (i := 129) (by decide +kernel)), rfl⟩
theorem q1737 : Cond.code yX12_goText cX12_goText 2 (some .int) ∈ wAll := List.mem_filter.mpr ⟨tq7 (List.mem_of_getElem? (i := 130) (by decide +kernel)), rfl⟩
theorem q1738 : Cond.methodLink RX12 279 yX12_tokenAt ∈ wAll := List.mem_filter.mpr ⟨tq7 (List.mem_of_getElem? (i := 131) (by decide +kernel)), rfl⟩
theorem q1740 : Cond.instanceMethod yX12_tokenAt ∈ wAll := List.mem_filter.mpr ⟨tq7 (List.mem_of_getElem? (i := 133) (by decide +kernel)), rfl⟩
theorem q1741 : Cond.code yX12_tokenAt cX12_tokenAt 2 (some .int) ∈ wAll := List.mem_filter.mpr ⟨tq7 (List.mem_of_getElem? (i := 134) (by decide +kernel)), rfl⟩
theorem q1742 : Cond.methodLink RX12 294 yX12_isOver ∈ wAll := List.mem_filter.mpr ⟨tq7 (List.mem_of_getElem? (i := 135) (by decide +kernel)), rfl⟩
theorem q1744 : Cond.instanceMethod yX12_isOver ∈ wAll := List.mem_filter.mpr ⟨tq7 (List.mem_of_getElem? (i := 137) (by decide +kernel)), rfl⟩
theorem q1745 : Cond.code yX12_isOver cX12_isOver 1 (some .boolean) ∈ wAll := List.mem_filter.mpr ⟨tq7 (List.mem_of_getElem? (i := 138) (by decide +kernel)), rfl⟩
theorem q1746 : Cond.methodLink RX12 320 yX12_goStatement ∈ wAll := List.mem_filter.mpr ⟨tq7 (List.mem_of_getElem? (i := 139) (by decide +kernel)), rfl⟩
theorem q1748 : Cond.instanceMethod yX12_goStatement ∈ wAll := List.mem_filter.mpr ⟨tq7 (List.mem_of_getElem? (i := 141) (by decide +kernel)), rfl⟩
theorem q1749 : Cond.code yX12_goStatement cX12_goStatement 3 none ∈ wAll := List.mem_filter.mpr ⟨tq7 (List.mem_of_getElem? (i := 142) (by decide +kernel)), rfl⟩
theorem q1750 : Cond.methodLink RX12 311 yX12_goAround ∈ wAll := List.mem_filter.mpr ⟨tq7 (List.mem_of_getElem? (i := 143) (by decide +kernel)), rfl⟩
theorem q1752 : Cond.instanceMethod yX12_goAround ∈ wAll := List.mem_filter.mpr ⟨tq7 (List.mem_of_getElem? (i := 145) (by decide +kernel)), rfl⟩
theorem q1753 : Cond.code yX12_goAround cX12_goAround 2 none ∈ wAll := List.mem_filter.mpr ⟨tq7 (List.mem_of_getElem? (i := 146) (by decide +kernel)), rfl⟩
theorem q1754 : Cond.methodLink RX12 282 yX12_numberAt ∈ wAll := List.mem_filter.mpr ⟨tq7 (List.mem_of_getElem? (i := 147) (by decide +kernel)), rfl⟩
theorem q1756 : Cond.instanceMethod yX12_numberAt ∈ wAll := List.mem_filter.mpr ⟨tq7 (List.mem_of_getElem? (i := 149) (by decide +kernel)), rfl⟩
theorem q1757 : Cond.code yX12_numberAt cX12_numberAt 2 (some .int) ∈ wAll := List.mem_filter.mpr ⟨tq7 (List.mem_of_getElem? (i := 150) (by decide +kernel)), rfl⟩
theorem q1758 : Cond.methodLink RX12 301 yX12_goInto ∈ wAll := List.mem_filter.mpr ⟨tq7 (List.mem_of_getElem? (i := 151) (by decide +kernel)), rfl⟩
theorem q1760 : Cond.instanceMethod yX12_goInto ∈ wAll := List.mem_filter.mpr ⟨tq7 (List.mem_of_getElem? (i := 153) (by decide +kernel)), rfl⟩
theorem q1761 : Cond.code yX12_goInto cX12_goInto 2 none ∈ wAll := List.mem_filter.mpr ⟨tq7 (List.mem_of_getElem? (i := 154) (by decide +kernel)), rfl⟩
theorem q1762 : Cond.methodLink RX12 314 yX12_goChoice ∈ wAll := List.mem_filter.mpr ⟨tq7 (List.mem_of_getElem? (i := 155) (by decide +kernel)), rfl⟩
theorem q1764 : Cond.instanceMethod yX12_goChoice ∈ wAll := List.mem_filter.mpr ⟨tq7 (List.mem_of_getElem? (i := 157) (by decide +kernel)), rfl⟩
theorem q1765 : Cond.code yX12_goChoice cX12_goChoice 4 none ∈ wAll := List.mem_filter.mpr ⟨tq7 (List.mem_of_getElem? (i := 158) (by decide +kernel)), rfl⟩
theorem q1766 : Cond.methodLink RX12 298 yX12_goSum ∈ wAll := List.mem_filter.mpr ⟨tq7 (List.mem_of_getElem? (i := 159) (by decide +kernel)), rfl⟩
theorem q1768 : Cond.instanceMethod yX12_goSum ∈ wAll := List.mem_filter.mpr ⟨tq7 (List.mem_of_getElem? (i := 161) (by decide +kernel)), rfl⟩
theorem q1769 : Cond.code yX12_goSum cX12_goSum 2 (some .int) ∈ wAll := List.mem_filter.mpr ⟨tq7 (List.mem_of_getElem? (i := 162) (by decide +kernel)), rfl⟩
theorem q1770 : Cond.methodLink RX12 288 yX12_goProduct ∈ wAll := List.mem_filter.mpr ⟨tq7 (List.mem_of_getElem? (i := 163) (by decide +kernel)), rfl⟩
theorem q1772 : Cond.instanceMethod yX12_goProduct ∈ wAll := List.mem_filter.mpr ⟨tq7 (List.mem_of_getElem? (i := 165) (by decide +kernel)), rfl⟩
theorem q1773 : Cond.code yX12_goProduct cX12_goProduct 2 (some .int) ∈ wAll := List.mem_filter.mpr ⟨tq7 (List.mem_of_getElem? (i := 166) (by decide +kernel)), rfl⟩
theorem q1774 : Cond.methodLink RX12 285 yX12_goOne ∈ wAll := List.mem_filter.mpr ⟨tq7 (List.mem_of_getElem? (i := 167) (by decide +kernel)), rfl⟩
theorem q1776 : Cond.instanceMethod yX12_goOne ∈ wAll := List.mem_filter.mpr ⟨tq7 (List.mem_of_getElem? (i := 169) (by decide +kernel)), rfl⟩
theorem q1777 : Cond.code yX12_goOne cX12_goOne 2 (some .int) ∈ wAll := List.mem_filter.mpr ⟨tq7 (List.mem_of_getElem? (i := 170) (by decide +kernel)), rfl⟩
theorem q1778 : Cond.methodLink RX12 304 yX12_passBlock ∈ wAll := List.mem_filter.mpr ⟨tq7 (List.mem_of_getElem? (i := 171) (by decide +kernel)), rfl⟩
theorem q1780 : Cond.instanceMethod yX12_passBlock ∈ wAll := List.mem_filter.mpr ⟨tq7 (List.mem_of_getElem? (i := 173) (by decide +kernel)), rfl⟩
theorem q1781 : Cond.code yX12_passBlock cX12_passBlock 3 none ∈ wAll := List.mem_filter.mpr ⟨tq7 (List.mem_of_getElem? (i := 174) (by decide +kernel)), rfl⟩
theorem q1782 : Cond.methodLink RX12 317 yX12_goAct ∈ wAll := List.mem_filter.mpr ⟨tq7 (List.mem_of_getElem? (i := 175) (by decide +kernel)), rfl⟩
theorem q1784 : Cond.instanceMethod yX12_goAct ∈ wAll := List.mem_filter.mpr ⟨tq7 (List.mem_of_getElem? (i := 177) (by decide +kernel)), rfl⟩
theorem q1785 : Cond.code yX12_goAct cX12_goAct 4 none ∈ wAll := List.mem_filter.mpr ⟨tq7 (List.mem_of_getElem? (i := 178) (by decide +kernel)), rfl⟩
theorem q1786 : Cond.methodLink RX12 307 yX12_goScan ∈ wAll := List.mem_filter.mpr ⟨tq7 (List.mem_of_getElem? (i := 179) (by decide +kernel)), rfl⟩
theorem q1788 : Cond.instanceMethod yX12_goScan ∈ wAll := List.mem_filter.mpr ⟨tq7 (List.mem_of_getElem? (i := 181) (by decide +kernel)), rfl⟩
theorem q1789 : Cond.code yX12_goScan cX12_goScan 5 none ∈ wAll := List.mem_filter.mpr ⟨tq7 (List.mem_of_getElem? (i := 182) (by decide +kernel)), rfl⟩
theorem q1790 : Cond.methodLink RL 78 yX12_years ∈ wAll := List.mem_filter.mpr ⟨tq7 (List.mem_of_getElem? (i := 183) (by decide +kernel)), rfl⟩
theorem q1791 : Cond.instanceMethod yX12_years ∈ wAll := List.mem_filter.mpr ⟨tq7 (List.mem_of_getElem? (i := 184) (by decide +kernel)), rfl⟩
theorem q1792 : Cond.selects RX12 yX12_years yX12_years ∈ wAll := List.mem_filter.mpr ⟨tq7 (List.mem_of_getElem? (i := 185) (by decide +kernel)), rfl⟩
theorem q1793 : Cond.code yX12_years cX12_years 4 (some .int) ∈ wAll := List.mem_filter.mpr ⟨tq7 (List.mem_of_getElem? (i := 186) (by decide +kernel)), rfl⟩
theorem q1794 : Cond.methodLink RX12 338 yX12_drawn ∈ wAll := List.mem_filter.mpr ⟨tq7 (List.mem_of_getElem? (i := 187) (by decide +kernel)), rfl⟩
theorem q1796 : Cond.instanceMethod yX12_drawn ∈ wAll := List.mem_filter.mpr ⟨tq7 (List.mem_of_getElem? (i := 189) (by decide +kernel)), rfl⟩
theorem q1797 : Cond.code yX12_drawn cX12_drawn 2 (some .int) ∈ wAll := List.mem_filter.mpr ⟨tq7 (List.mem_of_getElem? (i := 190) (by decide +kernel)), rfl⟩
theorem q1798 : Cond.constantLong RX12 260 (773) ∈ wAll := List.mem_filter.mpr ⟨tq7 (List.mem_of_getElem? (i := 191) (by decide +kernel)), rfl⟩
theorem q1799 : Cond.constantLong RX12 262 (641) ∈ wAll := List.mem_filter.mpr ⟨tq7 (List.mem_of_getElem? (i := 192) (by decide +kernel)), rfl⟩
theorem q1800 : Cond.constantLong RX12 264 (31139) ∈ wAll := List.mem_filter.mpr ⟨tq7 (List.mem_of_getElem? (i := 193) (by decide +kernel)), rfl⟩
theorem q1801 : Cond.methodLink RX12 341 yX12_happens ∈ wAll := List.mem_filter.mpr ⟨tq7 (List.mem_of_getElem? (i := 194) (by decide +kernel)), rfl⟩
theorem q1803 : Cond.instanceMethod yX12_happens ∈ wAll := List.mem_filter.mpr ⟨tq7 (List.mem_of_getElem? (i := 196) (by decide +kernel)), rfl⟩
theorem q1804 : Cond.code yX12_happens cX12_happens 3 none ∈ wAll := List.mem_filter.mpr ⟨tq7 (List.mem_of_getElem? (i := 197) (by decide +kernel)), rfl⟩
theorem q1805 : Cond.methodLink RL 86 yX12_is ∈ wAll := List.mem_filter.mpr ⟨tq7 (List.mem_of_getElem? (i := 198) (by decide +kernel)), rfl⟩
theorem q1806 : Cond.instanceMethod yX12_is ∈ wAll := List.mem_filter.mpr ⟨tq7 (List.mem_of_getElem? (i := 199) (by decide +kernel)), rfl⟩
theorem q1807 : Cond.selects RX12 yX12_is yX12_is ∈ wAll := List.mem_filter.mpr ⟨tq7 (List.mem_of_getElem? (i := 200) (by decide +kernel)), rfl⟩
theorem q1808 : Cond.code yX12_is cX12_is 2 (some .int) ∈ wAll := List.mem_filter.mpr ⟨tq7 (List.mem_of_getElem? (i := 201) (by decide +kernel)), rfl⟩
theorem q1809 : Cond.methodLink RL 90 yX12_where ∈ wAll := List.mem_filter.mpr ⟨tq7 (List.mem_of_getElem? (i := 202) (by decide +kernel)), rfl⟩
theorem q1810 : Cond.instanceMethod yX12_where ∈ wAll := List.mem_filter.mpr ⟨tq7 (List.mem_of_getElem? (i := 203) (by decide +kernel)), rfl⟩
theorem q1811 : Cond.selects RX12 yX12_where yX12_where ∈ wAll := List.mem_filter.mpr ⟨tq7 (List.mem_of_getElem? (i := 204) (by decide +kernel)), rfl⟩
theorem q1812 : Cond.code yX12_where cX12_where 2 (some .int) ∈ wAll := List.mem_filter.mpr ⟨tq7 (List.mem_of_getElem? (i := 205) (by decide +kernel)), rfl⟩
theorem q1813 : Cond.methodLink RL 94 yX12_slot ∈ wAll := List.mem_filter.mpr ⟨tq7 (List.mem_of_getElem? (i := 206) (by decide +kernel)), rfl⟩
theorem q1814 : Cond.instanceMethod yX12_slot ∈ wAll := List.mem_filter.mpr ⟨tq7 (List.mem_of_getElem? (i := 207) (by decide +kernel)), rfl⟩
theorem q1815 : Cond.selects RX12 yX12_slot yX12_slot ∈ wAll := List.mem_filter.mpr ⟨tq7 (List.mem_of_getElem? (i := 208) (by decide +kernel)), rfl⟩
theorem q1816 : Cond.code yX12_slot cX12_slot 3 (some .int) ∈ wAll := List.mem_filter.mpr ⟨tq7 (List.mem_of_getElem? (i := 209) (by decide +kernel)), rfl⟩
theorem q1817 : Cond.methodLink RL 98 yX12_on ∈ wAll := List.mem_filter.mpr ⟨tq7 (List.mem_of_getElem? (i := 210) (by decide +kernel)), rfl⟩
theorem q1818 : Cond.instanceMethod yX12_on ∈ wAll := List.mem_filter.mpr ⟨tq7 (List.mem_of_getElem? (i := 211) (by decide +kernel)), rfl⟩
theorem q1819 : Cond.selects RX12 yX12_on yX12_on ∈ wAll := List.mem_filter.mpr ⟨tq7 (List.mem_of_getElem? (i := 212) (by decide +kernel)), rfl⟩
theorem q1820 : Cond.code yX12_on cX12_on 3 (some .int) ∈ wAll := List.mem_filter.mpr ⟨tq7 (List.mem_of_getElem? (i := 213) (by decide +kernel)), rfl⟩
theorem q1821 : Cond.methodLink RL 102 yX12_holder ∈ wAll := List.mem_filter.mpr ⟨tq7 (List.mem_of_getElem? (i := 214) (by decide +kernel)), rfl⟩
theorem q1822 : Cond.instanceMethod yX12_holder ∈ wAll := List.mem_filter.mpr ⟨tq7 (List.mem_of_getElem? (i := 215) (by decide +kernel)), rfl⟩
theorem q1823 : Cond.selects RX12 yX12_holder yX12_holder ∈ wAll := List.mem_filter.mpr ⟨tq7 (List.mem_of_getElem? (i := 216) (by decide +kernel)), rfl⟩
theorem q1824 : Cond.code yX12_holder cX12_holder 2 (some .int) ∈ wAll := List.mem_filter.mpr ⟨tq7 (List.mem_of_getElem? (i := 217) (by decide +kernel)), rfl⟩
theorem q1825 : Cond.methodLink RL 106 yX12_free ∈ wAll := List.mem_filter.mpr ⟨tq7 (List.mem_of_getElem? (i := 218) (by decide +kernel)), rfl⟩
theorem q1826 : Cond.instanceMethod yX12_free ∈ wAll := List.mem_filter.mpr ⟨tq7 (List.mem_of_getElem? (i := 219) (by decide +kernel)), rfl⟩
theorem q1827 : Cond.selects RX12 yX12_free yX12_free ∈ wAll := List.mem_filter.mpr ⟨tq7 (List.mem_of_getElem? (i := 220) (by decide +kernel)), rfl⟩
theorem q1828 : Cond.code yX12_free cX12_free 2 (some .int) ∈ wAll := List.mem_filter.mpr ⟨tq7 (List.mem_of_getElem? (i := 221) (by decide +kernel)), rfl⟩
theorem q1829 : Cond.methodLink RL 110 yX12_position ∈ wAll := List.mem_filter.mpr ⟨tq7 (List.mem_of_getElem? (i := 222) (by decide +kernel)), rfl⟩
theorem q1830 : Cond.instanceMethod yX12_position ∈ wAll := List.mem_filter.mpr ⟨tq7 (List.mem_of_getElem? (i := 223) (by decide +kernel)), rfl⟩
theorem q1831 : Cond.selects RX12 yX12_position yX12_position ∈ wAll := List.mem_filter.mpr ⟨tq7 (List.mem_of_getElem? (i := 224) (by decide +kernel)), rfl⟩
theorem q1832 : Cond.code yX12_position cX12_position 3 (some .int) ∈ wAll := List.mem_filter.mpr ⟨tq7 (List.mem_of_getElem? (i := 225) (by decide +kernel)), rfl⟩
theorem q1833 : Cond.methodLink RL 114 yX12_heat ∈ wAll := List.mem_filter.mpr ⟨tq7 (List.mem_of_getElem? (i := 226) (by decide +kernel)), rfl⟩
theorem q1834 : Cond.instanceMethod yX12_heat ∈ wAll := List.mem_filter.mpr ⟨tq7 (List.mem_of_getElem? (i := 227) (by decide +kernel)), rfl⟩
theorem q1835 : Cond.selects RX12 yX12_heat yX12_heat ∈ wAll := List.mem_filter.mpr ⟨tq7 (List.mem_of_getElem? (i := 228) (by decide +kernel)), rfl⟩
theorem q1836 : Cond.code yX12_heat cX12_heat 2 (some .int) ∈ wAll := List.mem_filter.mpr ⟨tq7 (List.mem_of_getElem? (i := 229) (by decide +kernel)), rfl⟩
theorem q1837 : Cond.methodLink RL 118 yX12_of ∈ wAll := List.mem_filter.mpr ⟨tq7 (List.mem_of_getElem? (i := 230) (by decide +kernel)), rfl⟩
theorem q1838 : Cond.instanceMethod yX12_of ∈ wAll := List.mem_filter.mpr ⟨tq7 (List.mem_of_getElem? (i := 231) (by decide +kernel)), rfl⟩
theorem q1839 : Cond.selects RX12 yX12_of yX12_of ∈ wAll := List.mem_filter.mpr ⟨tq7 (List.mem_of_getElem? (i := 232) (by decide +kernel)), rfl⟩
theorem q1840 : Cond.code yX12_of cX12_of 3 (some .int) ∈ wAll := List.mem_filter.mpr ⟨tq7 (List.mem_of_getElem? (i := 233) (by decide +kernel)), rfl⟩
theorem q1841 : Cond.methodLink RL 122 yX12_head ∈ wAll := List.mem_filter.mpr ⟨tq7 (List.mem_of_getElem? (i := 234) (by decide +kernel)), rfl⟩
theorem q1842 : Cond.instanceMethod yX12_head ∈ wAll := List.mem_filter.mpr ⟨tq7 (List.mem_of_getElem? (i := 235) (by decide +kernel)), rfl⟩
theorem q1843 : Cond.selects RX12 yX12_head yX12_head ∈ wAll := List.mem_filter.mpr ⟨tq7 (List.mem_of_getElem? (i := 236) (by decide +kernel)), rfl⟩
theorem q1844 : Cond.code yX12_head cX12_head 3 (some .int) ∈ wAll := List.mem_filter.mpr ⟨tq7 (List.mem_of_getElem? (i := 237) (by decide +kernel)), rfl⟩
theorem q1845 : Cond.methodLink RL 126 yX12_move ∈ wAll := List.mem_filter.mpr ⟨tq7 (List.mem_of_getElem? (i := 238) (by decide +kernel)), rfl⟩
theorem q1846 : Cond.instanceMethod yX12_move ∈ wAll := List.mem_filter.mpr ⟨tq7 (List.mem_of_getElem? (i := 239) (by decide +kernel)), rfl⟩
theorem q1847 : Cond.selects RX12 yX12_move yX12_move ∈ wAll := List.mem_filter.mpr ⟨tq8 (List.mem_of_getElem? (i := 0) (by decide +kernel)), rfl⟩
theorem q1848 : Cond.code yX12_move cX12_move 3 (some .int) ∈ wAll := List.mem_filter.mpr ⟨tq8 (List.mem_of_getElem? (i := 1) (by decide +kernel)), rfl⟩
theorem q1849 : Cond.methodLink RL 130 yX12_moveOf ∈ wAll := List.mem_filter.mpr ⟨tq8 (List.mem_of_getElem? (i := 2) (by decide +kernel)), rfl⟩
theorem q1850 : Cond.instanceMethod yX12_moveOf ∈ wAll := List.mem_filter.mpr ⟨tq8 (List.mem_of_getElem? (i := 3) (by decide +kernel)), rfl⟩
theorem q1851 : Cond.selects RX12 yX12_moveOf yX12_moveOf ∈ wAll := List.mem_filter.mpr ⟨tq8 (List.mem_of_getElem? (i := 4) (by decide +kernel)), rfl⟩
theorem q1852 : Cond.code yX12_moveOf cX12_moveOf 2 (some .int) ∈ wAll := List.mem_filter.mpr ⟨tq8 (List.mem_of_getElem? (i := 5) (by decide +kernel)), rfl⟩
theorem q1853 : Cond.methodLink RL 134 yX12_plan ∈ wAll := List.mem_filter.mpr ⟨tq8 (List.mem_of_getElem? (i := 6) (by decide +kernel)), rfl⟩
theorem q1854 : Cond.instanceMethod yX12_plan ∈ wAll := List.mem_filter.mpr ⟨tq8 (List.mem_of_getElem? (i := 7) (by decide +kernel)), rfl⟩
theorem q1855 : Cond.selects RX12 yX12_plan yX12_plan ∈ wAll := List.mem_filter.mpr ⟨tq8 (List.mem_of_getElem? (i := 8) (by decide +kernel)), rfl⟩
theorem q1856 : Cond.code yX12_plan cX12_plan 1 (some .int) ∈ wAll := List.mem_filter.mpr ⟨tq8 (List.mem_of_getElem? (i := 9) (by decide +kernel)), rfl⟩
theorem q1857 : Cond.methodLink RL 138 yX12_worth ∈ wAll := List.mem_filter.mpr ⟨tq8 (List.mem_of_getElem? (i := 10) (by decide +kernel)), rfl⟩
theorem q1858 : Cond.instanceMethod yX12_worth ∈ wAll := List.mem_filter.mpr ⟨tq8 (List.mem_of_getElem? (i := 11) (by decide +kernel)), rfl⟩
theorem q1859 : Cond.selects RX12 yX12_worth yX12_worth ∈ wAll := List.mem_filter.mpr ⟨tq8 (List.mem_of_getElem? (i := 12) (by decide +kernel)), rfl⟩
theorem q1860 : Cond.code yX12_worth cX12_worth 2 (some .int) ∈ wAll := List.mem_filter.mpr ⟨tq8 (List.mem_of_getElem? (i := 13) (by decide +kernel)), rfl⟩
theorem q1861 : Cond.constant RX12 344 (-2147483648) ∈ wAll := List.mem_filter.mpr ⟨tq8 (List.mem_of_getElem? (i := 14) (by decide +kernel)), rfl⟩
theorem q1862 : Cond.methodLink RL 142 yX12_value ∈ wAll := List.mem_filter.mpr ⟨tq8 (List.mem_of_getElem? (i := 15) (by decide +kernel)), rfl⟩
theorem q1863 : Cond.instanceMethod yX12_value ∈ wAll := List.mem_filter.mpr ⟨tq8 (List.mem_of_getElem? (i := 16) (by decide +kernel)), rfl⟩
theorem q1864 : Cond.selects RX12 yX12_value yX12_value ∈ wAll := List.mem_filter.mpr ⟨tq8 (List.mem_of_getElem? (i := 17) (by decide +kernel)), rfl⟩
theorem q1865 : Cond.code yX12_value cX12_value 2 (some .int) ∈ wAll := List.mem_filter.mpr ⟨tq8 (List.mem_of_getElem? (i := 18) (by decide +kernel)), rfl⟩
theorem q1866 : Cond.methodLink RL 159 yX12_may ∈ wAll := List.mem_filter.mpr ⟨tq8 (List.mem_of_getElem? (i := 19) (by decide +kernel)), rfl⟩
theorem q1867 : Cond.instanceMethod yX12_may ∈ wAll := List.mem_filter.mpr ⟨tq8 (List.mem_of_getElem? (i := 20) (by decide +kernel)), rfl⟩
theorem q1868 : Cond.selects RX12 yX12_may yX12_may ∈ wAll := List.mem_filter.mpr ⟨tq8 (List.mem_of_getElem? (i := 21) (by decide +kernel)), rfl⟩
theorem q1869 : Cond.code yX12_may cX12_may 4 (some .boolean) ∈ wAll := List.mem_filter.mpr ⟨tq8 (List.mem_of_getElem? (i := 22) (by decide +kernel)), rfl⟩
theorem q1870 : Cond.methodLink RL 163 yX12_next ∈ wAll := List.mem_filter.mpr ⟨tq8 (List.mem_of_getElem? (i := 23) (by decide +kernel)), rfl⟩
theorem q1871 : Cond.instanceMethod yX12_next ∈ wAll := List.mem_filter.mpr ⟨tq8 (List.mem_of_getElem? (i := 24) (by decide +kernel)), rfl⟩
theorem q1872 : Cond.selects RX12 yX12_next yX12_next ∈ wAll := List.mem_filter.mpr ⟨tq8 (List.mem_of_getElem? (i := 25) (by decide +kernel)), rfl⟩
theorem q1873 : Cond.code yX12_next cX12_next 3 (some .int) ∈ wAll := List.mem_filter.mpr ⟨tq8 (List.mem_of_getElem? (i := 26) (by decide +kernel)), rfl⟩
theorem q1874 : Cond.methodLink RL 167 yX12_enough ∈ wAll := List.mem_filter.mpr ⟨tq8 (List.mem_of_getElem? (i := 27) (by decide +kernel)), rfl⟩
theorem q1875 : Cond.instanceMethod yX12_enough ∈ wAll := List.mem_filter.mpr ⟨tq8 (List.mem_of_getElem? (i := 28) (by decide +kernel)), rfl⟩
theorem q1876 : Cond.selects RX12 yX12_enough yX12_enough ∈ wAll := List.mem_filter.mpr ⟨tq8 (List.mem_of_getElem? (i := 29) (by decide +kernel)), rfl⟩
theorem q1877 : Cond.code yX12_enough cX12_enough 3 (some .int) ∈ wAll := List.mem_filter.mpr ⟨tq8 (List.mem_of_getElem? (i := 30) (by decide +kernel)), rfl⟩
theorem q1878 : Cond.methodLink RL 146 yX12_needs ∈ wAll := List.mem_filter.mpr ⟨tq8 (List.mem_of_getElem? (i := 31) (by decide +kernel)), rfl⟩
theorem q1879 : Cond.instanceMethod yX12_needs ∈ wAll := List.mem_filter.mpr ⟨tq8 (List.mem_of_getElem? (i := 32) (by decide +kernel)), rfl⟩
theorem q1880 : Cond.selects RX12 yX12_needs yX12_needs ∈ wAll := List.mem_filter.mpr ⟨tq8 (List.mem_of_getElem? (i := 33) (by decide +kernel)), rfl⟩
theorem q1881 : Cond.code yX12_needs cX12_needs 4 (some .int) ∈ wAll := List.mem_filter.mpr ⟨tq8 (List.mem_of_getElem? (i := 34) (by decide +kernel)), rfl⟩
theorem q1882 : Cond.methodLink RL 150 yX12_threshold ∈ wAll := List.mem_filter.mpr ⟨tq8 (List.mem_of_getElem? (i := 35) (by decide +kernel)), rfl⟩
theorem q1883 : Cond.instanceMethod yX12_threshold ∈ wAll := List.mem_filter.mpr ⟨tq8 (List.mem_of_getElem? (i := 36) (by decide +kernel)), rfl⟩
theorem q1884 : Cond.selects RX12 yX12_threshold yX12_threshold ∈ wAll := List.mem_filter.mpr ⟨tq8 (List.mem_of_getElem? (i := 37) (by decide +kernel)), rfl⟩
theorem q1885 : Cond.code yX12_threshold cX12_threshold 3 (some .int) ∈ wAll := List.mem_filter.mpr ⟨tq8 (List.mem_of_getElem? (i := 38) (by decide +kernel)), rfl⟩
theorem q1886 : Cond.methodLink RX12 360 yX12_layBests ∈ wAll := List.mem_filter.mpr ⟨tq8 (List.mem_of_getElem? (i := 39) (by decide +kernel)), rfl⟩
theorem q1888 : Cond.instanceMethod yX12_layBests ∈ wAll := List.mem_filter.mpr ⟨tq8 (List.mem_of_getElem? (i := 41) (by decide +kernel)), rfl⟩
theorem q1889 : Cond.code yX12_layBests cX12_layBests 4 none ∈ wAll := List.mem_filter.mpr ⟨tq8 (List.mem_of_getElem? (i := 42) (by decide +kernel)), rfl⟩
theorem q1890 : Cond.methodLink RX12 357 yX12_shareOf ∈ wAll := List.mem_filter.mpr ⟨tq8 (List.mem_of_getElem? (i := 43) (by decide +kernel)), rfl⟩
theorem q1892 : Cond.instanceMethod yX12_shareOf ∈ wAll := List.mem_filter.mpr ⟨tq8 (List.mem_of_getElem? (i := 45) (by decide +kernel)), rfl⟩
theorem q1893 : Cond.code yX12_shareOf cX12_shareOf 3 (some .int) ∈ wAll := List.mem_filter.mpr ⟨tq8 (List.mem_of_getElem? (i := 46) (by decide +kernel)), rfl⟩
theorem q1894 : Cond.methodLink RX12 363 yX12_isInWith ∈ wAll := List.mem_filter.mpr ⟨tq8 (List.mem_of_getElem? (i := 47) (by decide +kernel)), rfl⟩
theorem q1896 : Cond.instanceMethod yX12_isInWith ∈ wAll := List.mem_filter.mpr ⟨tq8 (List.mem_of_getElem? (i := 49) (by decide +kernel)), rfl⟩
theorem q1897 : Cond.code yX12_isInWith cX12_isInWith 4 (some .boolean) ∈ wAll := List.mem_filter.mpr ⟨tq8 (List.mem_of_getElem? (i := 50) (by decide +kernel)), rfl⟩
theorem q1898 : Cond.methodLink RL 154 yX12_displaced ∈ wAll := List.mem_filter.mpr ⟨tq8 (List.mem_of_getElem? (i := 51) (by decide +kernel)), rfl⟩
theorem q1899 : Cond.instanceMethod yX12_displaced ∈ wAll := List.mem_filter.mpr ⟨tq8 (List.mem_of_getElem? (i := 52) (by decide +kernel)), rfl⟩
theorem q1900 : Cond.selects RX12 yX12_displaced yX12_displaced ∈ wAll := List.mem_filter.mpr ⟨tq8 (List.mem_of_getElem? (i := 53) (by decide +kernel)), rfl⟩
theorem q1901 : Cond.code yX12_displaced cX12_displaced 3 (some .int) ∈ wAll := List.mem_filter.mpr ⟨tq8 (List.mem_of_getElem? (i := 54) (by decide +kernel)), rfl⟩
theorem q1902 : Cond.methodLink RX12 366 yX12_threshold ∈ wAll := List.mem_filter.mpr ⟨tq8 (List.mem_of_getElem? (i := 55) (by decide +kernel)), rfl⟩
theorem q1903 : Cond.methodLink RL 171 yX12_gained ∈ wAll := List.mem_filter.mpr ⟨tq8 (List.mem_of_getElem? (i := 56) (by decide +kernel)), rfl⟩
theorem q1904 : Cond.instanceMethod yX12_gained ∈ wAll := List.mem_filter.mpr ⟨tq8 (List.mem_of_getElem? (i := 57) (by decide +kernel)), rfl⟩
theorem q1905 : Cond.selects RX12 yX12_gained yX12_gained ∈ wAll := List.mem_filter.mpr ⟨tq8 (List.mem_of_getElem? (i := 58) (by decide +kernel)), rfl⟩
theorem q1906 : Cond.code yX12_gained cX12_gained 2 (some .int) ∈ wAll := List.mem_filter.mpr ⟨tq8 (List.mem_of_getElem? (i := 59) (by decide +kernel)), rfl⟩
theorem q1907 : Cond.methodLink RL 175 yX12_foretold ∈ wAll := List.mem_filter.mpr ⟨tq8 (List.mem_of_getElem? (i := 60) (by decide +kernel)), rfl⟩
theorem q1908 : Cond.instanceMethod yX12_foretold ∈ wAll := List.mem_filter.mpr ⟨tq8 (List.mem_of_getElem? (i := 61) (by decide +kernel)), rfl⟩
theorem q1909 : Cond.selects RX12 yX12_foretold yX12_foretold ∈ wAll := List.mem_filter.mpr ⟨tq8 (List.mem_of_getElem? (i := 62) (by decide +kernel)), rfl⟩
theorem q1910 : Cond.code yX12_foretold cX12_foretold 4 (some .int) ∈ wAll := List.mem_filter.mpr ⟨tq8 (List.mem_of_getElem? (i := 63) (by decide +kernel)), rfl⟩
theorem q1911 : Cond.methodLink RX12 369 yX12_putAside ∈ wAll := List.mem_filter.mpr ⟨tq8 (List.mem_of_getElem? (i := 64) (by decide +kernel)), rfl⟩
theorem q1913 : Cond.instanceMethod yX12_putAside ∈ wAll := List.mem_filter.mpr ⟨tq8 (List.mem_of_getElem? (i := 66) (by decide +kernel)), rfl⟩
theorem q1914 : Cond.code yX12_putAside cX12_putAside 2 none ∈ wAll := List.mem_filter.mpr ⟨tq8 (List.mem_of_getElem? (i := 67) (by decide +kernel)), rfl⟩
theorem q1915 : Cond.methodLink RX12 372 yX12_bringBack ∈ wAll := List.mem_filter.mpr ⟨tq8 (List.mem_of_getElem? (i := 68) (by decide +kernel)), rfl⟩
theorem q1917 : Cond.instanceMethod yX12_bringBack ∈ wAll := List.mem_filter.mpr ⟨tq8 (List.mem_of_getElem? (i := 70) (by decide +kernel)), rfl⟩
theorem q1918 : Cond.code yX12_bringBack cX12_bringBack 2 none ∈ wAll := List.mem_filter.mpr ⟨tq8 (List.mem_of_getElem? (i := 71) (by decide +kernel)), rfl⟩
theorem q1919 : Cond.methodLink RL 179 yX12_copies ∈ wAll := List.mem_filter.mpr ⟨tq8 (List.mem_of_getElem? (i := 72) (by decide +kernel)), rfl⟩
theorem q1920 : Cond.instanceMethod yX12_copies ∈ wAll := List.mem_filter.mpr ⟨tq8 (List.mem_of_getElem? (i := 73) (by decide +kernel)), rfl⟩
theorem q1921 : Cond.selects RX12 yX12_copies yX12_copies ∈ wAll := List.mem_filter.mpr ⟨tq8 (List.mem_of_getElem? (i := 74) (by decide +kernel)), rfl⟩
theorem q1922 : Cond.code yX12_copies cX12_copies 4 (some .int) ∈ wAll := List.mem_filter.mpr ⟨tq8 (List.mem_of_getElem? (i := 75) (by decide +kernel)), rfl⟩
theorem q1923 : Cond.methodLink RL 183 yX12_would ∈ wAll := List.mem_filter.mpr ⟨tq8 (List.mem_of_getElem? (i := 76) (by decide +kernel)), rfl⟩
theorem q1924 : Cond.instanceMethod yX12_would ∈ wAll := List.mem_filter.mpr ⟨tq8 (List.mem_of_getElem? (i := 77) (by decide +kernel)), rfl⟩
theorem q1925 : Cond.selects RX12 yX12_would yX12_would ∈ wAll := List.mem_filter.mpr ⟨tq8 (List.mem_of_getElem? (i := 78) (by decide +kernel)), rfl⟩
theorem q1926 : Cond.code yX12_would cX12_would 4 (some .int) ∈ wAll := List.mem_filter.mpr ⟨tq8 (List.mem_of_getElem? (i := 79) (by decide +kernel)), rfl⟩
theorem q1927 : Cond.methodLink RL 187 yX12_cheapest ∈ wAll := List.mem_filter.mpr ⟨tq8 (List.mem_of_getElem? (i := 80) (by decide +kernel)), rfl⟩
theorem q1928 : Cond.instanceMethod yX12_cheapest ∈ wAll := List.mem_filter.mpr ⟨tq8 (List.mem_of_getElem? (i := 81) (by decide +kernel)), rfl⟩
theorem q1929 : Cond.selects RX12 yX12_cheapest yX12_cheapest ∈ wAll := List.mem_filter.mpr ⟨tq8 (List.mem_of_getElem? (i := 82) (by decide +kernel)), rfl⟩
theorem q1930 : Cond.code yX12_cheapest cX12_cheapest 5 (some .int) ∈ wAll := List.mem_filter.mpr ⟨tq8 (List.mem_of_getElem? (i := 83) (by decide +kernel)), rfl⟩
theorem q1931 : Cond.methodLink RX12 375 yX12_would ∈ wAll := List.mem_filter.mpr ⟨tq8 (List.mem_of_getElem? (i := 84) (by decide +kernel)), rfl⟩
theorem q1932 : Cond.methodLink RL 191 yX12_rank ∈ wAll := List.mem_filter.mpr ⟨tq8 (List.mem_of_getElem? (i := 85) (by decide +kernel)), rfl⟩
theorem q1933 : Cond.instanceMethod yX12_rank ∈ wAll := List.mem_filter.mpr ⟨tq8 (List.mem_of_getElem? (i := 86) (by decide +kernel)), rfl⟩
theorem q1934 : Cond.selects RX12 yX12_rank yX12_rank ∈ wAll := List.mem_filter.mpr ⟨tq8 (List.mem_of_getElem? (i := 87) (by decide +kernel)), rfl⟩
theorem q1935 : Cond.code yX12_rank cX12_rank 5 (some .int) ∈ wAll := List.mem_filter.mpr ⟨tq8 (List.mem_of_getElem? (i := 88) (by decide +kernel)), rfl⟩
theorem q1936 : Cond.methodLink RX12 378 yX12_isHotter ∈ wAll := List.mem_filter.mpr ⟨tq8 (List.mem_of_getElem? (i := 89) (by decide +kernel)), rfl⟩
theorem q1938 : Cond.instanceMethod yX12_isHotter ∈ wAll := List.mem_filter.mpr ⟨tq8 (List.mem_of_getElem? (i := 91) (by decide +kernel)), rfl⟩
theorem q1939 : Cond.code yX12_isHotter cX12_isHotter 3 (some .boolean) ∈ wAll := List.mem_filter.mpr ⟨tq8 (List.mem_of_getElem? (i := 92) (by decide +kernel)), rfl⟩
theorem q1940 : Cond.methodLink RL 195 yX12_coldest ∈ wAll := List.mem_filter.mpr ⟨tq8 (List.mem_of_getElem? (i := 93) (by decide +kernel)), rfl⟩
theorem q1941 : Cond.instanceMethod yX12_coldest ∈ wAll := List.mem_filter.mpr ⟨tq8 (List.mem_of_getElem? (i := 94) (by decide +kernel)), rfl⟩
theorem q1942 : Cond.selects RX12 yX12_coldest yX12_coldest ∈ wAll := List.mem_filter.mpr ⟨tq8 (List.mem_of_getElem? (i := 95) (by decide +kernel)), rfl⟩
theorem q1943 : Cond.code yX12_coldest cX12_coldest 4 (some .int) ∈ wAll := List.mem_filter.mpr ⟨tq8 (List.mem_of_getElem? (i := 96) (by decide +kernel)), rfl⟩
theorem q1944 : Cond.methodLink RL 199 yX12_warmth ∈ wAll := List.mem_filter.mpr ⟨tq8 (List.mem_of_getElem? (i := 97) (by decide +kernel)), rfl⟩
theorem q1945 : Cond.instanceMethod yX12_warmth ∈ wAll := List.mem_filter.mpr ⟨tq8 (List.mem_of_getElem? (i := 98) (by decide +kernel)), rfl⟩
theorem q1946 : Cond.selects RX12 yX12_warmth yX12_warmth ∈ wAll := List.mem_filter.mpr ⟨tq8 (List.mem_of_getElem? (i := 99) (by decide +kernel)), rfl⟩
theorem q1947 : Cond.code yX12_warmth cX12_warmth 4 (some .int) ∈ wAll := List.mem_filter.mpr ⟨tq8 (List.mem_of_getElem? (i := 100) (by decide +kernel)), rfl⟩
theorem q1948 : Cond.methodLink RL 203 yX12_cools ∈ wAll := List.mem_filter.mpr ⟨tq8 (List.mem_of_getElem? (i := 101) (by decide +kernel)), rfl⟩
theorem q1949 : Cond.instanceMethod yX12_cools ∈ wAll := List.mem_filter.mpr ⟨tq8 (List.mem_of_getElem? (i := 102) (by decide +kernel)), rfl⟩
theorem q1950 : Cond.selects RX12 yX12_cools yX12_cools ∈ wAll := List.mem_filter.mpr ⟨tq8 (List.mem_of_getElem? (i := 103) (by decide +kernel)), rfl⟩
theorem q1951 : Cond.code yX12_cools cX12_cools 4 (some .int) ∈ wAll := List.mem_filter.mpr ⟨tq8 (List.mem_of_getElem? (i := 104) (by decide +kernel)), rfl⟩
theorem q1952 : Cond.methodLink RL 207 yX12_share ∈ wAll := List.mem_filter.mpr ⟨tq8 (List.mem_of_getElem? (i := 105) (by decide +kernel)), rfl⟩
theorem q1953 : Cond.instanceMethod yX12_share ∈ wAll := List.mem_filter.mpr ⟨tq8 (List.mem_of_getElem? (i := 106) (by decide +kernel)), rfl⟩
theorem q1954 : Cond.selects RX12 yX12_share yX12_share ∈ wAll := List.mem_filter.mpr ⟨tq8 (List.mem_of_getElem? (i := 107) (by decide +kernel)), rfl⟩
theorem q1955 : Cond.code yX12_share cX12_share 1 (some .int) ∈ wAll := List.mem_filter.mpr ⟨tq8 (List.mem_of_getElem? (i := 108) (by decide +kernel)), rfl⟩
theorem q1956 : Cond.methodLink RX12 381 yJxf58ca_floatToIntBits_5c35a ∈ wAll := List.mem_filter.mpr ⟨tq8 (List.mem_of_getElem? (i := 109) (by decide +kernel)), rfl⟩
theorem q1957 : Cond.static yJxf58ca_floatToIntBits_5c35a ∈ wAll := List.mem_filter.mpr ⟨tq8 (List.mem_of_getElem? (i := 110) (by decide +kernel)), rfl⟩
theorem q1958 : Cond.code yJxf58ca_floatToIntBits_5c35a cJxf58ca_floatToIntBits_5c35a 1 (some .int) ∈ wAll := List.mem_filter.mpr ⟨tq8 (List.mem_of_getElem? (i := 111) (by decide +kernel)), rfl⟩
theorem q1959 : Cond.methodLink RJxf58ca 59 yJxf58ca_isNaN_12338 ∈ wAll := List.mem_filter.mpr ⟨tq8 (List.mem_of_getElem? (i := 112) (by decide +kernel)), rfl⟩
theorem q1960 : Cond.static yJxf58ca_isNaN_12338 ∈ wAll := List.mem_filter.mpr ⟨tq8 (List.mem_of_getElem? (i := 113) (by decide +kernel)), rfl⟩
theorem q1961 : Cond.code yJxf58ca_isNaN_12338 cJxf58ca_isNaN_12338 1 (some .boolean) ∈ wAll := List.mem_filter.mpr ⟨tq8 (List.mem_of_getElem? (i := 114) (by decide +kernel)), rfl⟩
theorem q1962 : Cond.methodLink RJxf58ca 74 ⟨RJxf58ca, "floatToRawIntBits", "(F)I"⟩ ∈ wAll := List.mem_filter.mpr ⟨tq8 (List.mem_of_getElem? (i := 115) (by decide +kernel)), rfl⟩
theorem q1963 : Cond.static ⟨RJxf58ca, "floatToRawIntBits", "(F)I"⟩ ∈ wAll := List.mem_filter.mpr ⟨tq8 (List.mem_of_getElem? (i := 116) (by decide +kernel)), rfl⟩
theorem q1964 : Cond.native ⟨RJxf58ca, "floatToRawIntBits", "(F)I"⟩ ∈ wAll := List.mem_filter.mpr ⟨tq8 (List.mem_of_getElem? (i := 117) (by decide +kernel)), rfl⟩
theorem q1965 : Cond.constant RJxf58ca 77 (2143289344) ∈ wAll := List.mem_filter.mpr ⟨tq8 (List.mem_of_getElem? (i := 118) (by decide +kernel)), rfl⟩
theorem q1966 : Cond.methodLink RL 212 yX12_mean ∈ wAll := List.mem_filter.mpr ⟨tq8 (List.mem_of_getElem? (i := 119) (by decide +kernel)), rfl⟩
theorem q1967 : Cond.instanceMethod yX12_mean ∈ wAll := List.mem_filter.mpr ⟨tq8 (List.mem_of_getElem? (i := 120) (by decide +kernel)), rfl⟩
theorem q1968 : Cond.selects RX12 yX12_mean yX12_mean ∈ wAll := List.mem_filter.mpr ⟨tq8 (List.mem_of_getElem? (i := 121) (by decide +kernel)), rfl⟩
theorem q1969 : Cond.code yX12_mean cX12_mean 1 (some .long) ∈ wAll := List.mem_filter.mpr ⟨tq8 (List.mem_of_getElem? (i := 122) (by decide +kernel)), rfl⟩
theorem q1970 : Cond.methodLink RX12 387 yJxe99ae_doubleToLongBits_ccdee ∈ wAll := List.mem_filter.mpr ⟨tq8 (List.mem_of_getElem? (i := 123) (by decide +kernel)), rfl⟩
theorem q1971 : Cond.static yJxe99ae_doubleToLongBits_ccdee ∈ wAll := List.mem_filter.mpr ⟨tq8 (List.mem_of_getElem? (i := 124) (by decide +kernel)), rfl⟩
theorem q1972 : Cond.code yJxe99ae_doubleToLongBits_ccdee cJxe99ae_doubleToLongBits_ccdee 2 (some .long) ∈ wAll := List.mem_filter.mpr ⟨tq8 (List.mem_of_getElem? (i := 125) (by decide +kernel)), rfl⟩
theorem q1973 : Cond.methodLink RJxe99ae 122 yJxe99ae_isNaN_b9ae7 ∈ wAll := List.mem_filter.mpr ⟨tq8 (List.mem_of_getElem? (i := 126) (by decide +kernel)), rfl⟩
theorem q1974 : Cond.static yJxe99ae_isNaN_b9ae7 ∈ wAll := List.mem_filter.mpr ⟨tq8 (List.mem_of_getElem? (i := 127) (by decide +kernel)), rfl⟩
theorem q1975 : Cond.code yJxe99ae_isNaN_b9ae7 cJxe99ae_isNaN_b9ae7 2 (some .boolean) ∈ wAll := List.mem_filter.mpr ⟨tq8 (List.mem_of_getElem? (i := 128) (by decide +kernel)), rfl⟩
theorem q1976 : Cond.methodLink RJxe99ae 134 ⟨RJxe99ae, "doubleToRawLongBits", "(D)J"⟩ ∈ wAll := List.mem_filter.mpr ⟨tq8 (List.mem_of_getElem? (i := 129) (by decide +kernel)), rfl⟩
theorem q1977 : Cond.static ⟨RJxe99ae, "doubleToRawLongBits", "(D)J"⟩ ∈ wAll := List.mem_filter.mpr ⟨tq8 (List.mem_of_getElem? (i := 130) (by decide +kernel)), rfl⟩
theorem q1978 : Cond.native ⟨RJxe99ae, "doubleToRawLongBits", "(D)J"⟩ ∈ wAll := List.mem_filter.mpr ⟨tq8 (List.mem_of_getElem? (i := 131) (by decide +kernel)), rfl⟩
theorem q1979 : Cond.constantLong RJxe99ae 137 (9221120237041090560) ∈ wAll := List.mem_filter.mpr ⟨tq8 (List.mem_of_getElem? (i := 132) (by decide +kernel)), rfl⟩
theorem q1980 : Cond.methodLink RL 216 yX12_book ∈ wAll := List.mem_filter.mpr ⟨tq8 (List.mem_of_getElem? (i := 133) (by decide +kernel)), rfl⟩
theorem q1981 : Cond.instanceMethod yX12_book ∈ wAll := List.mem_filter.mpr ⟨tq8 (List.mem_of_getElem? (i := 134) (by decide +kernel)), rfl⟩
theorem q1982 : Cond.selects RX12 yX12_book yX12_book ∈ wAll := List.mem_filter.mpr ⟨tq8 (List.mem_of_getElem? (i := 135) (by decide +kernel)), rfl⟩
theorem q1983 : Cond.code yX12_book cX12_book 3 (some .int) ∈ wAll := List.mem_filter.mpr ⟨tq8 (List.mem_of_getElem? (i := 136) (by decide +kernel)), rfl⟩
theorem q1984 : Cond.methodLink RL 220 yX12_ledger ∈ wAll := List.mem_filter.mpr ⟨tq8 (List.mem_of_getElem? (i := 137) (by decide +kernel)), rfl⟩
theorem q1985 : Cond.instanceMethod yX12_ledger ∈ wAll := List.mem_filter.mpr ⟨tq8 (List.mem_of_getElem? (i := 138) (by decide +kernel)), rfl⟩
theorem q1986 : Cond.selects RX12 yX12_ledger yX12_ledger ∈ wAll := List.mem_filter.mpr ⟨tq8 (List.mem_of_getElem? (i := 139) (by decide +kernel)), rfl⟩
theorem q1987 : Cond.code yX12_ledger cX12_ledger 4 (some .int) ∈ wAll := List.mem_filter.mpr ⟨tq8 (List.mem_of_getElem? (i := 140) (by decide +kernel)), rfl⟩
theorem q1988 : Cond.methodLink RL 224 yX12_image ∈ wAll := List.mem_filter.mpr ⟨tq8 (List.mem_of_getElem? (i := 141) (by decide +kernel)), rfl⟩
theorem q1989 : Cond.instanceMethod yX12_image ∈ wAll := List.mem_filter.mpr ⟨tq8 (List.mem_of_getElem? (i := 142) (by decide +kernel)), rfl⟩
theorem q1990 : Cond.selects RX12 yX12_image yX12_image ∈ wAll := List.mem_filter.mpr ⟨tq8 (List.mem_of_getElem? (i := 143) (by decide +kernel)), rfl⟩
theorem q1991 : Cond.code yX12_image cX12_image 1 (some .int) ∈ wAll := List.mem_filter.mpr ⟨tq8 (List.mem_of_getElem? (i := 144) (by decide +kernel)), rfl⟩
theorem q1992 : Cond.methodLink RL 228 yX12_back ∈ wAll := List.mem_filter.mpr ⟨tq8 (List.mem_of_getElem? (i := 145) (by decide +kernel)), rfl⟩
theorem q1993 : Cond.instanceMethod yX12_back ∈ wAll := List.mem_filter.mpr ⟨tq8 (List.mem_of_getElem? (i := 146) (by decide +kernel)), rfl⟩
theorem q1994 : Cond.selects RX12 yX12_back yX12_back ∈ wAll := List.mem_filter.mpr ⟨tq8 (List.mem_of_getElem? (i := 147) (by decide +kernel)), rfl⟩
theorem q1995 : Cond.code yX12_back cX12_back 1 (some .int) ∈ wAll := List.mem_filter.mpr ⟨tq8 (List.mem_of_getElem? (i := 148) (by decide +kernel)), rfl⟩
theorem q1996 : Cond.methodLink RL 232 yX12_about ∈ wAll := List.mem_filter.mpr ⟨tq8 (List.mem_of_getElem? (i := 149) (by decide +kernel)), rfl⟩
theorem q1997 : Cond.instanceMethod yX12_about ∈ wAll := List.mem_filter.mpr ⟨tq8 (List.mem_of_getElem? (i := 150) (by decide +kernel)), rfl⟩
theorem q1998 : Cond.selects RX12 yX12_about yX12_about ∈ wAll := List.mem_filter.mpr ⟨tq8 (List.mem_of_getElem? (i := 151) (by decide +kernel)), rfl⟩
theorem q1999 : Cond.code yX12_about cX12_about 2 (some .int) ∈ wAll := List.mem_filter.mpr ⟨tq8 (List.mem_of_getElem? (i := 152) (by decide +kernel)), rfl⟩
theorem q2000 : Cond.fieldLink RJ0 9 "java/lang/String" "value" "[B" ∈ wAll := List.mem_filter.mpr ⟨tq8 (List.mem_of_getElem? (i := 153) (by decide +kernel)), rfl⟩
theorem q2001 : Cond.fieldLink RJ0 15 "java/lang/String" "coder" "B" ∈ wAll := List.mem_filter.mpr ⟨tq8 (List.mem_of_getElem? (i := 154) (by decide +kernel)), rfl⟩
theorem okX11_feed : gYV yX11_feed cX11_feed 6 (some .int) 5 := ⟨q574, q575, q576, q168, ⟨by decide +kernel, by decide +kernel, by decide +kernel⟩, by decide⟩
theorem okX11_end : gYV yX11_end cX11_end 2 (some .int) 1 := ⟨q582, q583, q584, q168, ⟨by decide +kernel, by decide +kernel, by decide +kernel⟩, by decide⟩
theorem okX11_text : gYV yX11_text cX11_text 2 (some .int) 0 := ⟨q586, q587, q588, q168, ⟨by decide +kernel, by decide +kernel, by decide +kernel⟩, by decide⟩
theorem okX11_fault : gYV yX11_fault cX11_fault 2 (some .int) 1 := ⟨q754, q755, q756, q168, ⟨by decide +kernel, by decide +kernel, by decide +kernel⟩, by decide⟩
theorem okX11_read : gYV yX11_read cX11_read 3 (some .int) 2 := ⟨q758, q759, q760, q168, ⟨by decide +kernel, by decide +kernel, by decide +kernel⟩, by decide⟩
theorem okX11_write : gYV yX11_write cX11_write 4 (some .int) 3 := ⟨q827, q828, q829, q168, ⟨by decide +kernel, by decide +kernel, by decide +kernel⟩, by decide⟩
theorem okX11_scan : gYV yX11_scan cX11_scan 4 (some .int) 2 := ⟨q843, q844, q845, q168, ⟨by decide +kernel, by decide +kernel, by decide +kernel⟩, by decide⟩
theorem okX11_pin : gYV yX11_pin cX11_pin 3 (some .boolean) 2 := ⟨q853, q854, q855, q168, ⟨by decide +kernel, by decide +kernel, by decide +kernel⟩, by decide⟩
theorem okX11_tell : gYV yX11_tell cX11_tell 3 (some .boolean) 2 := ⟨q865, q866, q867, q168, ⟨by decide +kernel, by decide +kernel, by decide +kernel⟩, by decide⟩
theorem okX11_ask : gYV yX11_ask cX11_ask 2 (some .int) 1 := ⟨q872, q873, q874, q168, ⟨by decide +kernel, by decide +kernel, by decide +kernel⟩, by decide⟩
theorem okX11_drop : gYV yX11_drop cX11_drop 3 (some .int) 1 := ⟨q881, q882, q883, q168, ⟨by decide +kernel, by decide +kernel, by decide +kernel⟩, by decide⟩
theorem okX11_day : gYV yX11_day cX11_day 2 (some .int) 1 := ⟨q904, q905, q906, q168, ⟨by decide +kernel, by decide +kernel, by decide +kernel⟩, by decide⟩
theorem okX11_crash : gYV yX11_crash cX11_crash 1 (some .int) 0 := ⟨q1018, q1019, q1020, q168, ⟨by decide +kernel, by decide +kernel, by decide +kernel⟩, by decide⟩
theorem okX11_played : gYV yX11_played cX11_played 3 (some .int) 1 := ⟨q1031, q1032, q1033, q168, ⟨by decide +kernel, by decide +kernel, by decide +kernel⟩, by decide⟩
theorem okX11_years : gYV yX11_years cX11_years 3 (some .int) 2 := ⟨q1098, q1099, q1100, q168, ⟨by decide +kernel, by decide +kernel, by decide +kernel⟩, by decide⟩
theorem okX11_undo : gYV yX11_undo cX11_undo 1 (some .int) 0 := ⟨q1113, q1114, q1115, q168, ⟨by decide +kernel, by decide +kernel, by decide +kernel⟩, by decide⟩
theorem okX11_is : gYV yX11_is cX11_is 2 (some .int) 1 := ⟨q1121, q1122, q1123, q168, ⟨by decide +kernel, by decide +kernel, by decide +kernel⟩, by decide⟩
theorem okX11_where : gYV yX11_where cX11_where 2 (some .int) 1 := ⟨q1125, q1126, q1127, q168, ⟨by decide +kernel, by decide +kernel, by decide +kernel⟩, by decide⟩
theorem okX11_slot : gYV yX11_slot cX11_slot 3 (some .int) 2 := ⟨q1129, q1130, q1131, q168, ⟨by decide +kernel, by decide +kernel, by decide +kernel⟩, by decide⟩
theorem okX11_on : gYV yX11_on cX11_on 3 (some .int) 2 := ⟨q1134, q1135, q1136, q168, ⟨by decide +kernel, by decide +kernel, by decide +kernel⟩, by decide⟩
theorem okX11_holder : gYV yX11_holder cX11_holder 2 (some .int) 1 := ⟨q1138, q1139, q1140, q168, ⟨by decide +kernel, by decide +kernel, by decide +kernel⟩, by decide⟩
theorem okX11_free : gYV yX11_free cX11_free 2 (some .int) 1 := ⟨q1142, q1143, q1144, q168, ⟨by decide +kernel, by decide +kernel, by decide +kernel⟩, by decide⟩
theorem okX11_position : gYV yX11_position cX11_position 3 (some .int) 2 := ⟨q1150, q1151, q1152, q168, ⟨by decide +kernel, by decide +kernel, by decide +kernel⟩, by decide⟩
theorem okX11_heat : gYV yX11_heat cX11_heat 2 (some .int) 1 := ⟨q1154, q1155, q1156, q168, ⟨by decide +kernel, by decide +kernel, by decide +kernel⟩, by decide⟩
theorem okX11_of : gYV yX11_of cX11_of 3 (some .int) 2 := ⟨q1158, q1159, q1160, q168, ⟨by decide +kernel, by decide +kernel, by decide +kernel⟩, by decide⟩
theorem okX11_head : gYV yX11_head cX11_head 3 (some .int) 2 := ⟨q1166, q1167, q1168, q168, ⟨by decide +kernel, by decide +kernel, by decide +kernel⟩, by decide⟩
theorem okX11_move : gYV yX11_move cX11_move 4 (some .int) 2 := ⟨q1174, q1175, q1176, q168, ⟨by decide +kernel, by decide +kernel, by decide +kernel⟩, by decide⟩
theorem okX11_moveOf : gYV yX11_moveOf cX11_moveOf 2 (some .int) 1 := ⟨q1183, q1184, q1185, q168, ⟨by decide +kernel, by decide +kernel, by decide +kernel⟩, by decide⟩
theorem okX11_plan : gYV yX11_plan cX11_plan 1 (some .int) 0 := ⟨q1187, q1188, q1189, q168, ⟨by decide +kernel, by decide +kernel, by decide +kernel⟩, by decide⟩
theorem okX11_worth : gYV yX11_worth cX11_worth 2 (some .int) 1 := ⟨q1192, q1193, q1194, q168, ⟨by decide +kernel, by decide +kernel, by decide +kernel⟩, by decide⟩
theorem okX11_value : gYV yX11_value cX11_value 2 (some .int) 1 := ⟨q1197, q1198, q1199, q168, ⟨by decide +kernel, by decide +kernel, by decide +kernel⟩, by decide⟩
theorem okX11_needs : gYV yX11_needs cX11_needs 2 (some .int) 1 := ⟨q1214, q1215, q1216, q168, ⟨by decide +kernel, by decide +kernel, by decide +kernel⟩, by decide⟩
theorem okX11_threshold : gYV yX11_threshold cX11_threshold 2 (some .int) 1 := ⟨q1219, q1220, q1221, q168, ⟨by decide +kernel, by decide +kernel, by decide +kernel⟩, by decide⟩
theorem okX11_displaced : gYV yX11_displaced cX11_displaced 3 (some .int) 1 := ⟨q1234, q1235, q1236, q168, ⟨by decide +kernel, by decide +kernel, by decide +kernel⟩, by decide⟩
theorem okX11_may : gYV yX11_may cX11_may 3 (some .boolean) 2 := ⟨q1238, q1239, q1240, q168, ⟨by decide +kernel, by decide +kernel, by decide +kernel⟩, by decide⟩
theorem okX11_next : gYV yX11_next cX11_next 2 (some .int) 1 := ⟨q1244, q1245, q1246, q168, ⟨by decide +kernel, by decide +kernel, by decide +kernel⟩, by decide⟩
theorem okX11_enough : gYV yX11_enough cX11_enough 3 (some .int) 0 := ⟨q1249, q1250, q1251, q168, ⟨by decide +kernel, by decide +kernel, by decide +kernel⟩, by decide⟩
theorem okX11_gained : gYV yX11_gained cX11_gained 2 (some .int) 1 := ⟨q1253, q1254, q1255, q168, ⟨by decide +kernel, by decide +kernel, by decide +kernel⟩, by decide⟩
theorem okX11_foretold : gYV yX11_foretold cX11_foretold 3 (some .int) 2 := ⟨q1257, q1258, q1259, q168, ⟨by decide +kernel, by decide +kernel, by decide +kernel⟩, by decide⟩
theorem okX11_copies : gYV yX11_copies cX11_copies 2 (some .int) 1 := ⟨q1262, q1263, q1264, q168, ⟨by decide +kernel, by decide +kernel, by decide +kernel⟩, by decide⟩
theorem okX11_would : gYV yX11_would cX11_would 3 (some .int) 1 := ⟨q1266, q1267, q1268, q168, ⟨by decide +kernel, by decide +kernel, by decide +kernel⟩, by decide⟩
theorem okX11_cheapest : gYV yX11_cheapest cX11_cheapest 5 (some .int) 0 := ⟨q1270, q1271, q1272, q168, ⟨by decide +kernel, by decide +kernel, by decide +kernel⟩, by decide⟩
theorem okX11_rank : gYV yX11_rank cX11_rank 3 (some .int) 1 := ⟨q1274, q1275, q1276, q168, ⟨by decide +kernel, by decide +kernel, by decide +kernel⟩, by decide⟩
theorem okX11_coldest : gYV yX11_coldest cX11_coldest 4 (some .int) 1 := ⟨q1283, q1284, q1285, q168, ⟨by decide +kernel, by decide +kernel, by decide +kernel⟩, by decide⟩
theorem okX11_warmth : gYV yX11_warmth cX11_warmth 4 (some .int) 1 := ⟨q1288, q1289, q1290, q168, ⟨by decide +kernel, by decide +kernel, by decide +kernel⟩, by decide⟩
theorem okX11_cools : gYV yX11_cools cX11_cools 2 (some .int) 1 := ⟨q1292, q1293, q1294, q168, ⟨by decide +kernel, by decide +kernel, by decide +kernel⟩, by decide⟩
theorem okX11_share : gYV yX11_share cX11_share 3 (some .int) 0 := ⟨q1300, q1301, q1302, q168, ⟨by decide +kernel, by decide +kernel, by decide +kernel⟩, by decide⟩
theorem okX11_mean : gYV yX11_mean cX11_mean 2 (some .long) 0 := ⟨q1308, q1309, q1310, q168, ⟨by decide +kernel, by decide +kernel, by decide +kernel⟩, by decide⟩
theorem okX11_book : gYV yX11_book cX11_book 3 (some .int) 2 := ⟨q1312, q1313, q1314, q168, ⟨by decide +kernel, by decide +kernel, by decide +kernel⟩, by decide⟩
theorem okX11_ledger : gYV yX11_ledger cX11_ledger 2 (some .int) 1 := ⟨q1320, q1321, q1322, q168, ⟨by decide +kernel, by decide +kernel, by decide +kernel⟩, by decide⟩
theorem okX11_image : gYV yX11_image cX11_image 1 (some .int) 0 := ⟨q1328, q1329, q1330, q168, ⟨by decide +kernel, by decide +kernel, by decide +kernel⟩, by decide⟩
theorem okX11_back : gYV yX11_back cX11_back 1 (some .int) 0 := ⟨q1336, q1337, q1338, q168, ⟨by decide +kernel, by decide +kernel, by decide +kernel⟩, by decide⟩
theorem okX11_about : gYV yX11_about cX11_about 2 (some .int) 1 := ⟨q1340, q1341, q1342, q168, ⟨by decide +kernel, by decide +kernel, by decide +kernel⟩, by decide⟩
theorem okX11_isExtent : gYS yX11_isExtent cX11_isExtent 1 (some .boolean) 1 := ⟨q765, q766, q168, ⟨by decide +kernel, by decide +kernel, by decide +kernel⟩, by decide⟩
theorem okX11_isBlock : gYS yX11_isBlock cX11_isBlock 2 (some .boolean) 2 := ⟨q762, q763, q168, ⟨by decide +kernel, by decide +kernel, by decide +kernel⟩, by decide⟩
theorem okX11_isDays : gYS yX11_isDays cX11_isDays 1 (some .boolean) 1 := ⟨q908, q909, q168, ⟨by decide +kernel, by decide +kernel, by decide +kernel⟩, by decide⟩
theorem okX11_mostTold : gYS yX11_mostTold cX11_mostTold 1 (some .int) 1 := ⟨q869, q870, q168, ⟨by decide +kernel, by decide +kernel, by decide +kernel⟩, by decide⟩
theorem okX11_bitsOf : gYS yX11_bitsOf cX11_bitsOf 9 (some .long) 3 := ⟨q1304, q1305, q168, ⟨by decide +kernel, by decide +kernel, by decide +kernel⟩, by decide⟩
theorem okX12_copy : gYS yX12_copy cX12_copy 3 none 2 := ⟨q1350, q1351, q179, ⟨by decide +kernel, by decide +kernel, by decide +kernel⟩, by decide⟩
theorem okX12_isIn : gYS yX12_isIn cX12_isIn 3 (some .boolean) 3 := ⟨q1447, q1448, q179, ⟨by decide +kernel, by decide +kernel, by decide +kernel⟩, by decide⟩
theorem okX12_isExtent : gYS yX12_isExtent cX12_isExtent 1 (some .boolean) 1 := ⟨q1534, q1535, q179, ⟨by decide +kernel, by decide +kernel, by decide +kernel⟩, by decide⟩
theorem okX12_has : gYS yX12_has cX12_has 2 (some .boolean) 2 := ⟨q1675, q1676, q179, ⟨by decide +kernel, by decide +kernel, by decide +kernel⟩, by decide⟩
theorem okX12_bitsOf : gYS yX12_bitsOf cX12_bitsOf 3 (some .int) 1 := ⟨q1706, q1707, q179, ⟨by decide +kernel, by decide +kernel, by decide +kernel⟩, by decide⟩
theorem okX12_sizeOf : gYS yX12_sizeOf cX12_sizeOf 1 (some .int) 1 := ⟨q1537, q1538, q179, ⟨by decide +kernel, by decide +kernel, by decide +kernel⟩, by decide⟩
theorem okX12_firstOf : gYS yX12_firstOf cX12_firstOf 1 (some .int) 1 := ⟨q1556, q1557, q179, ⟨by decide +kernel, by decide +kernel, by decide +kernel⟩, by decide⟩
theorem okX12_isBlock : gYS yX12_isBlock cX12_isBlock 2 (some .boolean) 2 := ⟨q1531, q1532, q179, ⟨by decide +kernel, by decide +kernel, by decide +kernel⟩, by decide⟩
theorem okX12_isFast : gYV yX12_isFast cX12_isFast 2 (some .boolean) 1 := ⟨q1553, q111, q1554, q179, ⟨by decide +kernel, by decide +kernel, by decide +kernel⟩, by decide⟩
theorem okX12_slotOf : gYV yX12_slotOf cX12_slotOf 3 (some .int) 2 := ⟨q1572, q115, q1573, q179, ⟨by decide +kernel, by decide +kernel, by decide +kernel⟩, by decide⟩
theorem okX12_four : gYV yX12_four cX12_four 3 none 1 := ⟨q1440, q94, q1441, q179, ⟨by decide +kernel, by decide +kernel, by decide +kernel⟩, by decide⟩
theorem okX12_feed : gYV yX12_feed cX12_feed 6 (some .int) 5 := ⟨q1435, q1436, q1437, q179, ⟨by decide +kernel, by decide +kernel, by decide +kernel⟩, by decide⟩
theorem okX12_end : gYV yX12_end cX12_end 2 (some .int) 1 := ⟨q1443, q1444, q1445, q179, ⟨by decide +kernel, by decide +kernel, by decide +kernel⟩, by decide⟩
theorem okX12_byteAt : gYV yX12_byteAt cX12_byteAt 2 (some .int) 1 := ⟨q1463, q97, q1464, q179, ⟨by decide +kernel, by decide +kernel, by decide +kernel⟩, by decide⟩
theorem okX12_isLetterByte : gYS yX12_isLetterByte cX12_isLetterByte 1 (some .boolean) 1 := ⟨q1470, q1471, q179, ⟨by decide +kernel, by decide +kernel, by decide +kernel⟩, by decide⟩
theorem okX12_isFigure : gYS yX12_isFigure cX12_isFigure 1 (some .boolean) 1 := ⟨q1466, q1467, q179, ⟨by decide +kernel, by decide +kernel, by decide +kernel⟩, by decide⟩
theorem okX12_isSign : gYS yX12_isSign cX12_isSign 1 (some .boolean) 1 := ⟨q1481, q1482, q179, ⟨by decide +kernel, by decide +kernel, by decide +kernel⟩, by decide⟩
theorem okX12_isWord : gYV yX12_isWord cX12_isWord 9 (some .boolean) 8 := ⟨q1478, q99, q1479, q179, ⟨by decide +kernel, by decide +kernel, by decide +kernel⟩, by decide⟩
theorem okX12_wordOf : gYV yX12_wordOf cX12_wordOf 3 (some .int) 2 := ⟨q1474, q98, q1475, q179, ⟨by decide +kernel, by decide +kernel, by decide +kernel⟩, by decide⟩
theorem okX12_nextToken : gYV yX12_nextToken cX12_nextToken 3 none 0 := ⟨q1459, q96, q1460, q179, ⟨by decide +kernel, by decide +kernel, by decide +kernel⟩, by decide⟩
theorem okX12_one : gYV yX12_one cX12_one 2 (some .int) 1 := ⟨q1501, q104, q1502, q179, ⟨by decide +kernel, by decide +kernel, by decide +kernel⟩, by decide⟩
theorem okX12_summed : gYV yX12_summed cX12_summed 3 (some .int) 1 := ⟨q1497, q103, q1498, q179, ⟨by decide +kernel, by decide +kernel, by decide +kernel⟩, by decide⟩
theorem okX12_sums : gYV yX12_sums cX12_sums 5 (some .int) 2 := ⟨q1493, q102, q1494, q179, ⟨by decide +kernel, by decide +kernel, by decide +kernel⟩, by decide⟩
theorem okX12_opened : gYV yX12_opened cX12_opened 2 (some .int) 1 := ⟨q1509, q106, q1510, q179, ⟨by decide +kernel, by decide +kernel, by decide +kernel⟩, by decide⟩
theorem okX12_closed : gYV yX12_closed cX12_closed 1 none 0 := ⟨q1485, q100, q1486, q179, ⟨by decide +kernel, by decide +kernel, by decide +kernel⟩, by decide⟩
theorem okX12_loopHead : gYV yX12_loopHead cX12_loopHead 1 (some .int) 0 := ⟨q1505, q105, q1506, q179, ⟨by decide +kernel, by decide +kernel, by decide +kernel⟩, by decide⟩
theorem okX12_choiceHead : gYV yX12_choiceHead cX12_choiceHead 2 (some .int) 0 := ⟨q1513, q107, q1514, q179, ⟨by decide +kernel, by decide +kernel, by decide +kernel⟩, by decide⟩
theorem okX12_statement : gYV yX12_statement cX12_statement 2 (some .int) 0 := ⟨q1489, q101, q1490, q179, ⟨by decide +kernel, by decide +kernel, by decide +kernel⟩, by decide⟩
theorem okX12_readText : gYV yX12_readText cX12_readText 2 (some .int) 0 := ⟨q1455, q95, q1456, q179, ⟨by decide +kernel, by decide +kernel, by decide +kernel⟩, by decide⟩
theorem okX12_text : gYV yX12_text cX12_text 1 (some .int) 0 := ⟨q1450, q1451, q1452, q179, ⟨by decide +kernel, by decide +kernel, by decide +kernel⟩, by decide⟩
theorem okX12_fault : gYV yX12_fault cX12_fault 2 (some .int) 1 := ⟨q1516, q1517, q1518, q179, ⟨by decide +kernel, by decide +kernel, by decide +kernel⟩, by decide⟩
theorem okX12_writeDown : gYV yX12_writeDown cX12_writeDown 5 none 3 := ⟨q1600, q119, q1601, q179, ⟨by decide +kernel, by decide +kernel, by decide +kernel⟩, by decide⟩
theorem okX12_headAt : gYV yX12_headAt cX12_headAt 3 (some .int) 1 := ⟨q1564, q113, q1565, q179, ⟨by decide +kernel, by decide +kernel, by decide +kernel⟩, by decide⟩
theorem okX12_outHead : gYV yX12_outHead cX12_outHead 3 none 1 := ⟨q1568, q114, q1569, q179, ⟨by decide +kernel, by decide +kernel, by decide +kernel⟩, by decide⟩
theorem okX12_headed : gYV yX12_headed cX12_headed 4 (some .int) 1 := ⟨q1560, q112, q1561, q179, ⟨by decide +kernel, by decide +kernel, by decide +kernel⟩, by decide⟩
theorem okX12_access : gYV yX12_access cX12_access 6 none 5 := ⟨q1549, q110, q1550, q179, ⟨by decide +kernel, by decide +kernel, by decide +kernel⟩, by decide⟩
theorem okX12_readNow : gYV yX12_readNow cX12_readNow 3 (some .int) 2 := ⟨q1545, q109, q1546, q179, ⟨by decide +kernel, by decide +kernel, by decide +kernel⟩, by decide⟩
theorem okX12_writeNow : gYV yX12_writeNow cX12_writeNow 5 (some .int) 3 := ⟨q1580, q116, q1581, q179, ⟨by decide +kernel, by decide +kernel, by decide +kernel⟩, by decide⟩
theorem okX12_moveAt : gYV yX12_moveAt cX12_moveAt 3 (some .int) 1 := ⟨q1584, q117, q1585, q179, ⟨by decide +kernel, by decide +kernel, by decide +kernel⟩, by decide⟩
theorem okX12_ofMove : gYV yX12_ofMove cX12_ofMove 3 (some .int) 2 := ⟨q1624, q122, q1625, q179, ⟨by decide +kernel, by decide +kernel, by decide +kernel⟩, by decide⟩
theorem okX12_addMove : gYV yX12_addMove cX12_addMove 3 none 1 := ⟨q1612, q120, q1613, q179, ⟨by decide +kernel, by decide +kernel, by decide +kernel⟩, by decide⟩
theorem okX12_outMove : gYV yX12_outMove cX12_outMove 3 none 1 := ⟨q1632, q124, q1633, q179, ⟨by decide +kernel, by decide +kernel, by decide +kernel⟩, by decide⟩
theorem okX12_freeSlots : gYV yX12_freeSlots cX12_freeSlots 3 none 1 := ⟨q1628, q123, q1629, q179, ⟨by decide +kernel, by decide +kernel, by decide +kernel⟩, by decide⟩
theorem okX12_holderOf : gYV yX12_holderOf cX12_holderOf 3 (some .int) 1 := ⟨q1664, q131, q1665, q179, ⟨by decide +kernel, by decide +kernel, by decide +kernel⟩, by decide⟩
theorem okX12_freeFrom : gYV yX12_freeFrom cX12_freeFrom 3 (some .int) 1 := ⟨q1660, q130, q1661, q179, ⟨by decide +kernel, by decide +kernel, by decide +kernel⟩, by decide⟩
theorem okX12_manyFree : gYV yX12_manyFree cX12_manyFree 3 (some .int) 0 := ⟨q1656, q129, q1657, q179, ⟨by decide +kernel, by decide +kernel, by decide +kernel⟩, by decide⟩
theorem okX12_dropMove : gYV yX12_dropMove cX12_dropMove 4 none 1 := ⟨q1620, q121, q1621, q179, ⟨by decide +kernel, by decide +kernel, by decide +kernel⟩, by decide⟩
theorem okX12_toCopy : gYV yX12_toCopy cX12_toCopy 3 (some .int) 1 := ⟨q1668, q132, q1669, q179, ⟨by decide +kernel, by decide +kernel, by decide +kernel⟩, by decide⟩
theorem okX12_isBegun : gYV yX12_isBegun cX12_isBegun 4 (some .boolean) 1 := ⟨q1652, q128, q1653, q179, ⟨by decide +kernel, by decide +kernel, by decide +kernel⟩, by decide⟩
theorem okX12_copyBlock : gYV yX12_copyBlock cX12_copyBlock 6 none 1 := ⟨q1672, q133, q1673, q179, ⟨by decide +kernel, by decide +kernel, by decide +kernel⟩, by decide⟩
theorem okX12_switchMove : gYV yX12_switchMove cX12_switchMove 4 none 1 := ⟨q1679, q134, q1680, q179, ⟨by decide +kernel, by decide +kernel, by decide +kernel⟩, by decide⟩
theorem okX12_goMoves : gYV yX12_goMoves cX12_goMoves 3 none 0 := ⟨q1648, q127, q1649, q179, ⟨by decide +kernel, by decide +kernel, by decide +kernel⟩, by decide⟩
theorem okX12_begunOf : gYV yX12_begunOf cX12_begunOf 3 (some .int) 1 := ⟨q1703, q140, q1704, q179, ⟨by decide +kernel, by decide +kernel, by decide +kernel⟩, by decide⟩
theorem okX12_copiedFor : gYV yX12_copiedFor cX12_copiedFor 3 (some .int) 2 := ⟨q1710, q141, q1711, q179, ⟨by decide +kernel, by decide +kernel, by decide +kernel⟩, by decide⟩
theorem okX12_mayBe : gYV yX12_mayBe cX12_mayBe 4 (some .boolean) 2 := ⟨q1699, q139, q1700, q179, ⟨by decide +kernel, by decide +kernel, by decide +kernel⟩, by decide⟩
theorem okX12_isAllowed : gYV yX12_isAllowed cX12_isAllowed 7 (some .boolean) 2 := ⟨q1695, q138, q1696, q179, ⟨by decide +kernel, by decide +kernel, by decide +kernel⟩, by decide⟩
theorem okX12_worthOf : gYV yX12_worthOf cX12_worthOf 4 (some .int) 1 := ⟨q1714, q142, q1715, q179, ⟨by decide +kernel, by decide +kernel, by decide +kernel⟩, by decide⟩
theorem okX12_bestSet : gYV yX12_bestSet cX12_bestSet 4 (some .int) 1 := ⟨q1691, q137, q1692, q179, ⟨by decide +kernel, by decide +kernel, by decide +kernel⟩, by decide⟩
theorem okX12_layNew : gYV yX12_layNew cX12_layNew 6 (some .int) 1 := ⟨q1720, q143, q1721, q179, ⟨by decide +kernel, by decide +kernel, by decide +kernel⟩, by decide⟩
theorem okX12_makePlan : gYV yX12_makePlan cX12_makePlan 5 none 0 := ⟨q1687, q136, q1688, q179, ⟨by decide +kernel, by decide +kernel, by decide +kernel⟩, by decide⟩
theorem okX12_endEpoch : gYV yX12_endEpoch cX12_endEpoch 2 none 0 := ⟨q1683, q135, q1684, q179, ⟨by decide +kernel, by decide +kernel, by decide +kernel⟩, by decide⟩
theorem okX12_tick : gYV yX12_tick cX12_tick 1 none 0 := ⟨q1644, q126, q1645, q179, ⟨by decide +kernel, by decide +kernel, by decide +kernel⟩, by decide⟩
theorem okX12_crashNow : gYV yX12_crashNow cX12_crashNow 4 (some .int) 0 := ⟨q1728, q144, q1729, q179, ⟨by decide +kernel, by decide +kernel, by decide +kernel⟩, by decide⟩
theorem okX12_scanNow : gYV yX12_scanNow cX12_scanNow 6 (some .int) 2 := ⟨q1592, q118, q1593, q179, ⟨by decide +kernel, by decide +kernel, by decide +kernel⟩, by decide⟩
theorem okX12_ticks : gYV yX12_ticks cX12_ticks 3 none 1 := ⟨q1640, q125, q1641, q179, ⟨by decide +kernel, by decide +kernel, by decide +kernel⟩, by decide⟩
theorem okX12_drawn : gYV yX12_drawn cX12_drawn 2 (some .int) 0 := ⟨q1796, q159, q1797, q179, ⟨by decide +kernel, by decide +kernel, by decide +kernel⟩, by decide⟩
theorem okX12_happens : gYV yX12_happens cX12_happens 3 none 1 := ⟨q1803, q160, q1804, q179, ⟨by decide +kernel, by decide +kernel, by decide +kernel⟩, by decide⟩
theorem okX12_tokenAt : gYV yX12_tokenAt cX12_tokenAt 2 (some .int) 1 := ⟨q1740, q146, q1741, q179, ⟨by decide +kernel, by decide +kernel, by decide +kernel⟩, by decide⟩
theorem okX12_numberAt : gYV yX12_numberAt cX12_numberAt 2 (some .int) 1 := ⟨q1756, q150, q1757, q179, ⟨by decide +kernel, by decide +kernel, by decide +kernel⟩, by decide⟩
theorem okX12_goOne : gYV yX12_goOne cX12_goOne 2 (some .int) 0 := ⟨q1776, q155, q1777, q179, ⟨by decide +kernel, by decide +kernel, by decide +kernel⟩, by decide⟩
theorem okX12_goProduct : gYV yX12_goProduct cX12_goProduct 2 (some .int) 0 := ⟨q1772, q154, q1773, q179, ⟨by decide +kernel, by decide +kernel, by decide +kernel⟩, by decide⟩
theorem okX12_goSum : gYV yX12_goSum cX12_goSum 2 (some .int) 0 := ⟨q1768, q153, q1769, q179, ⟨by decide +kernel, by decide +kernel, by decide +kernel⟩, by decide⟩
theorem okX12_isOver : gYV yX12_isOver cX12_isOver 1 (some .boolean) 0 := ⟨q1744, q147, q1745, q179, ⟨by decide +kernel, by decide +kernel, by decide +kernel⟩, by decide⟩
theorem okX12_goScan : gYV yX12_goScan cX12_goScan 5 none 2 := ⟨q1788, q158, q1789, q179, ⟨by decide +kernel, by decide +kernel, by decide +kernel⟩, by decide⟩
theorem okX12_passBlock : gYV yX12_passBlock cX12_passBlock 3 none 0 := ⟨q1780, q156, q1781, q179, ⟨by decide +kernel, by decide +kernel, by decide +kernel⟩, by decide⟩
theorem okX12_goInto : gYV yX12_goInto cX12_goInto 2 none 1 := ⟨q1760, q151, q1761, q179, ⟨by decide +kernel, by decide +kernel, by decide +kernel⟩, by decide⟩
theorem okX12_goAround : gYV yX12_goAround cX12_goAround 2 none 0 := ⟨q1752, q149, q1753, q179, ⟨by decide +kernel, by decide +kernel, by decide +kernel⟩, by decide⟩
theorem okX12_goChoice : gYV yX12_goChoice cX12_goChoice 4 none 0 := ⟨q1764, q152, q1765, q179, ⟨by decide +kernel, by decide +kernel, by decide +kernel⟩, by decide⟩
theorem okX12_goAct : gYV yX12_goAct cX12_goAct 4 none 1 := ⟨q1784, q157, q1785, q179, ⟨by decide +kernel, by decide +kernel, by decide +kernel⟩, by decide⟩
theorem okX12_goStatement : gYV yX12_goStatement cX12_goStatement 3 none 0 := ⟨q1748, q148, q1749, q179, ⟨by decide +kernel, by decide +kernel, by decide +kernel⟩, by decide⟩
theorem okX12_goText : gYV yX12_goText cX12_goText 2 (some .int) 1 := ⟨q1736, q145, q1737, q179, ⟨by decide +kernel, by decide +kernel, by decide +kernel⟩, by decide⟩
theorem okX12_putAside : gYV yX12_putAside cX12_putAside 2 none 0 := ⟨q1913, q164, q1914, q179, ⟨by decide +kernel, by decide +kernel, by decide +kernel⟩, by decide⟩
theorem okX12_bringBack : gYV yX12_bringBack cX12_bringBack 2 none 0 := ⟨q1917, q165, q1918, q179, ⟨by decide +kernel, by decide +kernel, by decide +kernel⟩, by decide⟩
theorem okX12_stepAt : gYS yX12_stepAt cX12_stepAt 2 (some .int) 2 := ⟨q1524, q1525, q179, ⟨by decide +kernel, by decide +kernel, by decide +kernel⟩, by decide⟩
theorem okX12_keep : gYV yX12_keep cX12_keep 3 none 0 := ⟨q1541, q108, q1542, q179, ⟨by decide +kernel, by decide +kernel, by decide +kernel⟩, by decide⟩
theorem okX12_undo : gYV yX12_undo cX12_undo 3 (some .int) 0 := ⟨q1520, q1521, q1522, q179, ⟨by decide +kernel, by decide +kernel, by decide +kernel⟩, by decide⟩
theorem okX12_read : gYV yX12_read cX12_read 3 (some .int) 2 := ⟨q1527, q1528, q1529, q179, ⟨by decide +kernel, by decide +kernel, by decide +kernel⟩, by decide⟩
theorem okX12_write : gYV yX12_write cX12_write 4 (some .int) 3 := ⟨q1575, q1576, q1577, q179, ⟨by decide +kernel, by decide +kernel, by decide +kernel⟩, by decide⟩
theorem okX12_scan : gYV yX12_scan cX12_scan 3 (some .int) 2 := ⟨q1587, q1588, q1589, q179, ⟨by decide +kernel, by decide +kernel, by decide +kernel⟩, by decide⟩
theorem okX12_pin : gYV yX12_pin cX12_pin 3 (some .boolean) 2 := ⟨q1595, q1596, q1597, q179, ⟨by decide +kernel, by decide +kernel, by decide +kernel⟩, by decide⟩
theorem okX12_tell : gYV yX12_tell cX12_tell 3 (some .boolean) 2 := ⟨q1603, q1604, q1605, q179, ⟨by decide +kernel, by decide +kernel, by decide +kernel⟩, by decide⟩
theorem okX12_ask : gYV yX12_ask cX12_ask 2 (some .int) 1 := ⟨q1607, q1608, q1609, q179, ⟨by decide +kernel, by decide +kernel, by decide +kernel⟩, by decide⟩
theorem okX12_drop : gYV yX12_drop cX12_drop 2 (some .int) 1 := ⟨q1615, q1616, q1617, q179, ⟨by decide +kernel, by decide +kernel, by decide +kernel⟩, by decide⟩
theorem okX12_day : gYV yX12_day cX12_day 2 (some .int) 1 := ⟨q1635, q1636, q1637, q179, ⟨by decide +kernel, by decide +kernel, by decide +kernel⟩, by decide⟩
theorem okX12_crash : gYV yX12_crash cX12_crash 1 (some .int) 0 := ⟨q1723, q1724, q1725, q179, ⟨by decide +kernel, by decide +kernel, by decide +kernel⟩, by decide⟩
theorem okX12_played : gYV yX12_played cX12_played 2 (some .int) 1 := ⟨q1731, q1732, q1733, q179, ⟨by decide +kernel, by decide +kernel, by decide +kernel⟩, by decide⟩
theorem okX12_years : gYV yX12_years cX12_years 4 (some .int) 2 := ⟨q1791, q1792, q1793, q179, ⟨by decide +kernel, by decide +kernel, by decide +kernel⟩, by decide⟩
theorem okX12_is : gYV yX12_is cX12_is 2 (some .int) 1 := ⟨q1806, q1807, q1808, q179, ⟨by decide +kernel, by decide +kernel, by decide +kernel⟩, by decide⟩
theorem okX12_where : gYV yX12_where cX12_where 2 (some .int) 1 := ⟨q1810, q1811, q1812, q179, ⟨by decide +kernel, by decide +kernel, by decide +kernel⟩, by decide⟩
theorem okX12_slot : gYV yX12_slot cX12_slot 3 (some .int) 2 := ⟨q1814, q1815, q1816, q179, ⟨by decide +kernel, by decide +kernel, by decide +kernel⟩, by decide⟩
theorem okX12_on : gYV yX12_on cX12_on 3 (some .int) 2 := ⟨q1818, q1819, q1820, q179, ⟨by decide +kernel, by decide +kernel, by decide +kernel⟩, by decide⟩
theorem okX12_holder : gYV yX12_holder cX12_holder 2 (some .int) 1 := ⟨q1822, q1823, q1824, q179, ⟨by decide +kernel, by decide +kernel, by decide +kernel⟩, by decide⟩
theorem okX12_free : gYV yX12_free cX12_free 2 (some .int) 1 := ⟨q1826, q1827, q1828, q179, ⟨by decide +kernel, by decide +kernel, by decide +kernel⟩, by decide⟩
theorem okX12_position : gYV yX12_position cX12_position 3 (some .int) 2 := ⟨q1830, q1831, q1832, q179, ⟨by decide +kernel, by decide +kernel, by decide +kernel⟩, by decide⟩
theorem okX12_heat : gYV yX12_heat cX12_heat 2 (some .int) 1 := ⟨q1834, q1835, q1836, q179, ⟨by decide +kernel, by decide +kernel, by decide +kernel⟩, by decide⟩
theorem okX12_of : gYV yX12_of cX12_of 3 (some .int) 2 := ⟨q1838, q1839, q1840, q179, ⟨by decide +kernel, by decide +kernel, by decide +kernel⟩, by decide⟩
theorem okX12_head : gYV yX12_head cX12_head 3 (some .int) 2 := ⟨q1842, q1843, q1844, q179, ⟨by decide +kernel, by decide +kernel, by decide +kernel⟩, by decide⟩
theorem okX12_move : gYV yX12_move cX12_move 3 (some .int) 2 := ⟨q1846, q1847, q1848, q179, ⟨by decide +kernel, by decide +kernel, by decide +kernel⟩, by decide⟩
theorem okX12_moveOf : gYV yX12_moveOf cX12_moveOf 2 (some .int) 1 := ⟨q1850, q1851, q1852, q179, ⟨by decide +kernel, by decide +kernel, by decide +kernel⟩, by decide⟩
theorem okX12_plan : gYV yX12_plan cX12_plan 1 (some .int) 0 := ⟨q1854, q1855, q1856, q179, ⟨by decide +kernel, by decide +kernel, by decide +kernel⟩, by decide⟩
theorem okX12_worth : gYV yX12_worth cX12_worth 2 (some .int) 1 := ⟨q1858, q1859, q1860, q179, ⟨by decide +kernel, by decide +kernel, by decide +kernel⟩, by decide⟩
theorem okX12_value : gYV yX12_value cX12_value 2 (some .int) 1 := ⟨q1863, q1864, q1865, q179, ⟨by decide +kernel, by decide +kernel, by decide +kernel⟩, by decide⟩
theorem okX12_may : gYV yX12_may cX12_may 4 (some .boolean) 2 := ⟨q1867, q1868, q1869, q179, ⟨by decide +kernel, by decide +kernel, by decide +kernel⟩, by decide⟩
theorem okX12_next : gYV yX12_next cX12_next 3 (some .int) 1 := ⟨q1871, q1872, q1873, q179, ⟨by decide +kernel, by decide +kernel, by decide +kernel⟩, by decide⟩
theorem okX12_enough : gYV yX12_enough cX12_enough 3 (some .int) 0 := ⟨q1875, q1876, q1877, q179, ⟨by decide +kernel, by decide +kernel, by decide +kernel⟩, by decide⟩
theorem okX12_needs : gYV yX12_needs cX12_needs 4 (some .int) 1 := ⟨q1879, q1880, q1881, q179, ⟨by decide +kernel, by decide +kernel, by decide +kernel⟩, by decide⟩
theorem okX12_shareOf : gYV yX12_shareOf cX12_shareOf 3 (some .int) 2 := ⟨q1892, q162, q1893, q179, ⟨by decide +kernel, by decide +kernel, by decide +kernel⟩, by decide⟩
theorem okX12_layBests : gYV yX12_layBests cX12_layBests 4 none 1 := ⟨q1888, q161, q1889, q179, ⟨by decide +kernel, by decide +kernel, by decide +kernel⟩, by decide⟩
theorem okX12_isInWith : gYV yX12_isInWith cX12_isInWith 4 (some .boolean) 2 := ⟨q1896, q163, q1897, q179, ⟨by decide +kernel, by decide +kernel, by decide +kernel⟩, by decide⟩
theorem okX12_threshold : gYV yX12_threshold cX12_threshold 3 (some .int) 1 := ⟨q1883, q1884, q1885, q179, ⟨by decide +kernel, by decide +kernel, by decide +kernel⟩, by decide⟩
theorem okX12_displaced : gYV yX12_displaced cX12_displaced 3 (some .int) 1 := ⟨q1899, q1900, q1901, q179, ⟨by decide +kernel, by decide +kernel, by decide +kernel⟩, by decide⟩
theorem okX12_gained : gYV yX12_gained cX12_gained 2 (some .int) 1 := ⟨q1904, q1905, q1906, q179, ⟨by decide +kernel, by decide +kernel, by decide +kernel⟩, by decide⟩
theorem okX12_foretold : gYV yX12_foretold cX12_foretold 4 (some .int) 2 := ⟨q1908, q1909, q1910, q179, ⟨by decide +kernel, by decide +kernel, by decide +kernel⟩, by decide⟩
theorem okX12_copies : gYV yX12_copies cX12_copies 4 (some .int) 1 := ⟨q1920, q1921, q1922, q179, ⟨by decide +kernel, by decide +kernel, by decide +kernel⟩, by decide⟩
theorem okX12_would : gYV yX12_would cX12_would 4 (some .int) 1 := ⟨q1924, q1925, q1926, q179, ⟨by decide +kernel, by decide +kernel, by decide +kernel⟩, by decide⟩
theorem okX12_cheapest : gYV yX12_cheapest cX12_cheapest 5 (some .int) 0 := ⟨q1928, q1929, q1930, q179, ⟨by decide +kernel, by decide +kernel, by decide +kernel⟩, by decide⟩
theorem okX12_isHotter : gYV yX12_isHotter cX12_isHotter 3 (some .boolean) 2 := ⟨q1938, q166, q1939, q179, ⟨by decide +kernel, by decide +kernel, by decide +kernel⟩, by decide⟩
theorem okX12_rank : gYV yX12_rank cX12_rank 5 (some .int) 1 := ⟨q1933, q1934, q1935, q179, ⟨by decide +kernel, by decide +kernel, by decide +kernel⟩, by decide⟩
theorem okX12_coldest : gYV yX12_coldest cX12_coldest 4 (some .int) 1 := ⟨q1941, q1942, q1943, q179, ⟨by decide +kernel, by decide +kernel, by decide +kernel⟩, by decide⟩
theorem okX12_warmth : gYV yX12_warmth cX12_warmth 4 (some .int) 1 := ⟨q1945, q1946, q1947, q179, ⟨by decide +kernel, by decide +kernel, by decide +kernel⟩, by decide⟩
theorem okX12_cools : gYV yX12_cools cX12_cools 4 (some .int) 1 := ⟨q1949, q1950, q1951, q179, ⟨by decide +kernel, by decide +kernel, by decide +kernel⟩, by decide⟩
theorem okX12_share : gYV yX12_share cX12_share 1 (some .int) 0 := ⟨q1953, q1954, q1955, q179, ⟨by decide +kernel, by decide +kernel, by decide +kernel⟩, by decide⟩
theorem okX12_mean : gYV yX12_mean cX12_mean 1 (some .long) 0 := ⟨q1967, q1968, q1969, q179, ⟨by decide +kernel, by decide +kernel, by decide +kernel⟩, by decide⟩
theorem okX12_book : gYV yX12_book cX12_book 3 (some .int) 2 := ⟨q1981, q1982, q1983, q179, ⟨by decide +kernel, by decide +kernel, by decide +kernel⟩, by decide⟩
theorem okX12_ledger : gYV yX12_ledger cX12_ledger 4 (some .int) 1 := ⟨q1985, q1986, q1987, q179, ⟨by decide +kernel, by decide +kernel, by decide +kernel⟩, by decide⟩
theorem okX12_image : gYV yX12_image cX12_image 1 (some .int) 0 := ⟨q1989, q1990, q1991, q179, ⟨by decide +kernel, by decide +kernel, by decide +kernel⟩, by decide⟩
theorem okX12_back : gYV yX12_back cX12_back 1 (some .int) 0 := ⟨q1993, q1994, q1995, q179, ⟨by decide +kernel, by decide +kernel, by decide +kernel⟩, by decide⟩
theorem okX12_about : gYV yX12_about cX12_about 2 (some .int) 1 := ⟨q1997, q1998, q1999, q179, ⟨by decide +kernel, by decide +kernel, by decide +kernel⟩, by decide⟩
theorem okX0_copyFrom : gYV yX0_copyFrom cX0_copyFrom 2 none 1 := ⟨q800, q26, q801, q174, ⟨by decide +kernel, by decide +kernel, by decide +kernel⟩, by decide⟩
theorem okX0_add : gYV yX0_add cX0_add 6 none 4 := ⟨q862, q37, q863, q174, ⟨by decide +kernel, by decide +kernel, by decide +kernel⟩, by decide⟩
theorem okX0_detail : gYV yX0_detail cX0_detail 3 (some .int) 2 := ⟨q1317, q91, q1318, q174, ⟨by decide +kernel, by decide +kernel, by decide +kernel⟩, by decide⟩
theorem okX0_linesOf : gYV yX0_linesOf cX0_linesOf 4 (some .int) 1 := ⟨q1325, q92, q1326, q174, ⟨by decide +kernel, by decide +kernel, by decide +kernel⟩, by decide⟩
theorem okX1_copyFrom : gYV yX1_copyFrom cX1_copyFrom 2 none 1 := ⟨q785, q23, q786, q171, ⟨by decide +kernel, by decide +kernel, by decide +kernel⟩, by decide⟩
theorem okX1_lowestFree : gYV yX1_lowestFree cX1_lowestFree 3 (some .int) 1 := ⟨q1147, q81, q1148, q171, ⟨by decide +kernel, by decide +kernel, by decide +kernel⟩, by decide⟩
theorem okX1_freeSlots : gYV yX1_freeSlots cX1_freeSlots 3 (some .int) 0 := ⟨q928, q47, q929, q171, ⟨by decide +kernel, by decide +kernel, by decide +kernel⟩, by decide⟩
theorem okX1_takeSlots : gYV yX1_takeSlots cX1_takeSlots 5 none 1 := ⟨q932, q48, q933, q171, ⟨by decide +kernel, by decide +kernel, by decide +kernel⟩, by decide⟩
theorem okX1_leaveSlots : gYV yX1_leaveSlots cX1_leaveSlots 4 none 1 := ⟨q894, q41, q895, q171, ⟨by decide +kernel, by decide +kernel, by decide +kernel⟩, by decide⟩
theorem okX1_fastAt : gYV yX1_fastAt cX1_fastAt 3 (some .int) 1 := ⟨q824, q31, q825, q171, ⟨by decide +kernel, by decide +kernel, by decide +kernel⟩, by decide⟩
theorem okX1_putFast : gYV yX1_putFast cX1_putFast 4 none 2 := ⟨q836, q33, q837, q171, ⟨by decide +kernel, by decide +kernel, by decide +kernel⟩, by decide⟩
theorem okX2_copyFrom : gYV yX2_copyFrom cX2_copyFrom 2 none 1 := ⟨q780, q22, q781, q170, ⟨by decide +kernel, by decide +kernel, by decide +kernel⟩, by decide⟩
theorem okX2_warm : gYV yX2_warm cX2_warm 3 none 2 := ⟨q819, q30, q820, q170, ⟨by decide +kernel, by decide +kernel, by decide +kernel⟩, by decide⟩
theorem okX2_age : gYV yX2_age cX2_age 2 none 0 := ⟨q1015, q61, q1016, q170, ⟨by decide +kernel, by decide +kernel, by decide +kernel⟩, by decide⟩
theorem okX2_forget : gYV yX2_forget cX2_forget 2 none 0 := ⟨q1027, q63, q1028, q170, ⟨by decide +kernel, by decide +kernel, by decide +kernel⟩, by decide⟩
theorem okX2_hotter : gYV yX2_hotter cX2_hotter 3 (some .boolean) 2 := ⟨q1010, q60, q1011, q170, ⟨by decide +kernel, by decide +kernel, by decide +kernel⟩, by decide⟩
theorem okX2_hotterThan : gYV yX2_hotterThan cX2_hotterThan 4 (some .int) 1 := ⟨q1279, q90, q1280, q170, ⟨by decide +kernel, by decide +kernel, by decide +kernel⟩, by decide⟩
theorem okX2_detail : gYV yX2_detail cX2_detail 3 (some .int) 2 := ⟨q1163, q82, q1164, q170, ⟨by decide +kernel, by decide +kernel, by decide +kernel⟩, by decide⟩
theorem okX2_allBlocks : gYS yX2_allBlocks cX2_allBlocks 1 (some .int) 1 := ⟨q943, q944, q170, ⟨by decide +kernel, by decide +kernel, by decide +kernel⟩, by decide⟩
theorem okX3_copyFrom : gYV yX3_copyFrom cX3_copyFrom 2 none 1 := ⟨q790, q24, q791, q172, ⟨by decide +kernel, by decide +kernel, by decide +kernel⟩, by decide⟩
theorem okX3_advance : gYV yX3_advance cX3_advance 5 (some .int) 1 := ⟨q815, q29, q816, q172, ⟨by decide +kernel, by decide +kernel, by decide +kernel⟩, by decide⟩
theorem okX3_detail : gYV yX3_detail cX3_detail 3 (some .int) 2 := ⟨q1171, q83, q1172, q172, ⟨by decide +kernel, by decide +kernel, by decide +kernel⟩, by decide⟩
theorem okX4_copyFrom : gYV yX4_copyFrom cX4_copyFrom 3 none 1 := ⟨q1333, q93, q1334, q175, ⟨by decide +kernel, by decide +kernel, by decide +kernel⟩, by decide⟩
theorem okX4_push : gYV yX4_push cX4_push 2 none 1 := ⟨q771, q20, q772, q175, ⟨by decide +kernel, by decide +kernel, by decide +kernel⟩, by decide⟩
theorem okX4_pop : gYV yX4_pop cX4_pop 2 (some .boolean) 1 := ⟨q1118, q80, q1119, q175, ⟨by decide +kernel, by decide +kernel, by decide +kernel⟩, by decide⟩
theorem okX5_copyFrom : gYV yX5_copyFrom cX5_copyFrom 2 none 1 := ⟨q795, q25, q796, q173, ⟨by decide +kernel, by decide +kernel, by decide +kernel⟩, by decide⟩
theorem okX5_find : gYV yX5_find cX5_find 3 (some .int) 1 := ⟨q840, q34, q841, q173, ⟨by decide +kernel, by decide +kernel, by decide +kernel⟩, by decide⟩
theorem okX5_add : gYV yX5_add cX5_add 3 none 2 := ⟨q878, q38, q879, q173, ⟨by decide +kernel, by decide +kernel, by decide +kernel⟩, by decide⟩
theorem okX5_remove : gYV yX5_remove cX5_remove 2 none 1 := ⟨q900, q42, q901, q173, ⟨by decide +kernel, by decide +kernel, by decide +kernel⟩, by decide⟩
theorem okX5_holdsSlots : gYV yX5_holdsSlots cX5_holdsSlots 2 (some .boolean) 1 := ⟨q890, q40, q891, q173, ⟨by decide +kernel, by decide +kernel, by decide +kernel⟩, by decide⟩
theorem okX5_detail : gYV yX5_detail cX5_detail 3 (some .int) 2 := ⟨q1180, q84, q1181, q173, ⟨by decide +kernel, by decide +kernel, by decide +kernel⟩, by decide⟩
theorem okX6_makeFor : gYV yX6_makeFor cX6_makeFor 3 none 2 := ⟨q965, q55, q966, q176, ⟨by decide +kernel, by decide +kernel, by decide +kernel⟩, by decide⟩
theorem okX6_weigh : gYV yX6_weigh cX6_weigh 7 none 2 := ⟨q969, q56, q970, q176, ⟨by decide +kernel, by decide +kernel, by decide +kernel⟩, by decide⟩
theorem okX6_bind : gYV yX6_bind cX6_bind 4 none 1 := ⟨q973, q57, q974, q176, ⟨by decide +kernel, by decide +kernel, by decide +kernel⟩, by decide⟩
theorem okX6_isWanted : gYS yX6_isWanted cX6_isWanted 2 (some .boolean) 2 := ⟨q976, q977, q176, ⟨by decide +kernel, by decide +kernel, by decide +kernel⟩, by decide⟩
theorem okX6_heatWorth : gYS yX6_heatWorth cX6_heatWorth 2 (some .int) 2 := ⟨q986, q987, q176, ⟨by decide +kernel, by decide +kernel, by decide +kernel⟩, by decide⟩
theorem okX6_pinWorth : gYS yX6_pinWorth cX6_pinWorth 1 (some .int) 1 := ⟨q989, q990, q176, ⟨by decide +kernel, by decide +kernel, by decide +kernel⟩, by decide⟩
theorem okX6_force : gYV yX6_force cX6_force 3 none 2 := ⟨q1228, q89, q1229, q176, ⟨by decide +kernel, by decide +kernel, by decide +kernel⟩, by decide⟩
theorem okX6_choose : gYV yX6_choose cX6_choose 1 (some .boolean) 0 := ⟨q995, q58, q996, q176, ⟨by decide +kernel, by decide +kernel, by decide +kernel⟩, by decide⟩
theorem okX6_search : gYS yX6_search cX6_search 8 none 6 := ⟨q999, q1000, q176, ⟨by decide +kernel, by decide +kernel, by decide +kernel⟩, by decide⟩
theorem okX6_isIn : gYS yX6_isIn cX6_isIn 2 (some .boolean) 2 := ⟨q1006, q1007, q176, ⟨by decide +kernel, by decide +kernel, by decide +kernel⟩, by decide⟩
theorem okX6_allows : gYV yX6_allows cX6_allows 5 (some .boolean) 1 := ⟨q1203, q85, q1204, q176, ⟨by decide +kernel, by decide +kernel, by decide +kernel⟩, by decide⟩
theorem okX6_needOf : gYV yX6_needOf cX6_needOf 4 (some .int) 1 := ⟨q1207, q86, q1208, q176, ⟨by decide +kernel, by decide +kernel, by decide +kernel⟩, by decide⟩
theorem okX6_worthOf : gYV yX6_worthOf cX6_worthOf 4 (some .int) 1 := ⟨q1211, q87, q1212, q176, ⟨by decide +kernel, by decide +kernel, by decide +kernel⟩, by decide⟩
theorem okX6_listMoves : gYV yX6_listMoves cX6_listMoves 5 none 1 := ⟨q1003, q59, q1004, q176, ⟨by decide +kernel, by decide +kernel, by decide +kernel⟩, by decide⟩
theorem okX6_leastHeat : gYV yX6_leastHeat cX6_leastHeat 9 (some .int) 2 := ⟨q1224, q88, q1225, q176, ⟨by decide +kernel, by decide +kernel, by decide +kernel⟩, by decide⟩
theorem okX6_leastHeatOfWorth : gYS yX6_leastHeatOfWorth cX6_leastHeatOfWorth 6 (some .int) 2 := ⟨q1231, q1232, q176, ⟨by decide +kernel, by decide +kernel, by decide +kernel⟩, by decide⟩
theorem okX7_play : gYV yX7_play cX7_play 5 (some .int) 3 := ⟨q1040, q65, q1041, q177, ⟨by decide +kernel, by decide +kernel, by decide +kernel⟩, by decide⟩
theorem okX7_statement : gYV yX7_statement cX7_statement 2 none 0 := ⟨q1045, q66, q1046, q177, ⟨by decide +kernel, by decide +kernel, by decide +kernel⟩, by decide⟩
theorem okX7_readOne : gYV yX7_readOne cX7_readOne 3 none 0 := ⟨q1053, q68, q1054, q177, ⟨by decide +kernel, by decide +kernel, by decide +kernel⟩, by decide⟩
theorem okX7_writeOne : gYV yX7_writeOne cX7_writeOne 3 none 0 := ⟨q1075, q73, q1076, q177, ⟨by decide +kernel, by decide +kernel, by decide +kernel⟩, by decide⟩
theorem okX7_scanSome : gYV yX7_scanSome cX7_scanSome 3 none 0 := ⟨q1080, q74, q1081, q177, ⟨by decide +kernel, by decide +kernel, by decide +kernel⟩, by decide⟩
theorem okX7_enter : gYV yX7_enter cX7_enter 2 none 1 := ⟨q1087, q75, q1088, q177, ⟨by decide +kernel, by decide +kernel, by decide +kernel⟩, by decide⟩
theorem okX7_enterIf : gYV yX7_enterIf cX7_enterIf 4 none 0 := ⟨q1091, q76, q1092, q177, ⟨by decide +kernel, by decide +kernel, by decide +kernel⟩, by decide⟩
theorem okX7_leave : gYV yX7_leave cX7_leave 2 none 0 := ⟨q1095, q77, q1096, q177, ⟨by decide +kernel, by decide +kernel, by decide +kernel⟩, by decide⟩
theorem okX7_sum : gYV yX7_sum cX7_sum 3 (some .int) 0 := ⟨q1057, q69, q1058, q177, ⟨by decide +kernel, by decide +kernel, by decide +kernel⟩, by decide⟩
theorem okX7_product : gYV yX7_product cX7_product 3 (some .int) 0 := ⟨q1061, q70, q1062, q177, ⟨by decide +kernel, by decide +kernel, by decide +kernel⟩, by decide⟩
theorem okX7_factor : gYV yX7_factor cX7_factor 2 (some .int) 0 := ⟨q1065, q71, q1066, q177, ⟨by decide +kernel, by decide +kernel, by decide +kernel⟩, by decide⟩
theorem okX8_append : gYV yX8_append cX8_append 3 none 1 := ⟨q579, q0, q580, q178, ⟨by decide +kernel, by decide +kernel, by decide +kernel⟩, by decide⟩
theorem okX8_listTokens : gYV yX8_listTokens cX8_listTokens 5 none 0 := ⟨q595, q2, q596, q178, ⟨by decide +kernel, by decide +kernel, by decide +kernel⟩, by decide⟩
theorem okX8_addToken : gYV yX8_addToken cX8_addToken 4 none 3 := ⟨q610, q5, q611, q178, ⟨by decide +kernel, by decide +kernel, by decide +kernel⟩, by decide⟩
theorem okX8_isLetter : gYS yX8_isLetter cX8_isLetter 1 (some .boolean) 1 := ⟨q598, q599, q178, ⟨by decide +kernel, by decide +kernel, by decide +kernel⟩, by decide⟩
theorem okX8_isDigit : gYS yX8_isDigit cX8_isDigit 1 (some .boolean) 1 := ⟨q676, q677, q178, ⟨by decide +kernel, by decide +kernel, by decide +kernel⟩, by decide⟩
theorem okX8_isSign : gYS yX8_isSign cX8_isSign 1 (some .boolean) 1 := ⟨q690, q691, q178, ⟨by decide +kernel, by decide +kernel, by decide +kernel⟩, by decide⟩
theorem okX8_behindLetters : gYV yX8_behindLetters cX8_behindLetters 3 (some .int) 1 := ⟨q602, q3, q603, q178, ⟨by decide +kernel, by decide +kernel, by decide +kernel⟩, by decide⟩
theorem okX8_behindDigits : gYV yX8_behindDigits cX8_behindDigits 3 (some .int) 1 := ⟨q680, q8, q681, q178, ⟨by decide +kernel, by decide +kernel, by decide +kernel⟩, by decide⟩
theorem okX8_numberFrom : gYV yX8_numberFrom cX8_numberFrom 5 (some .int) 2 := ⟨q684, q9, q685, q178, ⟨by decide +kernel, by decide +kernel, by decide +kernel⟩, by decide⟩
theorem okX8_addWord : gYV yX8_addWord cX8_addWord 4 none 2 := ⟨q606, q4, q607, q178, ⟨by decide +kernel, by decide +kernel, by decide +kernel⟩, by decide⟩
theorem okX8_wordKind : gYV yX8_wordKind cX8_wordKind 3 (some .int) 2 := ⟨q614, q6, q615, q178, ⟨by decide +kernel, by decide +kernel, by decide +kernel⟩, by decide⟩
theorem okX8_spells : gYV yX8_spells cX8_spells 5 (some .boolean) 3 := ⟨q619, q7, q620, q178, ⟨by decide +kernel, by decide +kernel, by decide +kernel⟩, by decide⟩
theorem okX8_blame : gYV yX8_blame cX8_blame 2 none 1 := ⟨q702, q12, q703, q178, ⟨by decide +kernel, by decide +kernel, by decide +kernel⟩, by decide⟩
theorem okX8_take : gYV yX8_take cX8_take 2 none 1 := ⟨q722, q17, q723, q178, ⟨by decide +kernel, by decide +kernel, by decide +kernel⟩, by decide⟩
theorem okX8_statement : gYV yX8_statement cX8_statement 2 none 0 := ⟨q698, q11, q699, q178, ⟨by decide +kernel, by decide +kernel, by decide +kernel⟩, by decide⟩
theorem okX8_behindWord : gYV yX8_behindWord cX8_behindWord 2 none 1 := ⟨q706, q13, q707, q178, ⟨by decide +kernel, by decide +kernel, by decide +kernel⟩, by decide⟩
theorem okX8_times : gYV yX8_times cX8_times 1 none 0 := ⟨q726, q18, q727, q178, ⟨by decide +kernel, by decide +kernel, by decide +kernel⟩, by decide⟩
theorem okX8_open : gYV yX8_open cX8_open 3 none 1 := ⟨q730, q19, q731, q178, ⟨by decide +kernel, by decide +kernel, by decide +kernel⟩, by decide⟩
theorem okX8_close : gYV yX8_close cX8_close 1 none 0 := ⟨q694, q10, q695, q178, ⟨by decide +kernel, by decide +kernel, by decide +kernel⟩, by decide⟩
theorem okX8_sums : gYV yX8_sums cX8_sums 3 none 1 := ⟨q710, q14, q711, q178, ⟨by decide +kernel, by decide +kernel, by decide +kernel⟩, by decide⟩
theorem okX8_sum : gYV yX8_sum cX8_sum 2 none 0 := ⟨q714, q15, q715, q178, ⟨by decide +kernel, by decide +kernel, by decide +kernel⟩, by decide⟩
theorem okX8_factor : gYV yX8_factor cX8_factor 1 none 0 := ⟨q718, q16, q719, q178, ⟨by decide +kernel, by decide +kernel, by decide +kernel⟩, by decide⟩
theorem okX9_kindAt : gYV yX9_kindAt cX9_kindAt 2 (some .int) 1 := ⟨q1049, q67, q1050, q185, ⟨by decide +kernel, by decide +kernel, by decide +kernel⟩, by decide⟩
theorem okX9_valueAt : gYV yX9_valueAt cX9_valueAt 2 (some .int) 1 := ⟨q1069, q72, q1070, q185, ⟨by decide +kernel, by decide +kernel, by decide +kernel⟩, by decide⟩
theorem okX10_copyFrom : gYV yX10_copyFrom cX10_copyFrom 2 none 1 := ⟨q775, q21, q776, q169, ⟨by decide +kernel, by decide +kernel, by decide +kernel⟩, by decide⟩
theorem okX10_writeDown : gYV yX10_writeDown cX10_writeDown 4 none 3 := ⟨q858, q36, q859, q169, ⟨by decide +kernel, by decide +kernel, by decide +kernel⟩, by decide⟩
theorem okX10_note : gYV yX10_note cX10_note 4 none 3 := ⟨q811, q28, q812, q169, ⟨by decide +kernel, by decide +kernel, by decide +kernel⟩, by decide⟩
theorem okX10_readBlock : gYV yX10_readBlock cX10_readBlock 4 (some .int) 2 := ⟨q805, q27, q806, q169, ⟨by decide +kernel, by decide +kernel, by decide +kernel⟩, by decide⟩
theorem okX10_writeBlock : gYV yX10_writeBlock cX10_writeBlock 6 none 3 := ⟨q832, q32, q833, q169, ⟨by decide +kernel, by decide +kernel, by decide +kernel⟩, by decide⟩
theorem okX10_readExtents : gYV yX10_readExtents cX10_readExtents 7 (some .int) 3 := ⟨q848, q35, q849, q169, ⟨by decide +kernel, by decide +kernel, by decide +kernel⟩, by decide⟩
theorem okX10_pass : gYV yX10_pass cX10_pass 4 none 2 := ⟨q912, q43, q913, q169, ⟨by decide +kernel, by decide +kernel, by decide +kernel⟩, by decide⟩
theorem okX10_tick : gYV yX10_tick cX10_tick 2 none 1 := ⟨q916, q44, q917, q169, ⟨by decide +kernel, by decide +kernel, by decide +kernel⟩, by decide⟩
theorem okX10_moveBlocks : gYV yX10_moveBlocks cX10_moveBlocks 3 none 0 := ⟨q920, q45, q921, q169, ⟨by decide +kernel, by decide +kernel, by decide +kernel⟩, by decide⟩
theorem okX10_begin : gYV yX10_begin cX10_begin 3 (some .boolean) 1 := ⟨q924, q46, q925, q169, ⟨by decide +kernel, by decide +kernel, by decide +kernel⟩, by decide⟩
theorem okX10_copyBlocks : gYV yX10_copyBlocks cX10_copyBlocks 7 (some .int) 2 := ⟨q936, q49, q937, q169, ⟨by decide +kernel, by decide +kernel, by decide +kernel⟩, by decide⟩
theorem okX10_copyBlock : gYV yX10_copyBlock cX10_copyBlock 5 none 3 := ⟨q948, q51, q949, q169, ⟨by decide +kernel, by decide +kernel, by decide +kernel⟩, by decide⟩
theorem okX10_blocksToCopy : gYV yX10_blocksToCopy cX10_blocksToCopy 3 (some .int) 1 := ⟨q940, q50, q941, q169, ⟨by decide +kernel, by decide +kernel, by decide +kernel⟩, by decide⟩
theorem okX10_switchWhole : gYV yX10_switchWhole cX10_switchWhole 3 none 0 := ⟨q952, q52, q953, q169, ⟨by decide +kernel, by decide +kernel, by decide +kernel⟩, by decide⟩
theorem okX10_switchOver : gYV yX10_switchOver cX10_switchOver 4 none 1 := ⟨q956, q53, q957, q169, ⟨by decide +kernel, by decide +kernel, by decide +kernel⟩, by decide⟩
theorem okX10_makePlan : gYV yX10_makePlan cX10_makePlan 5 none 1 := ⟨q960, q54, q961, q169, ⟨by decide +kernel, by decide +kernel, by decide +kernel⟩, by decide⟩
theorem okX10_dropMove : gYV yX10_dropMove cX10_dropMove 4 none 1 := ⟨q886, q39, q887, q169, ⟨by decide +kernel, by decide +kernel, by decide +kernel⟩, by decide⟩
theorem okX10_loseMemory : gYV yX10_loseMemory cX10_loseMemory 4 (some .int) 0 := ⟨q1023, q62, q1024, q169, ⟨by decide +kernel, by decide +kernel, by decide +kernel⟩, by decide⟩
theorem okX10_live : gYV yX10_live cX10_live 6 none 3 := ⟨q1103, q78, q1104, q169, ⟨by decide +kernel, by decide +kernel, by decide +kernel⟩, by decide⟩
theorem okX10_happen : gYV yX10_happen cX10_happen 7 none 2 := ⟨q1107, q79, q1108, q169, ⟨by decide +kernel, by decide +kernel, by decide +kernel⟩, by decide⟩
theorem okJxe99ae_doubleToLongBits_ccdee : gYS yJxe99ae_doubleToLongBits_ccdee cJxe99ae_doubleToLongBits_ccdee 2 (some .long) 1 := ⟨q1971, q1972, q189, ⟨by decide +kernel, by decide +kernel, by decide +kernel⟩, by decide⟩
theorem okJxe99ae_isNaN_b9ae7 : gYS yJxe99ae_isNaN_b9ae7 cJxe99ae_isNaN_b9ae7 2 (some .boolean) 1 := ⟨q1974, q1975, q189, ⟨by decide +kernel, by decide +kernel, by decide +kernel⟩, by decide⟩
theorem okJxf58ca_floatToIntBits_5c35a : gYS yJxf58ca_floatToIntBits_5c35a cJxf58ca_floatToIntBits_5c35a 1 (some .int) 1 := ⟨q1957, q1958, q188, ⟨by decide +kernel, by decide +kernel, by decide +kernel⟩, by decide⟩
theorem okJxf58ca_isNaN_12338 : gYS yJxf58ca_isNaN_12338 cJxf58ca_isNaN_12338 1 (some .boolean) 1 := ⟨q1960, q1961, q188, ⟨by decide +kernel, by decide +kernel, by decide +kernel⟩, by decide⟩
theorem okJ6_bitCount_0f7a4 : gYS yJ6_bitCount_0f7a4 cJ6_bitCount_0f7a4 1 (some .int) 1 := ⟨q979, q980, q187, ⟨by decide +kernel, by decide +kernel, by decide +kernel⟩, by decide⟩
theorem okJ6_numberOfLeadingZeros_0f7a4 : gYS yJ6_numberOfLeadingZeros_0f7a4 cJ6_numberOfLeadingZeros_0f7a4 2 (some .int) 1 := ⟨q1296, q1297, q187, ⟨by decide +kernel, by decide +kernel, by decide +kernel⟩, by decide⟩
theorem okJ9_min_7cf53 : gYS yJ9_min_7cf53 cJ9_min_7cf53 2 (some .int) 2 := ⟨q687, q688, q184, ⟨by decide +kernel, by decide +kernel, by decide +kernel⟩, by decide⟩
theorem okJ0_checkIndex_df160 : gYS yJ0_checkIndex_df160 cJ0_checkIndex_df160 2 none 2 := ⟨q643, q644, q180, ⟨by decide +kernel, by decide +kernel, by decide +kernel⟩, by decide⟩
theorem okJ0_isLatin1_aae02 : gYV yJ0_isLatin1_aae02 cJ0_isLatin1_aae02 1 (some .boolean) 0 := ⟨q636, q637, q638, q180, ⟨by decide +kernel, by decide +kernel, by decide +kernel⟩, by decide⟩
theorem okJ0_length_8abf5 : gYV yJ0_length_8abf5 cJ0_length_8abf5 1 (some .int) 0 := ⟨q622, q623, q624, q180, ⟨by decide +kernel, by decide +kernel, by decide +kernel⟩, by decide⟩
theorem okJ2_checkIndex_2214a : gYS yJ2_checkIndex_2214a cJ2_checkIndex_2214a 2 none 2 := ⟨q654, q655, q183, ⟨by decide +kernel, by decide +kernel, by decide +kernel⟩, by decide⟩
theorem okJ2_length_9d52b : gYS yJ2_length_9d52b cJ2_length_9d52b 1 (some .int) 1 := ⟨q657, q658, q183, ⟨by decide +kernel, by decide +kernel, by decide +kernel⟩, by decide⟩
