/-! the law: its loop (by wip/whole/genlaw.py) -/
theorem lv_L_101 : zLV RL 101 yX9_fault cX9_fault 3 (some .int) 1 := ⟨zin_35 _ (List.mem_of_getElem? (i := 10) rfl), zin_35 _ (List.mem_of_getElem? (i := 11) rfl), zin_35 _ (List.mem_of_getElem? (i := 12) rfl), zin_1 _ (List.mem_of_getElem? (i := 5) rfl), zin_35 _ (List.mem_of_getElem? (i := 13) rfl), ⟨by decide +kernel, by decide +kernel, by decide +kernel⟩⟩
theorem lv_L_102 : zLV RL 102 yX8_play cX8_play 1 (some .int) 0 := ⟨zin_36 _ (List.mem_of_getElem? (i := 14) rfl), zin_36 _ (List.mem_of_getElem? (i := 15) rfl), zin_36 _ (List.mem_of_getElem? (i := 16) rfl), zin_1 _ (List.mem_of_getElem? (i := 2) rfl), zin_36 _ (List.mem_of_getElem? (i := 17) rfl), ⟨by decide +kernel, by decide +kernel, by decide +kernel⟩⟩
theorem lv_L_105 : zLV RL 105 yX9_play cX9_play 2 (some .int) 0 := ⟨zin_36 _ (List.mem_of_getElem? (i := 21) rfl), zin_36 _ (List.mem_of_getElem? (i := 22) rfl), zin_36 _ (List.mem_of_getElem? (i := 23) rfl), zin_1 _ (List.mem_of_getElem? (i := 5) rfl), zin_37 _ (List.mem_of_getElem? (i := 0) rfl), ⟨by decide +kernel, by decide +kernel, by decide +kernel⟩⟩
theorem lv_L_13 : zLV RL 13 yX8_table cX8_table 3 (some .int) 2 := ⟨zin_5 _ (List.mem_of_getElem? (i := 6) rfl), zin_5 _ (List.mem_of_getElem? (i := 7) rfl), zin_5 _ (List.mem_of_getElem? (i := 8) rfl), zin_1 _ (List.mem_of_getElem? (i := 2) rfl), zin_5 _ (List.mem_of_getElem? (i := 9) rfl), ⟨by decide +kernel, by decide +kernel, by decide +kernel⟩⟩
theorem lv_L_17 : zLV RL 17 yX9_table cX9_table 3 (some .int) 2 := ⟨zin_14 _ (List.mem_of_getElem? (i := 20) rfl), zin_14 _ (List.mem_of_getElem? (i := 21) rfl), zin_14 _ (List.mem_of_getElem? (i := 22) rfl), zin_1 _ (List.mem_of_getElem? (i := 5) rfl), zin_14 _ (List.mem_of_getElem? (i := 23) rfl), ⟨by decide +kernel, by decide +kernel, by decide +kernel⟩⟩
theorem lv_L_18 : zLV RL 18 yX8_add cX8_add 3 (some .int) 2 := ⟨zin_16 _ (List.mem_of_getElem? (i := 8) rfl), zin_16 _ (List.mem_of_getElem? (i := 9) rfl), zin_16 _ (List.mem_of_getElem? (i := 10) rfl), zin_1 _ (List.mem_of_getElem? (i := 2) rfl), zin_16 _ (List.mem_of_getElem? (i := 11) rfl), ⟨by decide +kernel, by decide +kernel, by decide +kernel⟩⟩
theorem lv_L_21 : zLV RL 21 yX9_add cX9_add 3 (some .int) 2 := ⟨zin_16 _ (List.mem_of_getElem? (i := 12) rfl), zin_16 _ (List.mem_of_getElem? (i := 13) rfl), zin_16 _ (List.mem_of_getElem? (i := 14) rfl), zin_1 _ (List.mem_of_getElem? (i := 5) rfl), zin_16 _ (List.mem_of_getElem? (i := 15) rfl), ⟨by decide +kernel, by decide +kernel, by decide +kernel⟩⟩
theorem lv_L_22 : zLV RL 22 yX8_addRow cX8_addRow 5 (some .int) 4 := ⟨zin_19 _ (List.mem_of_getElem? (i := 12) rfl), zin_19 _ (List.mem_of_getElem? (i := 13) rfl), zin_19 _ (List.mem_of_getElem? (i := 14) rfl), zin_1 _ (List.mem_of_getElem? (i := 2) rfl), zin_19 _ (List.mem_of_getElem? (i := 15) rfl), ⟨by decide +kernel, by decide +kernel, by decide +kernel⟩⟩
theorem lv_L_26 : zLV RL 26 yX9_addRow cX9_addRow 5 (some .int) 4 := ⟨zin_19 _ (List.mem_of_getElem? (i := 20) rfl), zin_19 _ (List.mem_of_getElem? (i := 21) rfl), zin_19 _ (List.mem_of_getElem? (i := 22) rfl), zin_1 _ (List.mem_of_getElem? (i := 5) rfl), zin_19 _ (List.mem_of_getElem? (i := 23) rfl), ⟨by decide +kernel, by decide +kernel, by decide +kernel⟩⟩
theorem lv_L_27 : zLV RL 27 yX8_merge cX8_merge 3 (some .int) 2 := ⟨zin_20 _ (List.mem_of_getElem? (i := 0) rfl), zin_20 _ (List.mem_of_getElem? (i := 1) rfl), zin_20 _ (List.mem_of_getElem? (i := 2) rfl), zin_1 _ (List.mem_of_getElem? (i := 2) rfl), zin_20 _ (List.mem_of_getElem? (i := 3) rfl), ⟨by decide +kernel, by decide +kernel, by decide +kernel⟩⟩
theorem lv_L_30 : zLV RL 30 yX9_merge cX9_merge 3 (some .int) 2 := ⟨zin_20 _ (List.mem_of_getElem? (i := 4) rfl), zin_20 _ (List.mem_of_getElem? (i := 5) rfl), zin_20 _ (List.mem_of_getElem? (i := 6) rfl), zin_1 _ (List.mem_of_getElem? (i := 5) rfl), zin_20 _ (List.mem_of_getElem? (i := 7) rfl), ⟨by decide +kernel, by decide +kernel, by decide +kernel⟩⟩
theorem lv_L_31 : zLV RL 31 yX8_reset cX8_reset 2 (some .int) 1 := ⟨zin_20 _ (List.mem_of_getElem? (i := 19) rfl), zin_20 _ (List.mem_of_getElem? (i := 20) rfl), zin_20 _ (List.mem_of_getElem? (i := 21) rfl), zin_1 _ (List.mem_of_getElem? (i := 2) rfl), zin_20 _ (List.mem_of_getElem? (i := 22) rfl), ⟨by decide +kernel, by decide +kernel, by decide +kernel⟩⟩
theorem lv_L_35 : zLV RL 35 yX9_reset cX9_reset 2 (some .int) 1 := ⟨zin_20 _ (List.mem_of_getElem? (i := 23) rfl), zin_21 _ (List.mem_of_getElem? (i := 0) rfl), zin_21 _ (List.mem_of_getElem? (i := 1) rfl), zin_1 _ (List.mem_of_getElem? (i := 5) rfl), zin_21 _ (List.mem_of_getElem? (i := 2) rfl), ⟨by decide +kernel, by decide +kernel, by decide +kernel⟩⟩
theorem lv_L_36 : zLV RL 36 yX8_tableOf cX8_tableOf 4 (some .int) 2 := ⟨zin_21 _ (List.mem_of_getElem? (i := 11) rfl), zin_21 _ (List.mem_of_getElem? (i := 12) rfl), zin_21 _ (List.mem_of_getElem? (i := 13) rfl), zin_1 _ (List.mem_of_getElem? (i := 2) rfl), zin_21 _ (List.mem_of_getElem? (i := 14) rfl), ⟨by decide +kernel, by decide +kernel, by decide +kernel⟩⟩
theorem lv_L_39 : zLV RL 39 yX9_tableOf cX9_tableOf 4 (some .int) 2 := ⟨zin_22 _ (List.mem_of_getElem? (i := 6) rfl), zin_22 _ (List.mem_of_getElem? (i := 7) rfl), zin_22 _ (List.mem_of_getElem? (i := 8) rfl), zin_1 _ (List.mem_of_getElem? (i := 5) rfl), zin_22 _ (List.mem_of_getElem? (i := 9) rfl), ⟨by decide +kernel, by decide +kernel, by decide +kernel⟩⟩
theorem lv_L_40 : zLV RL 40 yX8_keptAt cX8_keptAt 4 (some .int) 2 := ⟨zin_22 _ (List.mem_of_getElem? (i := 14) rfl), zin_22 _ (List.mem_of_getElem? (i := 15) rfl), zin_22 _ (List.mem_of_getElem? (i := 16) rfl), zin_1 _ (List.mem_of_getElem? (i := 2) rfl), zin_22 _ (List.mem_of_getElem? (i := 17) rfl), ⟨by decide +kernel, by decide +kernel, by decide +kernel⟩⟩
theorem lv_L_43 : zLV RL 43 yX9_keptAt cX9_keptAt 4 (some .int) 2 := ⟨zin_22 _ (List.mem_of_getElem? (i := 23) rfl), zin_23 _ (List.mem_of_getElem? (i := 0) rfl), zin_23 _ (List.mem_of_getElem? (i := 1) rfl), zin_1 _ (List.mem_of_getElem? (i := 5) rfl), zin_23 _ (List.mem_of_getElem? (i := 2) rfl), ⟨by decide +kernel, by decide +kernel, by decide +kernel⟩⟩
theorem lv_L_44 : zLV RL 44 yX8_sawAt cX8_sawAt 6 (some .int) 3 := ⟨zin_23 _ (List.mem_of_getElem? (i := 3) rfl), zin_23 _ (List.mem_of_getElem? (i := 4) rfl), zin_23 _ (List.mem_of_getElem? (i := 5) rfl), zin_1 _ (List.mem_of_getElem? (i := 2) rfl), zin_23 _ (List.mem_of_getElem? (i := 6) rfl), ⟨by decide +kernel, by decide +kernel, by decide +kernel⟩⟩
theorem lv_L_48 : zLV RL 48 yX9_sawAt cX9_sawAt 7 (some .int) 3 := ⟨zin_23 _ (List.mem_of_getElem? (i := 15) rfl), zin_23 _ (List.mem_of_getElem? (i := 16) rfl), zin_23 _ (List.mem_of_getElem? (i := 17) rfl), zin_1 _ (List.mem_of_getElem? (i := 5) rfl), zin_23 _ (List.mem_of_getElem? (i := 18) rfl), ⟨by decide +kernel, by decide +kernel, by decide +kernel⟩⟩
theorem lv_L_49 : zLV RL 49 yX8_hash cX8_hash 3 (some .int) 2 := ⟨zin_23 _ (List.mem_of_getElem? (i := 19) rfl), zin_23 _ (List.mem_of_getElem? (i := 20) rfl), zin_23 _ (List.mem_of_getElem? (i := 21) rfl), zin_1 _ (List.mem_of_getElem? (i := 2) rfl), zin_23 _ (List.mem_of_getElem? (i := 22) rfl), ⟨by decide +kernel, by decide +kernel, by decide +kernel⟩⟩
theorem lv_L_52 : zLV RL 52 yX9_hash cX9_hash 3 (some .int) 2 := ⟨zin_24 _ (List.mem_of_getElem? (i := 1) rfl), zin_24 _ (List.mem_of_getElem? (i := 2) rfl), zin_24 _ (List.mem_of_getElem? (i := 3) rfl), zin_1 _ (List.mem_of_getElem? (i := 5) rfl), zin_24 _ (List.mem_of_getElem? (i := 4) rfl), ⟨by decide +kernel, by decide +kernel, by decide +kernel⟩⟩
theorem lv_L_53 : zLV RL 53 yX8_has cX8_has 6 (some .int) 3 := ⟨zin_24 _ (List.mem_of_getElem? (i := 5) rfl), zin_24 _ (List.mem_of_getElem? (i := 6) rfl), zin_24 _ (List.mem_of_getElem? (i := 7) rfl), zin_1 _ (List.mem_of_getElem? (i := 2) rfl), zin_24 _ (List.mem_of_getElem? (i := 8) rfl), ⟨by decide +kernel, by decide +kernel, by decide +kernel⟩⟩
theorem lv_L_56 : zLV RL 56 yX9_has cX9_has 5 (some .int) 3 := ⟨zin_24 _ (List.mem_of_getElem? (i := 18) rfl), zin_24 _ (List.mem_of_getElem? (i := 19) rfl), zin_24 _ (List.mem_of_getElem? (i := 20) rfl), zin_1 _ (List.mem_of_getElem? (i := 5) rfl), zin_24 _ (List.mem_of_getElem? (i := 21) rfl), ⟨by decide +kernel, by decide +kernel, by decide +kernel⟩⟩
theorem lv_L_57 : zLV RL 57 yX8_logAt cX8_logAt 3 (some .int) 2 := ⟨zin_25 _ (List.mem_of_getElem? (i := 6) rfl), zin_25 _ (List.mem_of_getElem? (i := 7) rfl), zin_25 _ (List.mem_of_getElem? (i := 8) rfl), zin_1 _ (List.mem_of_getElem? (i := 2) rfl), zin_25 _ (List.mem_of_getElem? (i := 9) rfl), ⟨by decide +kernel, by decide +kernel, by decide +kernel⟩⟩
theorem lv_L_60 : zLV RL 60 yX9_logAt cX9_logAt 3 (some .int) 2 := ⟨zin_25 _ (List.mem_of_getElem? (i := 15) rfl), zin_25 _ (List.mem_of_getElem? (i := 16) rfl), zin_25 _ (List.mem_of_getElem? (i := 17) rfl), zin_1 _ (List.mem_of_getElem? (i := 5) rfl), zin_25 _ (List.mem_of_getElem? (i := 18) rfl), ⟨by decide +kernel, by decide +kernel, by decide +kernel⟩⟩
theorem lv_L_61 : zLV RL 61 yX8_count cX8_count 2 (some .int) 1 := ⟨zin_25 _ (List.mem_of_getElem? (i := 19) rfl), zin_25 _ (List.mem_of_getElem? (i := 20) rfl), zin_25 _ (List.mem_of_getElem? (i := 21) rfl), zin_1 _ (List.mem_of_getElem? (i := 2) rfl), zin_25 _ (List.mem_of_getElem? (i := 22) rfl), ⟨by decide +kernel, by decide +kernel, by decide +kernel⟩⟩
theorem lv_L_64 : zLV RL 64 yX9_count cX9_count 2 (some .int) 1 := ⟨zin_26 _ (List.mem_of_getElem? (i := 22) rfl), zin_26 _ (List.mem_of_getElem? (i := 23) rfl), zin_27 _ (List.mem_of_getElem? (i := 0) rfl), zin_1 _ (List.mem_of_getElem? (i := 5) rfl), zin_27 _ (List.mem_of_getElem? (i := 1) rfl), ⟨by decide +kernel, by decide +kernel, by decide +kernel⟩⟩
theorem lv_L_65 : zLV RL 65 yX8_errorBits cX8_errorBits 3 (some .int) 1 := ⟨zin_27 _ (List.mem_of_getElem? (i := 11) rfl), zin_27 _ (List.mem_of_getElem? (i := 12) rfl), zin_27 _ (List.mem_of_getElem? (i := 13) rfl), zin_1 _ (List.mem_of_getElem? (i := 2) rfl), zin_27 _ (List.mem_of_getElem? (i := 14) rfl), ⟨by decide +kernel, by decide +kernel, by decide +kernel⟩⟩
theorem lv_L_68 : zLV RL 68 yX9_errorBits cX9_errorBits 4 (some .int) 1 := ⟨zin_28 _ (List.mem_of_getElem? (i := 2) rfl), zin_28 _ (List.mem_of_getElem? (i := 3) rfl), zin_28 _ (List.mem_of_getElem? (i := 4) rfl), zin_1 _ (List.mem_of_getElem? (i := 5) rfl), zin_28 _ (List.mem_of_getElem? (i := 5) rfl), ⟨by decide +kernel, by decide +kernel, by decide +kernel⟩⟩
theorem lv_L_69 : zLV RL 69 yX8_byError cX8_byError 3 (some .int) 1 := ⟨zin_28 _ (List.mem_of_getElem? (i := 18) rfl), zin_28 _ (List.mem_of_getElem? (i := 19) rfl), zin_28 _ (List.mem_of_getElem? (i := 20) rfl), zin_1 _ (List.mem_of_getElem? (i := 2) rfl), zin_28 _ (List.mem_of_getElem? (i := 21) rfl), ⟨by decide +kernel, by decide +kernel, by decide +kernel⟩⟩
theorem lv_L_72 : zLV RL 72 yX9_byError cX9_byError 5 (some .int) 1 := ⟨zin_29 _ (List.mem_of_getElem? (i := 7) rfl), zin_29 _ (List.mem_of_getElem? (i := 8) rfl), zin_29 _ (List.mem_of_getElem? (i := 9) rfl), zin_1 _ (List.mem_of_getElem? (i := 5) rfl), zin_29 _ (List.mem_of_getElem? (i := 10) rfl), ⟨by decide +kernel, by decide +kernel, by decide +kernel⟩⟩
theorem lv_L_73 : zLV RL 73 yX8_would cX8_would 4 (some .int) 2 := ⟨zin_29 _ (List.mem_of_getElem? (i := 15) rfl), zin_29 _ (List.mem_of_getElem? (i := 16) rfl), zin_29 _ (List.mem_of_getElem? (i := 17) rfl), zin_1 _ (List.mem_of_getElem? (i := 2) rfl), zin_29 _ (List.mem_of_getElem? (i := 18) rfl), ⟨by decide +kernel, by decide +kernel, by decide +kernel⟩⟩
theorem lv_L_76 : zLV RL 76 yX9_would cX9_would 3 (some .int) 2 := ⟨zin_29 _ (List.mem_of_getElem? (i := 22) rfl), zin_29 _ (List.mem_of_getElem? (i := 23) rfl), zin_30 _ (List.mem_of_getElem? (i := 0) rfl), zin_1 _ (List.mem_of_getElem? (i := 5) rfl), zin_30 _ (List.mem_of_getElem? (i := 1) rfl), ⟨by decide +kernel, by decide +kernel, by decide +kernel⟩⟩
theorem lv_L_77 : zLV RL 77 yX8_raises cX8_raises 3 (some .int) 1 := ⟨zin_30 _ (List.mem_of_getElem? (i := 2) rfl), zin_30 _ (List.mem_of_getElem? (i := 3) rfl), zin_30 _ (List.mem_of_getElem? (i := 4) rfl), zin_1 _ (List.mem_of_getElem? (i := 2) rfl), zin_30 _ (List.mem_of_getElem? (i := 5) rfl), ⟨by decide +kernel, by decide +kernel, by decide +kernel⟩⟩
theorem lv_L_80 : zLV RL 80 yX9_raises cX9_raises 3 (some .int) 1 := ⟨zin_30 _ (List.mem_of_getElem? (i := 11) rfl), zin_30 _ (List.mem_of_getElem? (i := 12) rfl), zin_30 _ (List.mem_of_getElem? (i := 13) rfl), zin_1 _ (List.mem_of_getElem? (i := 5) rfl), zin_30 _ (List.mem_of_getElem? (i := 14) rfl), ⟨by decide +kernel, by decide +kernel, by decide +kernel⟩⟩
theorem lv_L_81 : zLV RL 81 yX8_both cX8_both 7 (some .int) 3 := ⟨zin_30 _ (List.mem_of_getElem? (i := 15) rfl), zin_30 _ (List.mem_of_getElem? (i := 16) rfl), zin_30 _ (List.mem_of_getElem? (i := 17) rfl), zin_1 _ (List.mem_of_getElem? (i := 2) rfl), zin_30 _ (List.mem_of_getElem? (i := 18) rfl), ⟨by decide +kernel, by decide +kernel, by decide +kernel⟩⟩
theorem lv_L_84 : zLV RL 84 yX9_both cX9_both 6 (some .int) 3 := ⟨zin_31 _ (List.mem_of_getElem? (i := 7) rfl), zin_31 _ (List.mem_of_getElem? (i := 8) rfl), zin_31 _ (List.mem_of_getElem? (i := 9) rfl), zin_1 _ (List.mem_of_getElem? (i := 5) rfl), zin_31 _ (List.mem_of_getElem? (i := 10) rfl), ⟨by decide +kernel, by decide +kernel, by decide +kernel⟩⟩
theorem lv_L_85 : zLV RL 85 yX8_undo cX8_undo 1 (some .int) 0 := ⟨zin_31 _ (List.mem_of_getElem? (i := 19) rfl), zin_31 _ (List.mem_of_getElem? (i := 20) rfl), zin_31 _ (List.mem_of_getElem? (i := 21) rfl), zin_1 _ (List.mem_of_getElem? (i := 2) rfl), zin_31 _ (List.mem_of_getElem? (i := 22) rfl), ⟨by decide +kernel, by decide +kernel, by decide +kernel⟩⟩
theorem lv_L_89 : zLV RL 89 yX9_undo cX9_undo 1 (some .int) 0 := ⟨zin_32 _ (List.mem_of_getElem? (i := 3) rfl), zin_32 _ (List.mem_of_getElem? (i := 4) rfl), zin_32 _ (List.mem_of_getElem? (i := 5) rfl), zin_1 _ (List.mem_of_getElem? (i := 5) rfl), zin_32 _ (List.mem_of_getElem? (i := 6) rfl), ⟨by decide +kernel, by decide +kernel, by decide +kernel⟩⟩
theorem lv_L_90 : zLV RL 90 yX8_type cX8_type 2 (some .int) 1 := ⟨zin_32 _ (List.mem_of_getElem? (i := 11) rfl), zin_32 _ (List.mem_of_getElem? (i := 12) rfl), zin_32 _ (List.mem_of_getElem? (i := 13) rfl), zin_1 _ (List.mem_of_getElem? (i := 2) rfl), zin_32 _ (List.mem_of_getElem? (i := 14) rfl), ⟨by decide +kernel, by decide +kernel, by decide +kernel⟩⟩
theorem lv_L_93 : zLV RL 93 yX9_type cX9_type 2 (some .int) 1 := ⟨zin_32 _ (List.mem_of_getElem? (i := 20) rfl), zin_32 _ (List.mem_of_getElem? (i := 21) rfl), zin_32 _ (List.mem_of_getElem? (i := 22) rfl), zin_1 _ (List.mem_of_getElem? (i := 5) rfl), zin_32 _ (List.mem_of_getElem? (i := 23) rfl), ⟨by decide +kernel, by decide +kernel, by decide +kernel⟩⟩
theorem lv_L_94 : zLV RL 94 yX8_clearText cX8_clearText 1 (some .int) 0 := ⟨zin_33 _ (List.mem_of_getElem? (i := 0) rfl), zin_33 _ (List.mem_of_getElem? (i := 1) rfl), zin_33 _ (List.mem_of_getElem? (i := 2) rfl), zin_1 _ (List.mem_of_getElem? (i := 2) rfl), zin_33 _ (List.mem_of_getElem? (i := 3) rfl), ⟨by decide +kernel, by decide +kernel, by decide +kernel⟩⟩
theorem lv_L_97 : zLV RL 97 yX9_clearText cX9_clearText 2 (some .int) 0 := ⟨zin_33 _ (List.mem_of_getElem? (i := 8) rfl), zin_33 _ (List.mem_of_getElem? (i := 9) rfl), zin_33 _ (List.mem_of_getElem? (i := 10) rfl), zin_1 _ (List.mem_of_getElem? (i := 5) rfl), zin_33 _ (List.mem_of_getElem? (i := 11) rfl), ⟨by decide +kernel, by decide +kernel, by decide +kernel⟩⟩
theorem lv_L_98 : zLV RL 98 yX8_fault cX8_fault 2 (some .int) 1 := ⟨zin_33 _ (List.mem_of_getElem? (i := 12) rfl), zin_33 _ (List.mem_of_getElem? (i := 13) rfl), zin_33 _ (List.mem_of_getElem? (i := 14) rfl), zin_1 _ (List.mem_of_getElem? (i := 2) rfl), zin_33 _ (List.mem_of_getElem? (i := 15) rfl), ⟨by decide +kernel, by decide +kernel, by decide +kernel⟩⟩
def sx (L : Nat) (xs : Nat → Int32) (i : Int32) : Option Int32 := if ¬ (i < 0 ∨ L ≤ i.toNatClampNeg) then some (xs i.toNatClampNeg) else none
def m_L_law_L18 (L : Nat) (xs : Nat → Int32) (N : Nat) : Nat → zS → Nat → Nat → Nat → Int32 → Option (Int32 ⊕ zS)
  | 0, _, _, _, _, _ => none
  | n + 1, σ, v0, v1, v2, v3 => if ((nI L) - 5) < v3 then (some (.inr σ)) else ((sx L xs v3).bind fun x2 => (some (x2 &&& 31)).bind fun x4 => if x4 = 0 then ((sx L xs (v3 + 1)).bind fun x7 => (sx L xs (v3 + 2)).bind fun x9 => (isO σ 8 v1).bind fun u11 => b2 (m_X8_table N σ v1 x7 x9) fun x15 σ14 => (sx L xs (v3 + 1)).bind fun x16 => (sx L xs (v3 + 2)).bind fun x18 => (isO σ14 9 v2).bind fun u20 => b2 (m_X9_table N σ14 v2 x16 x18) fun x24 σ23 => if x15 = x24 then ((some (v3 + 5)).bind fun x26 => m_L_law_L18 L xs N n σ23 v0 v1 v2 x26) else (some (.inl 0))) else (if x4 = 1 then ((sx L xs (v3 + 1)).bind fun x29 => (sx L xs (v3 + 2)).bind fun x31 => (isO σ 8 v1).bind fun u33 => b2 (m_X8_add N σ v1 x29 x31) fun x37 σ36 => (sx L xs (v3 + 1)).bind fun x38 => (sx L xs (v3 + 2)).bind fun x40 => (isO σ36 9 v2).bind fun u42 => b2 (m_X9_add N σ36 v2 x38 x40) fun x46 σ45 => if x37 = x46 then ((some (v3 + 5)).bind fun x48 => m_L_law_L18 L xs N n σ45 v0 v1 v2 x48) else (some (.inl 0))) else (if x4 = 2 then ((sx L xs (v3 + 1)).bind fun x51 => (sx L xs (v3 + 2)).bind fun x53 => (sx L xs (v3 + 3)).bind fun x55 => (sx L xs (v3 + 4)).bind fun x57 => (isO σ 8 v1).bind fun u59 => b2 (m_X8_addRow N σ v1 x51 x53 x55 x57) fun x63 σ62 => (sx L xs (v3 + 1)).bind fun x64 => (sx L xs (v3 + 2)).bind fun x66 => (sx L xs (v3 + 3)).bind fun x68 => (sx L xs (v3 + 4)).bind fun x70 => (isO σ62 9 v2).bind fun u72 => b2 (m_X9_addRow N σ62 v2 x64 x66 x68 x70) fun x76 σ75 => if x63 = x76 then ((some (v3 + 5)).bind fun x78 => m_L_law_L18 L xs N n σ75 v0 v1 v2 x78) else (some (.inl 0))) else (if x4 = 3 then ((sx L xs (v3 + 1)).bind fun x81 => (sx L xs (v3 + 2)).bind fun x83 => (isO σ 8 v1).bind fun u85 => b2 (m_X8_merge N σ v1 x81 x83) fun x89 σ88 => (sx L xs (v3 + 1)).bind fun x90 => (sx L xs (v3 + 2)).bind fun x92 => (isO σ88 9 v2).bind fun u94 => b2 (m_X9_merge N σ88 v2 x90 x92) fun x98 σ97 => if x89 = x98 then ((some (v3 + 5)).bind fun x100 => m_L_law_L18 L xs N n σ97 v0 v1 v2 x100) else (some (.inl 0))) else (if x4 = 4 then ((sx L xs (v3 + 1)).bind fun x103 => (isO σ 8 v1).bind fun u105 => b2 (m_X8_reset N σ v1 x103) fun x109 σ108 => (sx L xs (v3 + 1)).bind fun x110 => (isO σ108 9 v2).bind fun u112 => b2 (m_X9_reset N σ108 v2 x110) fun x116 σ115 => if x109 = x116 then ((some (v3 + 5)).bind fun x118 => m_L_law_L18 L xs N n σ115 v0 v1 v2 x118) else (some (.inl 0))) else (if x4 = 5 then ((sx L xs (v3 + 1)).bind fun x121 => (sx L xs (v3 + 2)).bind fun x123 => (isO σ 8 v1).bind fun u125 => (m_X8_tableOf N σ v1 x121 x123).bind fun x128 => (sx L xs (v3 + 1)).bind fun x129 => (sx L xs (v3 + 2)).bind fun x131 => (isO σ 9 v2).bind fun u133 => (m_X9_tableOf N σ v2 x129 x131).bind fun x136 => if x128 = x136 then ((some (v3 + 5)).bind fun x138 => m_L_law_L18 L xs N n σ v0 v1 v2 x138) else (some (.inl 0))) else (if x4 = 6 then ((sx L xs (v3 + 1)).bind fun x141 => (sx L xs (v3 + 2)).bind fun x143 => (isO σ 8 v1).bind fun u145 => (m_X8_keptAt N σ v1 x141 x143).bind fun x148 => (sx L xs (v3 + 1)).bind fun x149 => (sx L xs (v3 + 2)).bind fun x151 => (isO σ 9 v2).bind fun u153 => (m_X9_keptAt N σ v2 x149 x151).bind fun x156 => if x148 = x156 then ((some (v3 + 5)).bind fun x158 => m_L_law_L18 L xs N n σ v0 v1 v2 x158) else (some (.inl 0))) else (if x4 = 7 then ((sx L xs (v3 + 1)).bind fun x161 => (sx L xs (v3 + 2)).bind fun x163 => (sx L xs (v3 + 3)).bind fun x165 => (isO σ 8 v1).bind fun u167 => (m_X8_sawAt N σ v1 x161 x163 x165).bind fun x170 => (sx L xs (v3 + 1)).bind fun x171 => (sx L xs (v3 + 2)).bind fun x173 => (sx L xs (v3 + 3)).bind fun x175 => (isO σ 9 v2).bind fun u177 => (m_X9_sawAt N σ v2 x171 x173 x175).bind fun x180 => if x170 = x180 then ((some (v3 + 5)).bind fun x182 => m_L_law_L18 L xs N n σ v0 v1 v2 x182) else (some (.inl 0))) else (if x4 = 8 then ((sx L xs (v3 + 1)).bind fun x185 => (sx L xs (v3 + 2)).bind fun x187 => (isO σ 8 v1).bind fun u189 => (m_X8_hash N σ v1 x185 x187).bind fun x192 => (sx L xs (v3 + 1)).bind fun x193 => (sx L xs (v3 + 2)).bind fun x195 => (isO σ 9 v2).bind fun u197 => (m_X9_hash N σ v2 x193 x195).bind fun x200 => if x192 = x200 then ((some (v3 + 5)).bind fun x202 => m_L_law_L18 L xs N n σ v0 v1 v2 x202) else (some (.inl 0))) else (if x4 = 9 then ((sx L xs (v3 + 1)).bind fun x205 => (sx L xs (v3 + 2)).bind fun x207 => (sx L xs (v3 + 3)).bind fun x209 => (isO σ 8 v1).bind fun u211 => (m_X8_has N σ v1 x205 x207 x209).bind fun x214 => (sx L xs (v3 + 1)).bind fun x215 => (sx L xs (v3 + 2)).bind fun x217 => (sx L xs (v3 + 3)).bind fun x219 => (isO σ 9 v2).bind fun u221 => b2 (m_X9_has N σ v2 x215 x217 x219) fun x225 σ224 => if x214 = x225 then ((some (v3 + 5)).bind fun x227 => m_L_law_L18 L xs N n σ224 v0 v1 v2 x227) else (some (.inl 0))) else (if x4 = 10 then ((sx L xs (v3 + 1)).bind fun x230 => (sx L xs (v3 + 2)).bind fun x232 => (isO σ 8 v1).bind fun u234 => (m_X8_logAt N σ v1 x230 x232).bind fun x237 => (sx L xs (v3 + 1)).bind fun x238 => (sx L xs (v3 + 2)).bind fun x240 => (isO σ 9 v2).bind fun u242 => (m_X9_logAt N σ v2 x238 x240).bind fun x245 => if x237 = x245 then ((some (v3 + 5)).bind fun x247 => m_L_law_L18 L xs N n σ v0 v1 v2 x247) else (some (.inl 0))) else (if x4 = 11 then ((sx L xs (v3 + 1)).bind fun x250 => (isO σ 8 v1).bind fun u252 => (m_X8_count N σ v1 x250).bind fun x255 => (sx L xs (v3 + 1)).bind fun x256 => (isO σ 9 v2).bind fun u258 => (m_X9_count N σ v2 x256).bind fun x261 => if x255 = x261 then ((some (v3 + 5)).bind fun x263 => m_L_law_L18 L xs N n σ v0 v1 v2 x263) else (some (.inl 0))) else (if x4 = 12 then ((sx L xs (v3 + 1)).bind fun x266 => (isO σ 8 v1).bind fun u268 => (m_X8_errorBits N σ v1 x266).bind fun x271 => (sx L xs (v3 + 1)).bind fun x272 => (isO σ 9 v2).bind fun u274 => (m_X9_errorBits N σ v2 x272).bind fun x277 => if x271 = x277 then ((some (v3 + 5)).bind fun x279 => m_L_law_L18 L xs N n σ v0 v1 v2 x279) else (some (.inl 0))) else (if x4 = 13 then ((sx L xs (v3 + 1)).bind fun x282 => (isO σ 8 v1).bind fun u284 => (m_X8_byError N σ v1 x282).bind fun x287 => (sx L xs (v3 + 1)).bind fun x288 => (isO σ 9 v2).bind fun u290 => (m_X9_byError N σ v2 x288).bind fun x293 => if x287 = x293 then ((some (v3 + 5)).bind fun x295 => m_L_law_L18 L xs N n σ v0 v1 v2 x295) else (some (.inl 0))) else (if x4 = 14 then ((sx L xs (v3 + 1)).bind fun x298 => (sx L xs (v3 + 2)).bind fun x300 => (isO σ 8 v1).bind fun u302 => b2 (m_X8_would N σ v1 x298 x300) fun x306 σ305 => (sx L xs (v3 + 1)).bind fun x307 => (sx L xs (v3 + 2)).bind fun x309 => (isO σ305 9 v2).bind fun u311 => b2 (m_X9_would N σ305 v2 x307 x309) fun x315 σ314 => if x306 = x315 then ((some (v3 + 5)).bind fun x317 => m_L_law_L18 L xs N n σ314 v0 v1 v2 x317) else (some (.inl 0))) else (if x4 = 15 then ((sx L xs (v3 + 1)).bind fun x320 => (isO σ 8 v1).bind fun u322 => (m_X8_raises N σ v1 x320).bind fun x325 => (sx L xs (v3 + 1)).bind fun x326 => (isO σ 9 v2).bind fun u328 => b2 (m_X9_raises N σ v2 x326) fun x332 σ331 => if x325 = x332 then ((some (v3 + 5)).bind fun x334 => m_L_law_L18 L xs N n σ331 v0 v1 v2 x334) else (some (.inl 0))) else (if x4 = 16 then ((sx L xs (v3 + 1)).bind fun x337 => (sx L xs (v3 + 2)).bind fun x339 => (sx L xs (v3 + 3)).bind fun x341 => (isO σ 8 v1).bind fun u343 => b2 (m_X8_both N σ v1 x337 x339 x341) fun x347 σ346 => (sx L xs (v3 + 1)).bind fun x348 => (sx L xs (v3 + 2)).bind fun x350 => (sx L xs (v3 + 3)).bind fun x352 => (isO σ346 9 v2).bind fun u354 => b2 (m_X9_both N σ346 v2 x348 x350 x352) fun x358 σ357 => if x347 = x358 then ((some (v3 + 5)).bind fun x360 => m_L_law_L18 L xs N n σ357 v0 v1 v2 x360) else (some (.inl 0))) else (if x4 = 17 then ((isO σ 8 v1).bind fun u363 => b2 (m_X8_undo N σ v1) fun x367 σ366 => (isO σ366 9 v2).bind fun u368 => b2 (m_X9_undo N σ366 v2) fun x372 σ371 => if x367 = x372 then ((some (v3 + 5)).bind fun x374 => m_L_law_L18 L xs N n σ371 v0 v1 v2 x374) else (some (.inl 0))) else (if x4 = 18 then ((sx L xs (v3 + 1)).bind fun x377 => (isO σ 8 v1).bind fun u379 => b2 (m_X8_type N σ v1 x377) fun x383 σ382 => (sx L xs (v3 + 1)).bind fun x384 => (isO σ382 9 v2).bind fun u386 => b2 (m_X9_type N σ382 v2 x384) fun x390 σ389 => if x383 = x390 then ((some (v3 + 5)).bind fun x392 => m_L_law_L18 L xs N n σ389 v0 v1 v2 x392) else (some (.inl 0))) else (if x4 = 19 then ((isO σ 8 v1).bind fun u395 => b2 (m_X8_clearText N σ v1) fun x399 σ398 => (isO σ398 9 v2).bind fun u400 => b2 (m_X9_clearText N σ398 v2) fun x404 σ403 => if x399 = x404 then ((some (v3 + 5)).bind fun x406 => m_L_law_L18 L xs N n σ403 v0 v1 v2 x406) else (some (.inl 0))) else (if x4 = 20 then ((sx L xs (v3 + 1)).bind fun x409 => (isO σ 8 v1).bind fun u411 => b2 (m_X8_fault N σ v1 x409) fun x415 σ414 => (sx L xs (v3 + 1)).bind fun x416 => (isO σ414 9 v2).bind fun u418 => b2 (m_X9_fault N σ414 v2 x416) fun x422 σ421 => if x415 = x422 then ((some (v3 + 5)).bind fun x424 => m_L_law_L18 L xs N n σ421 v0 v1 v2 x424) else (some (.inl 0))) else (if x4 = 21 then ((isO σ 8 v1).bind fun u427 => b2 (m_X8_play N σ v1) fun x431 σ430 => (isO σ430 9 v2).bind fun u432 => b2 (m_X9_play N σ430 v2) fun x436 σ435 => if x431 = x436 then ((some (v3 + 5)).bind fun x438 => m_L_law_L18 L xs N n σ435 v0 v1 v2 x438) else (some (.inl 0))) else ((some (v3 + 5)).bind fun x440 => m_L_law_L18 L xs N n σ v0 v1 v2 x440)))))))))))))))))))))))
section ZL
variable {p : Program} {l : Launch} {e : Env} {R : Room} {s : State} {m : MethodId} {args : Array Value} {below : List Frame} {meth : Method} {c : Code} {H : Heap} {locs : List Loc} {cells slots : Nat} {Q : State → Prop}
variable {cc : ByteArray} {own : String} {nL pc b L : Nat} {xs : Nat → Int32} {ls : Array Slot} {rest : List Value} {D : va_G} {ca : Nat → ClassId} {A : Nat → Prop}
theorem r_sx {i x : Int32} (C0 : zC p s m args c own cc nL D ca A) (hX : va_X b L xs s s.heap ∧ b < s.heap.size ∧ ¬ A b) (hS : va_S A s.heap H locs) (hv : sx L xs i = some x) (d : decode cc pc = .ok (.iaload, 1))
    (kk : W p l e R s m args below meth c H locs cells slots Q (F0 m (pc + 1) ls (.int x :: rest))) : W p l e R s m args below meth c H locs cells slots Q (F0 m pc ls (.int i :: .ref b :: rest)) := by
  unfold sx at hv
  split at hv
  · rename_i hin
    cases hv
    exact va_sld C0.1 C0.2.1 hX.1 hX.2.1 hX.2.2 hS hin d kk
  · cases hv
theorem r_slen (C0 : zC p s m args c own cc nL D ca A) (hX : va_X b L xs s s.heap ∧ b < s.heap.size ∧ ¬ A b) (hS : va_S A s.heap H locs) (d : decode cc pc = .ok (.arraylength, 1))
    (kk : W p l e R s m args below meth c H locs cells slots Q (F0 m (pc + 1) ls (.int (nI L) :: rest))) : W p l e R s m args below meth c H locs cells slots Q (F0 m pc ls (.ref b :: rest)) := va_slen C0.1 C0.2.1 hX.1 hX.2.1 hX.2.2 hS d kk
end ZL
set_option maxHeartbeats 8000000 in
set_option maxRecDepth 100000 in
theorem w_L_law_L18 {p : Program} {l : Launch} {e : Env} {s : State} {m : MethodId} {args : Array Value} {below : List Frame} {meth : Method} {c : Code} {D : va_G} {ca : Nat → ClassId} {A : Nat → Prop} {Q : State → Prop} {L : Nat} {xs : Nat → Int32} (N : Nat) : ∀ (n : Nat) {σ : zS} {v0 v1 v2 : Nat} {v3 : Int32} {res : Int32 ⊕ zS} {H : Heap} {locs : List Loc} {ls : Array Slot}, m_L_law_L18 L xs N n σ v0 v1 v2 v3 = some res → zC p s m args c RL cL_law 4 D ca A → (va_X v0 L xs s s.heap ∧ v0 < s.heap.size ∧ ¬ A v0) → zW D ca A σ H → va_S A s.heap H locs → lv_has ls 4 [(0, .ref v0), (1, .ref v1), (2, .ref v2), (3, .int v3)] → (∀ (r : Int32), res = .inl r → ∀ (pc : Nat) (H : Heap) (locs : List Loc) (ls : Array Slot), decode cL_law pc = .ok (.ireturn, 1) → va_S A s.heap H locs → W p l e room_1 s m args below meth c H locs 238 74445 Q (F0 m pc ls [.int r])) → (∀ (σ' : zS), res = .inr σ' → ∀ (H : Heap) (locs : List Loc) (ls : Array Slot), zW D ca A σ' H → va_S A s.heap H locs → lv_has ls 4 [] → W p l e room_1 s m args below meth c H locs 238 74445 Q (F0 m 788 ls [])) → W p l e room_1 s m args below meth c H locs 238 74445 Q (F0 m 18 ls []) := by
  intro n
  induction n with
  | zero =>
    intro σ v0 v1 v2 v3 res H locs ls hm C0 hX hW hS hl kr kk
    rw [m_L_law_L18] at hm
    cases hm
  | succ n ih =>
    intro σ v0 v1 v2 v3 res H locs ls hm C0 hX hW hS hl kr kk
    rw [m_L_law_L18] at hm
    have hx := C0.1
    have hb := C0.2.1
    refine lv_iload_n hx hb dL_law_18 rfl (lv_at hl 3 rfl) ?_
    refine lv_aload_n hx hb dL_law_19 rfl (lv_at hl 0 rfl) ?_
    refine r_slen C0 hX hS dL_law_20 ?_
    refine lv_iconst (v := 5) hx hb dL_law_21 (by decide) ?_
    refine lv_isub hx hb dL_law_22 ?_
    refine lv_icmp_gt (tgt := 788) hx hb dL_law_23 (by decide) (fun h1 => ?_) (fun h1 => ?_)
    · rw [if_pos h1] at hm
      cases hm
      exact kk _ rfl _ _ _ hW hS (lv_sub hl [] rfl)
    · rw [if_neg h1] at hm
      refine lv_aload_n hx hb dL_law_26 rfl (lv_at hl 0 rfl) ?_
      refine lv_iload_n hx hb dL_law_27 rfl (lv_at hl 3 rfl) ?_
      replace hm := ob hm; obtain ⟨x2, e3, hm⟩ := hm
      refine r_sx C0 hX hS e3 dL_law_28 ?_
      refine lv_bipush (v := 31) hx hb dL_law_29 (by decide) ?_
      refine lv_iand hx hb dL_law_31 ?_
      replace hm := ob hm; obtain ⟨x4, e5, hm⟩ := hm
      refine z_top e5 ?_
      by_cases h6 : x4 = 0
      · rw [if_pos h6] at hm
        refine z_top (congrArg some h6) ?_
        refine lv_tableIn (tgt := 136) hx hb dL_law_32 (by decide) (by decide) rfl (by decide) ?_
        refine lv_aload_n hx hb dL_law_136 rfl (lv_at hl 1 rfl) ?_
        refine lv_aload_n hx hb dL_law_137 rfl (lv_at hl 0 rfl) ?_
        refine lv_iload_n hx hb dL_law_138 rfl (lv_at hl 3 rfl) ?_
        refine lv_iconst (v := 1) hx hb dL_law_139 (by decide) ?_
        refine lv_iadd hx hb dL_law_140 ?_
        replace hm := ob hm; obtain ⟨x7, e8, hm⟩ := hm
        refine r_sx C0 hX hS e8 dL_law_141 ?_
        refine lv_aload_n hx hb dL_law_142 rfl (lv_at hl 0 rfl) ?_
        refine lv_iload_n hx hb dL_law_143 rfl (lv_at hl 3 rfl) ?_
        refine lv_iconst (v := 2) hx hb dL_law_144 (by decide) ?_
        refine lv_iadd hx hb dL_law_145 ?_
        replace hm := ob hm; obtain ⟨x9, e10, hm⟩ := hm
        refine r_sx C0 hX hS e10 dL_law_146 ?_
        replace hm := ob hm; obtain ⟨u11, e12, hm⟩ := hm
        replace hm := o2 hm; obtain ⟨x15, σ14, e13, hm⟩ := hm
        refine z_calli (z_runV (As := [.int x7, .int x9]) (rest := []) (ci := 8) rfl rfl C0 lv_L_13 (b_X8_table e13) hW hS e12 rfl hl.1 rfl (Nat.le_of_ble_eq_true rfl) dL_law_147 rfl rfl ⟨Nat.le_of_ble_eq_true rfl, Nat.le_of_ble_eq_true rfl⟩ ⟨Nat.le_of_ble_eq_true rfl, Nat.le_of_ble_eq_true rfl⟩) hS (fun H locs hW hS => ?_)
        refine lv_aload_n hx hb dL_law_150 rfl (lv_at hl 2 rfl) ?_
        refine lv_aload_n hx hb dL_law_151 rfl (lv_at hl 0 rfl) ?_
        refine lv_iload_n hx hb dL_law_152 rfl (lv_at hl 3 rfl) ?_
        refine lv_iconst (v := 1) hx hb dL_law_153 (by decide) ?_
        refine lv_iadd hx hb dL_law_154 ?_
        replace hm := ob hm; obtain ⟨x16, e17, hm⟩ := hm
        refine r_sx C0 hX hS e17 dL_law_155 ?_
        refine lv_aload_n hx hb dL_law_156 rfl (lv_at hl 0 rfl) ?_
        refine lv_iload_n hx hb dL_law_157 rfl (lv_at hl 3 rfl) ?_
        refine lv_iconst (v := 2) hx hb dL_law_158 (by decide) ?_
        refine lv_iadd hx hb dL_law_159 ?_
        replace hm := ob hm; obtain ⟨x18, e19, hm⟩ := hm
        refine r_sx C0 hX hS e19 dL_law_160 ?_
        replace hm := ob hm; obtain ⟨u20, e21, hm⟩ := hm
        replace hm := o2 hm; obtain ⟨x24, σ23, e22, hm⟩ := hm
        refine z_calli (z_runV (As := [.int x16, .int x18]) (rest := [.int x15]) (ci := 9) rfl rfl C0 lv_L_17 (b_X9_table e22) hW hS e21 rfl hl.1 rfl (Nat.le_of_ble_eq_true rfl) dL_law_161 rfl rfl ⟨Nat.le_of_ble_eq_true rfl, Nat.le_of_ble_eq_true rfl⟩ ⟨Nat.le_of_ble_eq_true rfl, Nat.le_of_ble_eq_true rfl⟩) hS (fun H locs hW hS => ?_)
        refine lv_icmp_eq (tgt := 782) hx hb dL_law_164 (by decide) (fun h25 => ?_) (fun h25 => ?_)
        · rw [if_pos h25] at hm
          replace hm := ob hm; obtain ⟨x26, e27, hm⟩ := hm
          refine lv_iinc (v := x26) (lv' := [(3, .int x26), (0, .ref v0), (1, .ref v1), (2, .ref v2)]) hx hb dL_law_782 hl (k := 3) rfl (Option.some.inj e27) (by decide) rfl (fun ls hl => ?_)
          refine lv_goto (tgt := 18) hx hb dL_law_785 (by decide) ?_
          exact ih hm C0 hX hW hS (lv_sub hl [1, 2, 3, 0] rfl) kr kk
        · rw [if_neg h25] at hm
          refine lv_iconst (v := 0) hx hb dL_law_167 (by decide) ?_
          cases hm
          exact kr _ rfl _ _ _ _ dL_law_168 hS
      · rw [if_neg h6] at hm
        by_cases h28 : x4 = 1
        · rw [if_pos h28] at hm
          refine z_top (congrArg some h28) ?_
          refine lv_tableIn (tgt := 169) hx hb dL_law_32 (by decide) (by decide) rfl (by decide) ?_
          refine lv_aload_n hx hb dL_law_169 rfl (lv_at hl 1 rfl) ?_
          refine lv_aload_n hx hb dL_law_170 rfl (lv_at hl 0 rfl) ?_
          refine lv_iload_n hx hb dL_law_171 rfl (lv_at hl 3 rfl) ?_
          refine lv_iconst (v := 1) hx hb dL_law_172 (by decide) ?_
          refine lv_iadd hx hb dL_law_173 ?_
          replace hm := ob hm; obtain ⟨x29, e30, hm⟩ := hm
          refine r_sx C0 hX hS e30 dL_law_174 ?_
          refine lv_aload_n hx hb dL_law_175 rfl (lv_at hl 0 rfl) ?_
          refine lv_iload_n hx hb dL_law_176 rfl (lv_at hl 3 rfl) ?_
          refine lv_iconst (v := 2) hx hb dL_law_177 (by decide) ?_
          refine lv_iadd hx hb dL_law_178 ?_
          replace hm := ob hm; obtain ⟨x31, e32, hm⟩ := hm
          refine r_sx C0 hX hS e32 dL_law_179 ?_
          replace hm := ob hm; obtain ⟨u33, e34, hm⟩ := hm
          replace hm := o2 hm; obtain ⟨x37, σ36, e35, hm⟩ := hm
          refine z_calli (z_runV (As := [.int x29, .int x31]) (rest := []) (ci := 8) rfl rfl C0 lv_L_18 (b_X8_add e35) hW hS e34 rfl hl.1 rfl (Nat.le_of_ble_eq_true rfl) dL_law_180 rfl rfl ⟨Nat.le_of_ble_eq_true rfl, Nat.le_of_ble_eq_true rfl⟩ ⟨Nat.le_of_ble_eq_true rfl, Nat.le_of_ble_eq_true rfl⟩) hS (fun H locs hW hS => ?_)
          refine lv_aload_n hx hb dL_law_183 rfl (lv_at hl 2 rfl) ?_
          refine lv_aload_n hx hb dL_law_184 rfl (lv_at hl 0 rfl) ?_
          refine lv_iload_n hx hb dL_law_185 rfl (lv_at hl 3 rfl) ?_
          refine lv_iconst (v := 1) hx hb dL_law_186 (by decide) ?_
          refine lv_iadd hx hb dL_law_187 ?_
          replace hm := ob hm; obtain ⟨x38, e39, hm⟩ := hm
          refine r_sx C0 hX hS e39 dL_law_188 ?_
          refine lv_aload_n hx hb dL_law_189 rfl (lv_at hl 0 rfl) ?_
          refine lv_iload_n hx hb dL_law_190 rfl (lv_at hl 3 rfl) ?_
          refine lv_iconst (v := 2) hx hb dL_law_191 (by decide) ?_
          refine lv_iadd hx hb dL_law_192 ?_
          replace hm := ob hm; obtain ⟨x40, e41, hm⟩ := hm
          refine r_sx C0 hX hS e41 dL_law_193 ?_
          replace hm := ob hm; obtain ⟨u42, e43, hm⟩ := hm
          replace hm := o2 hm; obtain ⟨x46, σ45, e44, hm⟩ := hm
          refine z_calli (z_runV (As := [.int x38, .int x40]) (rest := [.int x37]) (ci := 9) rfl rfl C0 lv_L_21 (b_X9_add e44) hW hS e43 rfl hl.1 rfl (Nat.le_of_ble_eq_true rfl) dL_law_194 rfl rfl ⟨Nat.le_of_ble_eq_true rfl, Nat.le_of_ble_eq_true rfl⟩ ⟨Nat.le_of_ble_eq_true rfl, Nat.le_of_ble_eq_true rfl⟩) hS (fun H locs hW hS => ?_)
          refine lv_icmp_eq (tgt := 782) hx hb dL_law_197 (by decide) (fun h47 => ?_) (fun h47 => ?_)
          · rw [if_pos h47] at hm
            replace hm := ob hm; obtain ⟨x48, e49, hm⟩ := hm
            refine lv_iinc (v := x48) (lv' := [(3, .int x48), (0, .ref v0), (1, .ref v1), (2, .ref v2)]) hx hb dL_law_782 hl (k := 3) rfl (Option.some.inj e49) (by decide) rfl (fun ls hl => ?_)
            refine lv_goto (tgt := 18) hx hb dL_law_785 (by decide) ?_
            exact ih hm C0 hX hW hS (lv_sub hl [1, 2, 3, 0] rfl) kr kk
          · rw [if_neg h47] at hm
            refine lv_iconst (v := 0) hx hb dL_law_200 (by decide) ?_
            cases hm
            exact kr _ rfl _ _ _ _ dL_law_201 hS
        · rw [if_neg h28] at hm
          by_cases h50 : x4 = 2
          · rw [if_pos h50] at hm
            refine z_top (congrArg some h50) ?_
            refine lv_tableIn (tgt := 202) hx hb dL_law_32 (by decide) (by decide) rfl (by decide) ?_
            refine lv_aload_n hx hb dL_law_202 rfl (lv_at hl 1 rfl) ?_
            refine lv_aload_n hx hb dL_law_203 rfl (lv_at hl 0 rfl) ?_
            refine lv_iload_n hx hb dL_law_204 rfl (lv_at hl 3 rfl) ?_
            refine lv_iconst (v := 1) hx hb dL_law_205 (by decide) ?_
            refine lv_iadd hx hb dL_law_206 ?_
            replace hm := ob hm; obtain ⟨x51, e52, hm⟩ := hm
            refine r_sx C0 hX hS e52 dL_law_207 ?_
            refine lv_aload_n hx hb dL_law_208 rfl (lv_at hl 0 rfl) ?_
            refine lv_iload_n hx hb dL_law_209 rfl (lv_at hl 3 rfl) ?_
            refine lv_iconst (v := 2) hx hb dL_law_210 (by decide) ?_
            refine lv_iadd hx hb dL_law_211 ?_
            replace hm := ob hm; obtain ⟨x53, e54, hm⟩ := hm
            refine r_sx C0 hX hS e54 dL_law_212 ?_
            refine lv_aload_n hx hb dL_law_213 rfl (lv_at hl 0 rfl) ?_
            refine lv_iload_n hx hb dL_law_214 rfl (lv_at hl 3 rfl) ?_
            refine lv_iconst (v := 3) hx hb dL_law_215 (by decide) ?_
            refine lv_iadd hx hb dL_law_216 ?_
            replace hm := ob hm; obtain ⟨x55, e56, hm⟩ := hm
            refine r_sx C0 hX hS e56 dL_law_217 ?_
            refine lv_aload_n hx hb dL_law_218 rfl (lv_at hl 0 rfl) ?_
            refine lv_iload_n hx hb dL_law_219 rfl (lv_at hl 3 rfl) ?_
            refine lv_iconst (v := 4) hx hb dL_law_220 (by decide) ?_
            refine lv_iadd hx hb dL_law_221 ?_
            replace hm := ob hm; obtain ⟨x57, e58, hm⟩ := hm
            refine r_sx C0 hX hS e58 dL_law_222 ?_
            replace hm := ob hm; obtain ⟨u59, e60, hm⟩ := hm
            replace hm := o2 hm; obtain ⟨x63, σ62, e61, hm⟩ := hm
            refine z_calli (z_runV (As := [.int x51, .int x53, .int x55, .int x57]) (rest := []) (ci := 8) rfl rfl C0 lv_L_22 (b_X8_addRow e61) hW hS e60 rfl hl.1 rfl (Nat.le_of_ble_eq_true rfl) dL_law_223 rfl rfl ⟨Nat.le_of_ble_eq_true rfl, Nat.le_of_ble_eq_true rfl⟩ ⟨Nat.le_of_ble_eq_true rfl, Nat.le_of_ble_eq_true rfl⟩) hS (fun H locs hW hS => ?_)
            refine lv_aload_n hx hb dL_law_226 rfl (lv_at hl 2 rfl) ?_
            refine lv_aload_n hx hb dL_law_227 rfl (lv_at hl 0 rfl) ?_
            refine lv_iload_n hx hb dL_law_228 rfl (lv_at hl 3 rfl) ?_
            refine lv_iconst (v := 1) hx hb dL_law_229 (by decide) ?_
            refine lv_iadd hx hb dL_law_230 ?_
            replace hm := ob hm; obtain ⟨x64, e65, hm⟩ := hm
            refine r_sx C0 hX hS e65 dL_law_231 ?_
            refine lv_aload_n hx hb dL_law_232 rfl (lv_at hl 0 rfl) ?_
            refine lv_iload_n hx hb dL_law_233 rfl (lv_at hl 3 rfl) ?_
            refine lv_iconst (v := 2) hx hb dL_law_234 (by decide) ?_
            refine lv_iadd hx hb dL_law_235 ?_
            replace hm := ob hm; obtain ⟨x66, e67, hm⟩ := hm
            refine r_sx C0 hX hS e67 dL_law_236 ?_
            refine lv_aload_n hx hb dL_law_237 rfl (lv_at hl 0 rfl) ?_
            refine lv_iload_n hx hb dL_law_238 rfl (lv_at hl 3 rfl) ?_
            refine lv_iconst (v := 3) hx hb dL_law_239 (by decide) ?_
            refine lv_iadd hx hb dL_law_240 ?_
            replace hm := ob hm; obtain ⟨x68, e69, hm⟩ := hm
            refine r_sx C0 hX hS e69 dL_law_241 ?_
            refine lv_aload_n hx hb dL_law_242 rfl (lv_at hl 0 rfl) ?_
            refine lv_iload_n hx hb dL_law_243 rfl (lv_at hl 3 rfl) ?_
            refine lv_iconst (v := 4) hx hb dL_law_244 (by decide) ?_
            refine lv_iadd hx hb dL_law_245 ?_
            replace hm := ob hm; obtain ⟨x70, e71, hm⟩ := hm
            refine r_sx C0 hX hS e71 dL_law_246 ?_
            replace hm := ob hm; obtain ⟨u72, e73, hm⟩ := hm
            replace hm := o2 hm; obtain ⟨x76, σ75, e74, hm⟩ := hm
            refine z_calli (z_runV (As := [.int x64, .int x66, .int x68, .int x70]) (rest := [.int x63]) (ci := 9) rfl rfl C0 lv_L_26 (b_X9_addRow e74) hW hS e73 rfl hl.1 rfl (Nat.le_of_ble_eq_true rfl) dL_law_247 rfl rfl ⟨Nat.le_of_ble_eq_true rfl, Nat.le_of_ble_eq_true rfl⟩ ⟨Nat.le_of_ble_eq_true rfl, Nat.le_of_ble_eq_true rfl⟩) hS (fun H locs hW hS => ?_)
            refine lv_icmp_eq (tgt := 782) hx hb dL_law_250 (by decide) (fun h77 => ?_) (fun h77 => ?_)
            · rw [if_pos h77] at hm
              replace hm := ob hm; obtain ⟨x78, e79, hm⟩ := hm
              refine lv_iinc (v := x78) (lv' := [(3, .int x78), (0, .ref v0), (1, .ref v1), (2, .ref v2)]) hx hb dL_law_782 hl (k := 3) rfl (Option.some.inj e79) (by decide) rfl (fun ls hl => ?_)
              refine lv_goto (tgt := 18) hx hb dL_law_785 (by decide) ?_
              exact ih hm C0 hX hW hS (lv_sub hl [1, 2, 3, 0] rfl) kr kk
            · rw [if_neg h77] at hm
              refine lv_iconst (v := 0) hx hb dL_law_253 (by decide) ?_
              cases hm
              exact kr _ rfl _ _ _ _ dL_law_254 hS
          · rw [if_neg h50] at hm
            by_cases h80 : x4 = 3
            · rw [if_pos h80] at hm
              refine z_top (congrArg some h80) ?_
              refine lv_tableIn (tgt := 255) hx hb dL_law_32 (by decide) (by decide) rfl (by decide) ?_
              refine lv_aload_n hx hb dL_law_255 rfl (lv_at hl 1 rfl) ?_
              refine lv_aload_n hx hb dL_law_256 rfl (lv_at hl 0 rfl) ?_
              refine lv_iload_n hx hb dL_law_257 rfl (lv_at hl 3 rfl) ?_
              refine lv_iconst (v := 1) hx hb dL_law_258 (by decide) ?_
              refine lv_iadd hx hb dL_law_259 ?_
              replace hm := ob hm; obtain ⟨x81, e82, hm⟩ := hm
              refine r_sx C0 hX hS e82 dL_law_260 ?_
              refine lv_aload_n hx hb dL_law_261 rfl (lv_at hl 0 rfl) ?_
              refine lv_iload_n hx hb dL_law_262 rfl (lv_at hl 3 rfl) ?_
              refine lv_iconst (v := 2) hx hb dL_law_263 (by decide) ?_
              refine lv_iadd hx hb dL_law_264 ?_
              replace hm := ob hm; obtain ⟨x83, e84, hm⟩ := hm
              refine r_sx C0 hX hS e84 dL_law_265 ?_
              replace hm := ob hm; obtain ⟨u85, e86, hm⟩ := hm
              replace hm := o2 hm; obtain ⟨x89, σ88, e87, hm⟩ := hm
              refine z_calli (z_runV (As := [.int x81, .int x83]) (rest := []) (ci := 8) rfl rfl C0 lv_L_27 (b_X8_merge e87) hW hS e86 rfl hl.1 rfl (Nat.le_of_ble_eq_true rfl) dL_law_266 rfl rfl ⟨Nat.le_of_ble_eq_true rfl, Nat.le_of_ble_eq_true rfl⟩ ⟨Nat.le_of_ble_eq_true rfl, Nat.le_of_ble_eq_true rfl⟩) hS (fun H locs hW hS => ?_)
              refine lv_aload_n hx hb dL_law_269 rfl (lv_at hl 2 rfl) ?_
              refine lv_aload_n hx hb dL_law_270 rfl (lv_at hl 0 rfl) ?_
              refine lv_iload_n hx hb dL_law_271 rfl (lv_at hl 3 rfl) ?_
              refine lv_iconst (v := 1) hx hb dL_law_272 (by decide) ?_
              refine lv_iadd hx hb dL_law_273 ?_
              replace hm := ob hm; obtain ⟨x90, e91, hm⟩ := hm
              refine r_sx C0 hX hS e91 dL_law_274 ?_
              refine lv_aload_n hx hb dL_law_275 rfl (lv_at hl 0 rfl) ?_
              refine lv_iload_n hx hb dL_law_276 rfl (lv_at hl 3 rfl) ?_
              refine lv_iconst (v := 2) hx hb dL_law_277 (by decide) ?_
              refine lv_iadd hx hb dL_law_278 ?_
              replace hm := ob hm; obtain ⟨x92, e93, hm⟩ := hm
              refine r_sx C0 hX hS e93 dL_law_279 ?_
              replace hm := ob hm; obtain ⟨u94, e95, hm⟩ := hm
              replace hm := o2 hm; obtain ⟨x98, σ97, e96, hm⟩ := hm
              refine z_calli (z_runV (As := [.int x90, .int x92]) (rest := [.int x89]) (ci := 9) rfl rfl C0 lv_L_30 (b_X9_merge e96) hW hS e95 rfl hl.1 rfl (Nat.le_of_ble_eq_true rfl) dL_law_280 rfl rfl ⟨Nat.le_of_ble_eq_true rfl, Nat.le_of_ble_eq_true rfl⟩ ⟨Nat.le_of_ble_eq_true rfl, Nat.le_of_ble_eq_true rfl⟩) hS (fun H locs hW hS => ?_)
              refine lv_icmp_eq (tgt := 782) hx hb dL_law_283 (by decide) (fun h99 => ?_) (fun h99 => ?_)
              · rw [if_pos h99] at hm
                replace hm := ob hm; obtain ⟨x100, e101, hm⟩ := hm
                refine lv_iinc (v := x100) (lv' := [(3, .int x100), (0, .ref v0), (1, .ref v1), (2, .ref v2)]) hx hb dL_law_782 hl (k := 3) rfl (Option.some.inj e101) (by decide) rfl (fun ls hl => ?_)
                refine lv_goto (tgt := 18) hx hb dL_law_785 (by decide) ?_
                exact ih hm C0 hX hW hS (lv_sub hl [1, 2, 3, 0] rfl) kr kk
              · rw [if_neg h99] at hm
                refine lv_iconst (v := 0) hx hb dL_law_286 (by decide) ?_
                cases hm
                exact kr _ rfl _ _ _ _ dL_law_287 hS
            · rw [if_neg h80] at hm
              by_cases h102 : x4 = 4
              · rw [if_pos h102] at hm
                refine z_top (congrArg some h102) ?_
                refine lv_tableIn (tgt := 288) hx hb dL_law_32 (by decide) (by decide) rfl (by decide) ?_
                refine lv_aload_n hx hb dL_law_288 rfl (lv_at hl 1 rfl) ?_
                refine lv_aload_n hx hb dL_law_289 rfl (lv_at hl 0 rfl) ?_
                refine lv_iload_n hx hb dL_law_290 rfl (lv_at hl 3 rfl) ?_
                refine lv_iconst (v := 1) hx hb dL_law_291 (by decide) ?_
                refine lv_iadd hx hb dL_law_292 ?_
                replace hm := ob hm; obtain ⟨x103, e104, hm⟩ := hm
                refine r_sx C0 hX hS e104 dL_law_293 ?_
                replace hm := ob hm; obtain ⟨u105, e106, hm⟩ := hm
                replace hm := o2 hm; obtain ⟨x109, σ108, e107, hm⟩ := hm
                refine z_calli (z_runV (As := [.int x103]) (rest := []) (ci := 8) rfl rfl C0 lv_L_31 (b_X8_reset e107) hW hS e106 rfl hl.1 rfl (Nat.le_of_ble_eq_true rfl) dL_law_294 rfl rfl ⟨Nat.le_of_ble_eq_true rfl, Nat.le_of_ble_eq_true rfl⟩ ⟨Nat.le_of_ble_eq_true rfl, Nat.le_of_ble_eq_true rfl⟩) hS (fun H locs hW hS => ?_)
                refine lv_aload_n hx hb dL_law_297 rfl (lv_at hl 2 rfl) ?_
                refine lv_aload_n hx hb dL_law_298 rfl (lv_at hl 0 rfl) ?_
                refine lv_iload_n hx hb dL_law_299 rfl (lv_at hl 3 rfl) ?_
                refine lv_iconst (v := 1) hx hb dL_law_300 (by decide) ?_
                refine lv_iadd hx hb dL_law_301 ?_
                replace hm := ob hm; obtain ⟨x110, e111, hm⟩ := hm
                refine r_sx C0 hX hS e111 dL_law_302 ?_
                replace hm := ob hm; obtain ⟨u112, e113, hm⟩ := hm
                replace hm := o2 hm; obtain ⟨x116, σ115, e114, hm⟩ := hm
                refine z_calli (z_runV (As := [.int x110]) (rest := [.int x109]) (ci := 9) rfl rfl C0 lv_L_35 (b_X9_reset e114) hW hS e113 rfl hl.1 rfl (Nat.le_of_ble_eq_true rfl) dL_law_303 rfl rfl ⟨Nat.le_of_ble_eq_true rfl, Nat.le_of_ble_eq_true rfl⟩ ⟨Nat.le_of_ble_eq_true rfl, Nat.le_of_ble_eq_true rfl⟩) hS (fun H locs hW hS => ?_)
                refine lv_icmp_eq (tgt := 782) hx hb dL_law_306 (by decide) (fun h117 => ?_) (fun h117 => ?_)
                · rw [if_pos h117] at hm
                  replace hm := ob hm; obtain ⟨x118, e119, hm⟩ := hm
                  refine lv_iinc (v := x118) (lv' := [(3, .int x118), (0, .ref v0), (1, .ref v1), (2, .ref v2)]) hx hb dL_law_782 hl (k := 3) rfl (Option.some.inj e119) (by decide) rfl (fun ls hl => ?_)
                  refine lv_goto (tgt := 18) hx hb dL_law_785 (by decide) ?_
                  exact ih hm C0 hX hW hS (lv_sub hl [1, 2, 3, 0] rfl) kr kk
                · rw [if_neg h117] at hm
                  refine lv_iconst (v := 0) hx hb dL_law_309 (by decide) ?_
                  cases hm
                  exact kr _ rfl _ _ _ _ dL_law_310 hS
              · rw [if_neg h102] at hm
                by_cases h120 : x4 = 5
                · rw [if_pos h120] at hm
                  refine z_top (congrArg some h120) ?_
                  refine lv_tableIn (tgt := 311) hx hb dL_law_32 (by decide) (by decide) rfl (by decide) ?_
                  refine lv_aload_n hx hb dL_law_311 rfl (lv_at hl 1 rfl) ?_
                  refine lv_aload_n hx hb dL_law_312 rfl (lv_at hl 0 rfl) ?_
                  refine lv_iload_n hx hb dL_law_313 rfl (lv_at hl 3 rfl) ?_
                  refine lv_iconst (v := 1) hx hb dL_law_314 (by decide) ?_
                  refine lv_iadd hx hb dL_law_315 ?_
                  replace hm := ob hm; obtain ⟨x121, e122, hm⟩ := hm
                  refine r_sx C0 hX hS e122 dL_law_316 ?_
                  refine lv_aload_n hx hb dL_law_317 rfl (lv_at hl 0 rfl) ?_
                  refine lv_iload_n hx hb dL_law_318 rfl (lv_at hl 3 rfl) ?_
                  refine lv_iconst (v := 2) hx hb dL_law_319 (by decide) ?_
                  refine lv_iadd hx hb dL_law_320 ?_
                  replace hm := ob hm; obtain ⟨x123, e124, hm⟩ := hm
                  refine r_sx C0 hX hS e124 dL_law_321 ?_
                  replace hm := ob hm; obtain ⟨u125, e126, hm⟩ := hm
                  replace hm := ob hm; obtain ⟨x128, e127, hm⟩ := hm
                  refine z_calli (z_runV (As := [.int x121, .int x123]) (rest := []) (ci := 8) rfl rfl C0 lv_L_36 (b_X8_tableOf e127) hW hS e126 rfl hl.1 rfl (Nat.le_of_ble_eq_true rfl) dL_law_322 rfl rfl ⟨Nat.le_of_ble_eq_true rfl, Nat.le_of_ble_eq_true rfl⟩ ⟨Nat.le_of_ble_eq_true rfl, Nat.le_of_ble_eq_true rfl⟩) hS (fun H locs hW hS => ?_)
                  refine lv_aload_n hx hb dL_law_325 rfl (lv_at hl 2 rfl) ?_
                  refine lv_aload_n hx hb dL_law_326 rfl (lv_at hl 0 rfl) ?_
                  refine lv_iload_n hx hb dL_law_327 rfl (lv_at hl 3 rfl) ?_
                  refine lv_iconst (v := 1) hx hb dL_law_328 (by decide) ?_
                  refine lv_iadd hx hb dL_law_329 ?_
                  replace hm := ob hm; obtain ⟨x129, e130, hm⟩ := hm
                  refine r_sx C0 hX hS e130 dL_law_330 ?_
                  refine lv_aload_n hx hb dL_law_331 rfl (lv_at hl 0 rfl) ?_
                  refine lv_iload_n hx hb dL_law_332 rfl (lv_at hl 3 rfl) ?_
                  refine lv_iconst (v := 2) hx hb dL_law_333 (by decide) ?_
                  refine lv_iadd hx hb dL_law_334 ?_
                  replace hm := ob hm; obtain ⟨x131, e132, hm⟩ := hm
                  refine r_sx C0 hX hS e132 dL_law_335 ?_
                  replace hm := ob hm; obtain ⟨u133, e134, hm⟩ := hm
                  replace hm := ob hm; obtain ⟨x136, e135, hm⟩ := hm
                  refine z_calli (z_runV (As := [.int x129, .int x131]) (rest := [.int x128]) (ci := 9) rfl rfl C0 lv_L_39 (b_X9_tableOf e135) hW hS e134 rfl hl.1 rfl (Nat.le_of_ble_eq_true rfl) dL_law_336 rfl rfl ⟨Nat.le_of_ble_eq_true rfl, Nat.le_of_ble_eq_true rfl⟩ ⟨Nat.le_of_ble_eq_true rfl, Nat.le_of_ble_eq_true rfl⟩) hS (fun H locs hW hS => ?_)
                  refine lv_icmp_eq (tgt := 782) hx hb dL_law_339 (by decide) (fun h137 => ?_) (fun h137 => ?_)
                  · rw [if_pos h137] at hm
                    replace hm := ob hm; obtain ⟨x138, e139, hm⟩ := hm
                    refine lv_iinc (v := x138) (lv' := [(3, .int x138), (0, .ref v0), (1, .ref v1), (2, .ref v2)]) hx hb dL_law_782 hl (k := 3) rfl (Option.some.inj e139) (by decide) rfl (fun ls hl => ?_)
                    refine lv_goto (tgt := 18) hx hb dL_law_785 (by decide) ?_
                    exact ih hm C0 hX hW hS (lv_sub hl [1, 2, 3, 0] rfl) kr kk
                  · rw [if_neg h137] at hm
                    refine lv_iconst (v := 0) hx hb dL_law_342 (by decide) ?_
                    cases hm
                    exact kr _ rfl _ _ _ _ dL_law_343 hS
                · rw [if_neg h120] at hm
                  by_cases h140 : x4 = 6
                  · rw [if_pos h140] at hm
                    refine z_top (congrArg some h140) ?_
                    refine lv_tableIn (tgt := 344) hx hb dL_law_32 (by decide) (by decide) rfl (by decide) ?_
                    refine lv_aload_n hx hb dL_law_344 rfl (lv_at hl 1 rfl) ?_
                    refine lv_aload_n hx hb dL_law_345 rfl (lv_at hl 0 rfl) ?_
                    refine lv_iload_n hx hb dL_law_346 rfl (lv_at hl 3 rfl) ?_
                    refine lv_iconst (v := 1) hx hb dL_law_347 (by decide) ?_
                    refine lv_iadd hx hb dL_law_348 ?_
                    replace hm := ob hm; obtain ⟨x141, e142, hm⟩ := hm
                    refine r_sx C0 hX hS e142 dL_law_349 ?_
                    refine lv_aload_n hx hb dL_law_350 rfl (lv_at hl 0 rfl) ?_
                    refine lv_iload_n hx hb dL_law_351 rfl (lv_at hl 3 rfl) ?_
                    refine lv_iconst (v := 2) hx hb dL_law_352 (by decide) ?_
                    refine lv_iadd hx hb dL_law_353 ?_
                    replace hm := ob hm; obtain ⟨x143, e144, hm⟩ := hm
                    refine r_sx C0 hX hS e144 dL_law_354 ?_
                    replace hm := ob hm; obtain ⟨u145, e146, hm⟩ := hm
                    replace hm := ob hm; obtain ⟨x148, e147, hm⟩ := hm
                    refine z_calli (z_runV (As := [.int x141, .int x143]) (rest := []) (ci := 8) rfl rfl C0 lv_L_40 (b_X8_keptAt e147) hW hS e146 rfl hl.1 rfl (Nat.le_of_ble_eq_true rfl) dL_law_355 rfl rfl ⟨Nat.le_of_ble_eq_true rfl, Nat.le_of_ble_eq_true rfl⟩ ⟨Nat.le_of_ble_eq_true rfl, Nat.le_of_ble_eq_true rfl⟩) hS (fun H locs hW hS => ?_)
                    refine lv_aload_n hx hb dL_law_358 rfl (lv_at hl 2 rfl) ?_
                    refine lv_aload_n hx hb dL_law_359 rfl (lv_at hl 0 rfl) ?_
                    refine lv_iload_n hx hb dL_law_360 rfl (lv_at hl 3 rfl) ?_
                    refine lv_iconst (v := 1) hx hb dL_law_361 (by decide) ?_
                    refine lv_iadd hx hb dL_law_362 ?_
                    replace hm := ob hm; obtain ⟨x149, e150, hm⟩ := hm
                    refine r_sx C0 hX hS e150 dL_law_363 ?_
                    refine lv_aload_n hx hb dL_law_364 rfl (lv_at hl 0 rfl) ?_
                    refine lv_iload_n hx hb dL_law_365 rfl (lv_at hl 3 rfl) ?_
                    refine lv_iconst (v := 2) hx hb dL_law_366 (by decide) ?_
                    refine lv_iadd hx hb dL_law_367 ?_
                    replace hm := ob hm; obtain ⟨x151, e152, hm⟩ := hm
                    refine r_sx C0 hX hS e152 dL_law_368 ?_
                    replace hm := ob hm; obtain ⟨u153, e154, hm⟩ := hm
                    replace hm := ob hm; obtain ⟨x156, e155, hm⟩ := hm
                    refine z_calli (z_runV (As := [.int x149, .int x151]) (rest := [.int x148]) (ci := 9) rfl rfl C0 lv_L_43 (b_X9_keptAt e155) hW hS e154 rfl hl.1 rfl (Nat.le_of_ble_eq_true rfl) dL_law_369 rfl rfl ⟨Nat.le_of_ble_eq_true rfl, Nat.le_of_ble_eq_true rfl⟩ ⟨Nat.le_of_ble_eq_true rfl, Nat.le_of_ble_eq_true rfl⟩) hS (fun H locs hW hS => ?_)
                    refine lv_icmp_eq (tgt := 782) hx hb dL_law_372 (by decide) (fun h157 => ?_) (fun h157 => ?_)
                    · rw [if_pos h157] at hm
                      replace hm := ob hm; obtain ⟨x158, e159, hm⟩ := hm
                      refine lv_iinc (v := x158) (lv' := [(3, .int x158), (0, .ref v0), (1, .ref v1), (2, .ref v2)]) hx hb dL_law_782 hl (k := 3) rfl (Option.some.inj e159) (by decide) rfl (fun ls hl => ?_)
                      refine lv_goto (tgt := 18) hx hb dL_law_785 (by decide) ?_
                      exact ih hm C0 hX hW hS (lv_sub hl [1, 2, 3, 0] rfl) kr kk
                    · rw [if_neg h157] at hm
                      refine lv_iconst (v := 0) hx hb dL_law_375 (by decide) ?_
                      cases hm
                      exact kr _ rfl _ _ _ _ dL_law_376 hS
                  · rw [if_neg h140] at hm
                    by_cases h160 : x4 = 7
                    · rw [if_pos h160] at hm
                      refine z_top (congrArg some h160) ?_
                      refine lv_tableIn (tgt := 377) hx hb dL_law_32 (by decide) (by decide) rfl (by decide) ?_
                      refine lv_aload_n hx hb dL_law_377 rfl (lv_at hl 1 rfl) ?_
                      refine lv_aload_n hx hb dL_law_378 rfl (lv_at hl 0 rfl) ?_
                      refine lv_iload_n hx hb dL_law_379 rfl (lv_at hl 3 rfl) ?_
                      refine lv_iconst (v := 1) hx hb dL_law_380 (by decide) ?_
                      refine lv_iadd hx hb dL_law_381 ?_
                      replace hm := ob hm; obtain ⟨x161, e162, hm⟩ := hm
                      refine r_sx C0 hX hS e162 dL_law_382 ?_
                      refine lv_aload_n hx hb dL_law_383 rfl (lv_at hl 0 rfl) ?_
                      refine lv_iload_n hx hb dL_law_384 rfl (lv_at hl 3 rfl) ?_
                      refine lv_iconst (v := 2) hx hb dL_law_385 (by decide) ?_
                      refine lv_iadd hx hb dL_law_386 ?_
                      replace hm := ob hm; obtain ⟨x163, e164, hm⟩ := hm
                      refine r_sx C0 hX hS e164 dL_law_387 ?_
                      refine lv_aload_n hx hb dL_law_388 rfl (lv_at hl 0 rfl) ?_
                      refine lv_iload_n hx hb dL_law_389 rfl (lv_at hl 3 rfl) ?_
                      refine lv_iconst (v := 3) hx hb dL_law_390 (by decide) ?_
                      refine lv_iadd hx hb dL_law_391 ?_
                      replace hm := ob hm; obtain ⟨x165, e166, hm⟩ := hm
                      refine r_sx C0 hX hS e166 dL_law_392 ?_
                      replace hm := ob hm; obtain ⟨u167, e168, hm⟩ := hm
                      replace hm := ob hm; obtain ⟨x170, e169, hm⟩ := hm
                      refine z_calli (z_runV (As := [.int x161, .int x163, .int x165]) (rest := []) (ci := 8) rfl rfl C0 lv_L_44 (b_X8_sawAt e169) hW hS e168 rfl hl.1 rfl (Nat.le_of_ble_eq_true rfl) dL_law_393 rfl rfl ⟨Nat.le_of_ble_eq_true rfl, Nat.le_of_ble_eq_true rfl⟩ ⟨Nat.le_of_ble_eq_true rfl, Nat.le_of_ble_eq_true rfl⟩) hS (fun H locs hW hS => ?_)
                      refine lv_aload_n hx hb dL_law_396 rfl (lv_at hl 2 rfl) ?_
                      refine lv_aload_n hx hb dL_law_397 rfl (lv_at hl 0 rfl) ?_
                      refine lv_iload_n hx hb dL_law_398 rfl (lv_at hl 3 rfl) ?_
                      refine lv_iconst (v := 1) hx hb dL_law_399 (by decide) ?_
                      refine lv_iadd hx hb dL_law_400 ?_
                      replace hm := ob hm; obtain ⟨x171, e172, hm⟩ := hm
                      refine r_sx C0 hX hS e172 dL_law_401 ?_
                      refine lv_aload_n hx hb dL_law_402 rfl (lv_at hl 0 rfl) ?_
                      refine lv_iload_n hx hb dL_law_403 rfl (lv_at hl 3 rfl) ?_
                      refine lv_iconst (v := 2) hx hb dL_law_404 (by decide) ?_
                      refine lv_iadd hx hb dL_law_405 ?_
                      replace hm := ob hm; obtain ⟨x173, e174, hm⟩ := hm
                      refine r_sx C0 hX hS e174 dL_law_406 ?_
                      refine lv_aload_n hx hb dL_law_407 rfl (lv_at hl 0 rfl) ?_
                      refine lv_iload_n hx hb dL_law_408 rfl (lv_at hl 3 rfl) ?_
                      refine lv_iconst (v := 3) hx hb dL_law_409 (by decide) ?_
                      refine lv_iadd hx hb dL_law_410 ?_
                      replace hm := ob hm; obtain ⟨x175, e176, hm⟩ := hm
                      refine r_sx C0 hX hS e176 dL_law_411 ?_
                      replace hm := ob hm; obtain ⟨u177, e178, hm⟩ := hm
                      replace hm := ob hm; obtain ⟨x180, e179, hm⟩ := hm
                      refine z_calli (z_runV (As := [.int x171, .int x173, .int x175]) (rest := [.int x170]) (ci := 9) rfl rfl C0 lv_L_48 (b_X9_sawAt e179) hW hS e178 rfl hl.1 rfl (Nat.le_of_ble_eq_true rfl) dL_law_412 rfl rfl ⟨Nat.le_of_ble_eq_true rfl, Nat.le_of_ble_eq_true rfl⟩ ⟨Nat.le_of_ble_eq_true rfl, Nat.le_of_ble_eq_true rfl⟩) hS (fun H locs hW hS => ?_)
                      refine lv_icmp_eq (tgt := 782) hx hb dL_law_415 (by decide) (fun h181 => ?_) (fun h181 => ?_)
                      · rw [if_pos h181] at hm
                        replace hm := ob hm; obtain ⟨x182, e183, hm⟩ := hm
                        refine lv_iinc (v := x182) (lv' := [(3, .int x182), (0, .ref v0), (1, .ref v1), (2, .ref v2)]) hx hb dL_law_782 hl (k := 3) rfl (Option.some.inj e183) (by decide) rfl (fun ls hl => ?_)
                        refine lv_goto (tgt := 18) hx hb dL_law_785 (by decide) ?_
                        exact ih hm C0 hX hW hS (lv_sub hl [1, 2, 3, 0] rfl) kr kk
                      · rw [if_neg h181] at hm
                        refine lv_iconst (v := 0) hx hb dL_law_418 (by decide) ?_
                        cases hm
                        exact kr _ rfl _ _ _ _ dL_law_419 hS
                    · rw [if_neg h160] at hm
                      by_cases h184 : x4 = 8
                      · rw [if_pos h184] at hm
                        refine z_top (congrArg some h184) ?_
                        refine lv_tableIn (tgt := 420) hx hb dL_law_32 (by decide) (by decide) rfl (by decide) ?_
                        refine lv_aload_n hx hb dL_law_420 rfl (lv_at hl 1 rfl) ?_
                        refine lv_aload_n hx hb dL_law_421 rfl (lv_at hl 0 rfl) ?_
                        refine lv_iload_n hx hb dL_law_422 rfl (lv_at hl 3 rfl) ?_
                        refine lv_iconst (v := 1) hx hb dL_law_423 (by decide) ?_
                        refine lv_iadd hx hb dL_law_424 ?_
                        replace hm := ob hm; obtain ⟨x185, e186, hm⟩ := hm
                        refine r_sx C0 hX hS e186 dL_law_425 ?_
                        refine lv_aload_n hx hb dL_law_426 rfl (lv_at hl 0 rfl) ?_
                        refine lv_iload_n hx hb dL_law_427 rfl (lv_at hl 3 rfl) ?_
                        refine lv_iconst (v := 2) hx hb dL_law_428 (by decide) ?_
                        refine lv_iadd hx hb dL_law_429 ?_
                        replace hm := ob hm; obtain ⟨x187, e188, hm⟩ := hm
                        refine r_sx C0 hX hS e188 dL_law_430 ?_
                        replace hm := ob hm; obtain ⟨u189, e190, hm⟩ := hm
                        replace hm := ob hm; obtain ⟨x192, e191, hm⟩ := hm
                        refine z_calli (z_runV (As := [.int x185, .int x187]) (rest := []) (ci := 8) rfl rfl C0 lv_L_49 (b_X8_hash e191) hW hS e190 rfl hl.1 rfl (Nat.le_of_ble_eq_true rfl) dL_law_431 rfl rfl ⟨Nat.le_of_ble_eq_true rfl, Nat.le_of_ble_eq_true rfl⟩ ⟨Nat.le_of_ble_eq_true rfl, Nat.le_of_ble_eq_true rfl⟩) hS (fun H locs hW hS => ?_)
                        refine lv_aload_n hx hb dL_law_434 rfl (lv_at hl 2 rfl) ?_
                        refine lv_aload_n hx hb dL_law_435 rfl (lv_at hl 0 rfl) ?_
                        refine lv_iload_n hx hb dL_law_436 rfl (lv_at hl 3 rfl) ?_
                        refine lv_iconst (v := 1) hx hb dL_law_437 (by decide) ?_
                        refine lv_iadd hx hb dL_law_438 ?_
                        replace hm := ob hm; obtain ⟨x193, e194, hm⟩ := hm
                        refine r_sx C0 hX hS e194 dL_law_439 ?_
                        refine lv_aload_n hx hb dL_law_440 rfl (lv_at hl 0 rfl) ?_
                        refine lv_iload_n hx hb dL_law_441 rfl (lv_at hl 3 rfl) ?_
                        refine lv_iconst (v := 2) hx hb dL_law_442 (by decide) ?_
                        refine lv_iadd hx hb dL_law_443 ?_
                        replace hm := ob hm; obtain ⟨x195, e196, hm⟩ := hm
                        refine r_sx C0 hX hS e196 dL_law_444 ?_
                        replace hm := ob hm; obtain ⟨u197, e198, hm⟩ := hm
                        replace hm := ob hm; obtain ⟨x200, e199, hm⟩ := hm
                        refine z_calli (z_runV (As := [.int x193, .int x195]) (rest := [.int x192]) (ci := 9) rfl rfl C0 lv_L_52 (b_X9_hash e199) hW hS e198 rfl hl.1 rfl (Nat.le_of_ble_eq_true rfl) dL_law_445 rfl rfl ⟨Nat.le_of_ble_eq_true rfl, Nat.le_of_ble_eq_true rfl⟩ ⟨Nat.le_of_ble_eq_true rfl, Nat.le_of_ble_eq_true rfl⟩) hS (fun H locs hW hS => ?_)
                        refine lv_icmp_eq (tgt := 782) hx hb dL_law_448 (by decide) (fun h201 => ?_) (fun h201 => ?_)
                        · rw [if_pos h201] at hm
                          replace hm := ob hm; obtain ⟨x202, e203, hm⟩ := hm
                          refine lv_iinc (v := x202) (lv' := [(3, .int x202), (0, .ref v0), (1, .ref v1), (2, .ref v2)]) hx hb dL_law_782 hl (k := 3) rfl (Option.some.inj e203) (by decide) rfl (fun ls hl => ?_)
                          refine lv_goto (tgt := 18) hx hb dL_law_785 (by decide) ?_
                          exact ih hm C0 hX hW hS (lv_sub hl [1, 2, 3, 0] rfl) kr kk
                        · rw [if_neg h201] at hm
                          refine lv_iconst (v := 0) hx hb dL_law_451 (by decide) ?_
                          cases hm
                          exact kr _ rfl _ _ _ _ dL_law_452 hS
                      · rw [if_neg h184] at hm
                        by_cases h204 : x4 = 9
                        · rw [if_pos h204] at hm
                          refine z_top (congrArg some h204) ?_
                          refine lv_tableIn (tgt := 453) hx hb dL_law_32 (by decide) (by decide) rfl (by decide) ?_
                          refine lv_aload_n hx hb dL_law_453 rfl (lv_at hl 1 rfl) ?_
                          refine lv_aload_n hx hb dL_law_454 rfl (lv_at hl 0 rfl) ?_
                          refine lv_iload_n hx hb dL_law_455 rfl (lv_at hl 3 rfl) ?_
                          refine lv_iconst (v := 1) hx hb dL_law_456 (by decide) ?_
                          refine lv_iadd hx hb dL_law_457 ?_
                          replace hm := ob hm; obtain ⟨x205, e206, hm⟩ := hm
                          refine r_sx C0 hX hS e206 dL_law_458 ?_
                          refine lv_aload_n hx hb dL_law_459 rfl (lv_at hl 0 rfl) ?_
                          refine lv_iload_n hx hb dL_law_460 rfl (lv_at hl 3 rfl) ?_
                          refine lv_iconst (v := 2) hx hb dL_law_461 (by decide) ?_
                          refine lv_iadd hx hb dL_law_462 ?_
                          replace hm := ob hm; obtain ⟨x207, e208, hm⟩ := hm
                          refine r_sx C0 hX hS e208 dL_law_463 ?_
                          refine lv_aload_n hx hb dL_law_464 rfl (lv_at hl 0 rfl) ?_
                          refine lv_iload_n hx hb dL_law_465 rfl (lv_at hl 3 rfl) ?_
                          refine lv_iconst (v := 3) hx hb dL_law_466 (by decide) ?_
                          refine lv_iadd hx hb dL_law_467 ?_
                          replace hm := ob hm; obtain ⟨x209, e210, hm⟩ := hm
                          refine r_sx C0 hX hS e210 dL_law_468 ?_
                          replace hm := ob hm; obtain ⟨u211, e212, hm⟩ := hm
                          replace hm := ob hm; obtain ⟨x214, e213, hm⟩ := hm
                          refine z_calli (z_runV (As := [.int x205, .int x207, .int x209]) (rest := []) (ci := 8) rfl rfl C0 lv_L_53 (b_X8_has e213) hW hS e212 rfl hl.1 rfl (Nat.le_of_ble_eq_true rfl) dL_law_469 rfl rfl ⟨Nat.le_of_ble_eq_true rfl, Nat.le_of_ble_eq_true rfl⟩ ⟨Nat.le_of_ble_eq_true rfl, Nat.le_of_ble_eq_true rfl⟩) hS (fun H locs hW hS => ?_)
                          refine lv_aload_n hx hb dL_law_472 rfl (lv_at hl 2 rfl) ?_
                          refine lv_aload_n hx hb dL_law_473 rfl (lv_at hl 0 rfl) ?_
                          refine lv_iload_n hx hb dL_law_474 rfl (lv_at hl 3 rfl) ?_
                          refine lv_iconst (v := 1) hx hb dL_law_475 (by decide) ?_
                          refine lv_iadd hx hb dL_law_476 ?_
                          replace hm := ob hm; obtain ⟨x215, e216, hm⟩ := hm
                          refine r_sx C0 hX hS e216 dL_law_477 ?_
                          refine lv_aload_n hx hb dL_law_478 rfl (lv_at hl 0 rfl) ?_
                          refine lv_iload_n hx hb dL_law_479 rfl (lv_at hl 3 rfl) ?_
                          refine lv_iconst (v := 2) hx hb dL_law_480 (by decide) ?_
                          refine lv_iadd hx hb dL_law_481 ?_
                          replace hm := ob hm; obtain ⟨x217, e218, hm⟩ := hm
                          refine r_sx C0 hX hS e218 dL_law_482 ?_
                          refine lv_aload_n hx hb dL_law_483 rfl (lv_at hl 0 rfl) ?_
                          refine lv_iload_n hx hb dL_law_484 rfl (lv_at hl 3 rfl) ?_
                          refine lv_iconst (v := 3) hx hb dL_law_485 (by decide) ?_
                          refine lv_iadd hx hb dL_law_486 ?_
                          replace hm := ob hm; obtain ⟨x219, e220, hm⟩ := hm
                          refine r_sx C0 hX hS e220 dL_law_487 ?_
                          replace hm := ob hm; obtain ⟨u221, e222, hm⟩ := hm
                          replace hm := o2 hm; obtain ⟨x225, σ224, e223, hm⟩ := hm
                          refine z_calli (z_runV (As := [.int x215, .int x217, .int x219]) (rest := [.int x214]) (ci := 9) rfl rfl C0 lv_L_56 (b_X9_has e223) hW hS e222 rfl hl.1 rfl (Nat.le_of_ble_eq_true rfl) dL_law_488 rfl rfl ⟨Nat.le_of_ble_eq_true rfl, Nat.le_of_ble_eq_true rfl⟩ ⟨Nat.le_of_ble_eq_true rfl, Nat.le_of_ble_eq_true rfl⟩) hS (fun H locs hW hS => ?_)
                          refine lv_icmp_eq (tgt := 782) hx hb dL_law_491 (by decide) (fun h226 => ?_) (fun h226 => ?_)
                          · rw [if_pos h226] at hm
                            replace hm := ob hm; obtain ⟨x227, e228, hm⟩ := hm
                            refine lv_iinc (v := x227) (lv' := [(3, .int x227), (0, .ref v0), (1, .ref v1), (2, .ref v2)]) hx hb dL_law_782 hl (k := 3) rfl (Option.some.inj e228) (by decide) rfl (fun ls hl => ?_)
                            refine lv_goto (tgt := 18) hx hb dL_law_785 (by decide) ?_
                            exact ih hm C0 hX hW hS (lv_sub hl [1, 2, 3, 0] rfl) kr kk
                          · rw [if_neg h226] at hm
                            refine lv_iconst (v := 0) hx hb dL_law_494 (by decide) ?_
                            cases hm
                            exact kr _ rfl _ _ _ _ dL_law_495 hS
                        · rw [if_neg h204] at hm
                          by_cases h229 : x4 = 10
                          · rw [if_pos h229] at hm
                            refine z_top (congrArg some h229) ?_
                            refine lv_tableIn (tgt := 496) hx hb dL_law_32 (by decide) (by decide) rfl (by decide) ?_
                            refine lv_aload_n hx hb dL_law_496 rfl (lv_at hl 1 rfl) ?_
                            refine lv_aload_n hx hb dL_law_497 rfl (lv_at hl 0 rfl) ?_
                            refine lv_iload_n hx hb dL_law_498 rfl (lv_at hl 3 rfl) ?_
                            refine lv_iconst (v := 1) hx hb dL_law_499 (by decide) ?_
                            refine lv_iadd hx hb dL_law_500 ?_
                            replace hm := ob hm; obtain ⟨x230, e231, hm⟩ := hm
                            refine r_sx C0 hX hS e231 dL_law_501 ?_
                            refine lv_aload_n hx hb dL_law_502 rfl (lv_at hl 0 rfl) ?_
                            refine lv_iload_n hx hb dL_law_503 rfl (lv_at hl 3 rfl) ?_
                            refine lv_iconst (v := 2) hx hb dL_law_504 (by decide) ?_
                            refine lv_iadd hx hb dL_law_505 ?_
                            replace hm := ob hm; obtain ⟨x232, e233, hm⟩ := hm
                            refine r_sx C0 hX hS e233 dL_law_506 ?_
                            replace hm := ob hm; obtain ⟨u234, e235, hm⟩ := hm
                            replace hm := ob hm; obtain ⟨x237, e236, hm⟩ := hm
                            refine z_calli (z_runV (As := [.int x230, .int x232]) (rest := []) (ci := 8) rfl rfl C0 lv_L_57 (b_X8_logAt e236) hW hS e235 rfl hl.1 rfl (Nat.le_of_ble_eq_true rfl) dL_law_507 rfl rfl ⟨Nat.le_of_ble_eq_true rfl, Nat.le_of_ble_eq_true rfl⟩ ⟨Nat.le_of_ble_eq_true rfl, Nat.le_of_ble_eq_true rfl⟩) hS (fun H locs hW hS => ?_)
                            refine lv_aload_n hx hb dL_law_510 rfl (lv_at hl 2 rfl) ?_
                            refine lv_aload_n hx hb dL_law_511 rfl (lv_at hl 0 rfl) ?_
                            refine lv_iload_n hx hb dL_law_512 rfl (lv_at hl 3 rfl) ?_
                            refine lv_iconst (v := 1) hx hb dL_law_513 (by decide) ?_
                            refine lv_iadd hx hb dL_law_514 ?_
                            replace hm := ob hm; obtain ⟨x238, e239, hm⟩ := hm
                            refine r_sx C0 hX hS e239 dL_law_515 ?_
                            refine lv_aload_n hx hb dL_law_516 rfl (lv_at hl 0 rfl) ?_
                            refine lv_iload_n hx hb dL_law_517 rfl (lv_at hl 3 rfl) ?_
                            refine lv_iconst (v := 2) hx hb dL_law_518 (by decide) ?_
                            refine lv_iadd hx hb dL_law_519 ?_
                            replace hm := ob hm; obtain ⟨x240, e241, hm⟩ := hm
                            refine r_sx C0 hX hS e241 dL_law_520 ?_
                            replace hm := ob hm; obtain ⟨u242, e243, hm⟩ := hm
                            replace hm := ob hm; obtain ⟨x245, e244, hm⟩ := hm
                            refine z_calli (z_runV (As := [.int x238, .int x240]) (rest := [.int x237]) (ci := 9) rfl rfl C0 lv_L_60 (b_X9_logAt e244) hW hS e243 rfl hl.1 rfl (Nat.le_of_ble_eq_true rfl) dL_law_521 rfl rfl ⟨Nat.le_of_ble_eq_true rfl, Nat.le_of_ble_eq_true rfl⟩ ⟨Nat.le_of_ble_eq_true rfl, Nat.le_of_ble_eq_true rfl⟩) hS (fun H locs hW hS => ?_)
                            refine lv_icmp_eq (tgt := 782) hx hb dL_law_524 (by decide) (fun h246 => ?_) (fun h246 => ?_)
                            · rw [if_pos h246] at hm
                              replace hm := ob hm; obtain ⟨x247, e248, hm⟩ := hm
                              refine lv_iinc (v := x247) (lv' := [(3, .int x247), (0, .ref v0), (1, .ref v1), (2, .ref v2)]) hx hb dL_law_782 hl (k := 3) rfl (Option.some.inj e248) (by decide) rfl (fun ls hl => ?_)
                              refine lv_goto (tgt := 18) hx hb dL_law_785 (by decide) ?_
                              exact ih hm C0 hX hW hS (lv_sub hl [1, 2, 3, 0] rfl) kr kk
                            · rw [if_neg h246] at hm
                              refine lv_iconst (v := 0) hx hb dL_law_527 (by decide) ?_
                              cases hm
                              exact kr _ rfl _ _ _ _ dL_law_528 hS
                          · rw [if_neg h229] at hm
                            by_cases h249 : x4 = 11
                            · rw [if_pos h249] at hm
                              refine z_top (congrArg some h249) ?_
                              refine lv_tableIn (tgt := 529) hx hb dL_law_32 (by decide) (by decide) rfl (by decide) ?_
                              refine lv_aload_n hx hb dL_law_529 rfl (lv_at hl 1 rfl) ?_
                              refine lv_aload_n hx hb dL_law_530 rfl (lv_at hl 0 rfl) ?_
                              refine lv_iload_n hx hb dL_law_531 rfl (lv_at hl 3 rfl) ?_
                              refine lv_iconst (v := 1) hx hb dL_law_532 (by decide) ?_
                              refine lv_iadd hx hb dL_law_533 ?_
                              replace hm := ob hm; obtain ⟨x250, e251, hm⟩ := hm
                              refine r_sx C0 hX hS e251 dL_law_534 ?_
                              replace hm := ob hm; obtain ⟨u252, e253, hm⟩ := hm
                              replace hm := ob hm; obtain ⟨x255, e254, hm⟩ := hm
                              refine z_calli (z_runV (As := [.int x250]) (rest := []) (ci := 8) rfl rfl C0 lv_L_61 (b_X8_count e254) hW hS e253 rfl hl.1 rfl (Nat.le_of_ble_eq_true rfl) dL_law_535 rfl rfl ⟨Nat.le_of_ble_eq_true rfl, Nat.le_of_ble_eq_true rfl⟩ ⟨Nat.le_of_ble_eq_true rfl, Nat.le_of_ble_eq_true rfl⟩) hS (fun H locs hW hS => ?_)
                              refine lv_aload_n hx hb dL_law_538 rfl (lv_at hl 2 rfl) ?_
                              refine lv_aload_n hx hb dL_law_539 rfl (lv_at hl 0 rfl) ?_
                              refine lv_iload_n hx hb dL_law_540 rfl (lv_at hl 3 rfl) ?_
                              refine lv_iconst (v := 1) hx hb dL_law_541 (by decide) ?_
                              refine lv_iadd hx hb dL_law_542 ?_
                              replace hm := ob hm; obtain ⟨x256, e257, hm⟩ := hm
                              refine r_sx C0 hX hS e257 dL_law_543 ?_
                              replace hm := ob hm; obtain ⟨u258, e259, hm⟩ := hm
                              replace hm := ob hm; obtain ⟨x261, e260, hm⟩ := hm
                              refine z_calli (z_runV (As := [.int x256]) (rest := [.int x255]) (ci := 9) rfl rfl C0 lv_L_64 (b_X9_count e260) hW hS e259 rfl hl.1 rfl (Nat.le_of_ble_eq_true rfl) dL_law_544 rfl rfl ⟨Nat.le_of_ble_eq_true rfl, Nat.le_of_ble_eq_true rfl⟩ ⟨Nat.le_of_ble_eq_true rfl, Nat.le_of_ble_eq_true rfl⟩) hS (fun H locs hW hS => ?_)
                              refine lv_icmp_eq (tgt := 782) hx hb dL_law_547 (by decide) (fun h262 => ?_) (fun h262 => ?_)
                              · rw [if_pos h262] at hm
                                replace hm := ob hm; obtain ⟨x263, e264, hm⟩ := hm
                                refine lv_iinc (v := x263) (lv' := [(3, .int x263), (0, .ref v0), (1, .ref v1), (2, .ref v2)]) hx hb dL_law_782 hl (k := 3) rfl (Option.some.inj e264) (by decide) rfl (fun ls hl => ?_)
                                refine lv_goto (tgt := 18) hx hb dL_law_785 (by decide) ?_
                                exact ih hm C0 hX hW hS (lv_sub hl [1, 2, 3, 0] rfl) kr kk
                              · rw [if_neg h262] at hm
                                refine lv_iconst (v := 0) hx hb dL_law_550 (by decide) ?_
                                cases hm
                                exact kr _ rfl _ _ _ _ dL_law_551 hS
                            · rw [if_neg h249] at hm
                              by_cases h265 : x4 = 12
                              · rw [if_pos h265] at hm
                                refine z_top (congrArg some h265) ?_
                                refine lv_tableIn (tgt := 552) hx hb dL_law_32 (by decide) (by decide) rfl (by decide) ?_
                                refine lv_aload_n hx hb dL_law_552 rfl (lv_at hl 1 rfl) ?_
                                refine lv_aload_n hx hb dL_law_553 rfl (lv_at hl 0 rfl) ?_
                                refine lv_iload_n hx hb dL_law_554 rfl (lv_at hl 3 rfl) ?_
                                refine lv_iconst (v := 1) hx hb dL_law_555 (by decide) ?_
                                refine lv_iadd hx hb dL_law_556 ?_
                                replace hm := ob hm; obtain ⟨x266, e267, hm⟩ := hm
                                refine r_sx C0 hX hS e267 dL_law_557 ?_
                                replace hm := ob hm; obtain ⟨u268, e269, hm⟩ := hm
                                replace hm := ob hm; obtain ⟨x271, e270, hm⟩ := hm
                                refine z_calli (z_runV (As := [.int x266]) (rest := []) (ci := 8) rfl rfl C0 lv_L_65 (b_X8_errorBits e270) hW hS e269 rfl hl.1 rfl (Nat.le_of_ble_eq_true rfl) dL_law_558 rfl rfl ⟨Nat.le_of_ble_eq_true rfl, Nat.le_of_ble_eq_true rfl⟩ ⟨Nat.le_of_ble_eq_true rfl, Nat.le_of_ble_eq_true rfl⟩) hS (fun H locs hW hS => ?_)
                                refine lv_aload_n hx hb dL_law_561 rfl (lv_at hl 2 rfl) ?_
                                refine lv_aload_n hx hb dL_law_562 rfl (lv_at hl 0 rfl) ?_
                                refine lv_iload_n hx hb dL_law_563 rfl (lv_at hl 3 rfl) ?_
                                refine lv_iconst (v := 1) hx hb dL_law_564 (by decide) ?_
                                refine lv_iadd hx hb dL_law_565 ?_
                                replace hm := ob hm; obtain ⟨x272, e273, hm⟩ := hm
                                refine r_sx C0 hX hS e273 dL_law_566 ?_
                                replace hm := ob hm; obtain ⟨u274, e275, hm⟩ := hm
                                replace hm := ob hm; obtain ⟨x277, e276, hm⟩ := hm
                                refine z_calli (z_runV (As := [.int x272]) (rest := [.int x271]) (ci := 9) rfl rfl C0 lv_L_68 (b_X9_errorBits e276) hW hS e275 rfl hl.1 rfl (Nat.le_of_ble_eq_true rfl) dL_law_567 rfl rfl ⟨Nat.le_of_ble_eq_true rfl, Nat.le_of_ble_eq_true rfl⟩ ⟨Nat.le_of_ble_eq_true rfl, Nat.le_of_ble_eq_true rfl⟩) hS (fun H locs hW hS => ?_)
                                refine lv_icmp_eq (tgt := 782) hx hb dL_law_570 (by decide) (fun h278 => ?_) (fun h278 => ?_)
                                · rw [if_pos h278] at hm
                                  replace hm := ob hm; obtain ⟨x279, e280, hm⟩ := hm
                                  refine lv_iinc (v := x279) (lv' := [(3, .int x279), (0, .ref v0), (1, .ref v1), (2, .ref v2)]) hx hb dL_law_782 hl (k := 3) rfl (Option.some.inj e280) (by decide) rfl (fun ls hl => ?_)
                                  refine lv_goto (tgt := 18) hx hb dL_law_785 (by decide) ?_
                                  exact ih hm C0 hX hW hS (lv_sub hl [1, 2, 3, 0] rfl) kr kk
                                · rw [if_neg h278] at hm
                                  refine lv_iconst (v := 0) hx hb dL_law_573 (by decide) ?_
                                  cases hm
                                  exact kr _ rfl _ _ _ _ dL_law_574 hS
                              · rw [if_neg h265] at hm
                                by_cases h281 : x4 = 13
                                · rw [if_pos h281] at hm
                                  refine z_top (congrArg some h281) ?_
                                  refine lv_tableIn (tgt := 575) hx hb dL_law_32 (by decide) (by decide) rfl (by decide) ?_
                                  refine lv_aload_n hx hb dL_law_575 rfl (lv_at hl 1 rfl) ?_
                                  refine lv_aload_n hx hb dL_law_576 rfl (lv_at hl 0 rfl) ?_
                                  refine lv_iload_n hx hb dL_law_577 rfl (lv_at hl 3 rfl) ?_
                                  refine lv_iconst (v := 1) hx hb dL_law_578 (by decide) ?_
                                  refine lv_iadd hx hb dL_law_579 ?_
                                  replace hm := ob hm; obtain ⟨x282, e283, hm⟩ := hm
                                  refine r_sx C0 hX hS e283 dL_law_580 ?_
                                  replace hm := ob hm; obtain ⟨u284, e285, hm⟩ := hm
                                  replace hm := ob hm; obtain ⟨x287, e286, hm⟩ := hm
                                  refine z_calli (z_runV (As := [.int x282]) (rest := []) (ci := 8) rfl rfl C0 lv_L_69 (b_X8_byError e286) hW hS e285 rfl hl.1 rfl (Nat.le_of_ble_eq_true rfl) dL_law_581 rfl rfl ⟨Nat.le_of_ble_eq_true rfl, Nat.le_of_ble_eq_true rfl⟩ ⟨Nat.le_of_ble_eq_true rfl, Nat.le_of_ble_eq_true rfl⟩) hS (fun H locs hW hS => ?_)
                                  refine lv_aload_n hx hb dL_law_584 rfl (lv_at hl 2 rfl) ?_
                                  refine lv_aload_n hx hb dL_law_585 rfl (lv_at hl 0 rfl) ?_
                                  refine lv_iload_n hx hb dL_law_586 rfl (lv_at hl 3 rfl) ?_
                                  refine lv_iconst (v := 1) hx hb dL_law_587 (by decide) ?_
                                  refine lv_iadd hx hb dL_law_588 ?_
                                  replace hm := ob hm; obtain ⟨x288, e289, hm⟩ := hm
                                  refine r_sx C0 hX hS e289 dL_law_589 ?_
                                  replace hm := ob hm; obtain ⟨u290, e291, hm⟩ := hm
                                  replace hm := ob hm; obtain ⟨x293, e292, hm⟩ := hm
                                  refine z_calli (z_runV (As := [.int x288]) (rest := [.int x287]) (ci := 9) rfl rfl C0 lv_L_72 (b_X9_byError e292) hW hS e291 rfl hl.1 rfl (Nat.le_of_ble_eq_true rfl) dL_law_590 rfl rfl ⟨Nat.le_of_ble_eq_true rfl, Nat.le_of_ble_eq_true rfl⟩ ⟨Nat.le_of_ble_eq_true rfl, Nat.le_of_ble_eq_true rfl⟩) hS (fun H locs hW hS => ?_)
                                  refine lv_icmp_eq (tgt := 782) hx hb dL_law_593 (by decide) (fun h294 => ?_) (fun h294 => ?_)
                                  · rw [if_pos h294] at hm
                                    replace hm := ob hm; obtain ⟨x295, e296, hm⟩ := hm
                                    refine lv_iinc (v := x295) (lv' := [(3, .int x295), (0, .ref v0), (1, .ref v1), (2, .ref v2)]) hx hb dL_law_782 hl (k := 3) rfl (Option.some.inj e296) (by decide) rfl (fun ls hl => ?_)
                                    refine lv_goto (tgt := 18) hx hb dL_law_785 (by decide) ?_
                                    exact ih hm C0 hX hW hS (lv_sub hl [1, 2, 3, 0] rfl) kr kk
                                  · rw [if_neg h294] at hm
                                    refine lv_iconst (v := 0) hx hb dL_law_596 (by decide) ?_
                                    cases hm
                                    exact kr _ rfl _ _ _ _ dL_law_597 hS
                                · rw [if_neg h281] at hm
                                  by_cases h297 : x4 = 14
                                  · rw [if_pos h297] at hm
                                    refine z_top (congrArg some h297) ?_
                                    refine lv_tableIn (tgt := 598) hx hb dL_law_32 (by decide) (by decide) rfl (by decide) ?_
                                    refine lv_aload_n hx hb dL_law_598 rfl (lv_at hl 1 rfl) ?_
                                    refine lv_aload_n hx hb dL_law_599 rfl (lv_at hl 0 rfl) ?_
                                    refine lv_iload_n hx hb dL_law_600 rfl (lv_at hl 3 rfl) ?_
                                    refine lv_iconst (v := 1) hx hb dL_law_601 (by decide) ?_
                                    refine lv_iadd hx hb dL_law_602 ?_
                                    replace hm := ob hm; obtain ⟨x298, e299, hm⟩ := hm
                                    refine r_sx C0 hX hS e299 dL_law_603 ?_
                                    refine lv_aload_n hx hb dL_law_604 rfl (lv_at hl 0 rfl) ?_
                                    refine lv_iload_n hx hb dL_law_605 rfl (lv_at hl 3 rfl) ?_
                                    refine lv_iconst (v := 2) hx hb dL_law_606 (by decide) ?_
                                    refine lv_iadd hx hb dL_law_607 ?_
                                    replace hm := ob hm; obtain ⟨x300, e301, hm⟩ := hm
                                    refine r_sx C0 hX hS e301 dL_law_608 ?_
                                    replace hm := ob hm; obtain ⟨u302, e303, hm⟩ := hm
                                    replace hm := o2 hm; obtain ⟨x306, σ305, e304, hm⟩ := hm
                                    refine z_calli (z_runV (As := [.int x298, .int x300]) (rest := []) (ci := 8) rfl rfl C0 lv_L_73 (b_X8_would e304) hW hS e303 rfl hl.1 rfl (Nat.le_of_ble_eq_true rfl) dL_law_609 rfl rfl ⟨Nat.le_of_ble_eq_true rfl, Nat.le_of_ble_eq_true rfl⟩ ⟨Nat.le_of_ble_eq_true rfl, Nat.le_of_ble_eq_true rfl⟩) hS (fun H locs hW hS => ?_)
                                    refine lv_aload_n hx hb dL_law_612 rfl (lv_at hl 2 rfl) ?_
                                    refine lv_aload_n hx hb dL_law_613 rfl (lv_at hl 0 rfl) ?_
                                    refine lv_iload_n hx hb dL_law_614 rfl (lv_at hl 3 rfl) ?_
                                    refine lv_iconst (v := 1) hx hb dL_law_615 (by decide) ?_
                                    refine lv_iadd hx hb dL_law_616 ?_
                                    replace hm := ob hm; obtain ⟨x307, e308, hm⟩ := hm
                                    refine r_sx C0 hX hS e308 dL_law_617 ?_
                                    refine lv_aload_n hx hb dL_law_618 rfl (lv_at hl 0 rfl) ?_
                                    refine lv_iload_n hx hb dL_law_619 rfl (lv_at hl 3 rfl) ?_
                                    refine lv_iconst (v := 2) hx hb dL_law_620 (by decide) ?_
                                    refine lv_iadd hx hb dL_law_621 ?_
                                    replace hm := ob hm; obtain ⟨x309, e310, hm⟩ := hm
                                    refine r_sx C0 hX hS e310 dL_law_622 ?_
                                    replace hm := ob hm; obtain ⟨u311, e312, hm⟩ := hm
                                    replace hm := o2 hm; obtain ⟨x315, σ314, e313, hm⟩ := hm
                                    refine z_calli (z_runV (As := [.int x307, .int x309]) (rest := [.int x306]) (ci := 9) rfl rfl C0 lv_L_76 (b_X9_would e313) hW hS e312 rfl hl.1 rfl (Nat.le_of_ble_eq_true rfl) dL_law_623 rfl rfl ⟨Nat.le_of_ble_eq_true rfl, Nat.le_of_ble_eq_true rfl⟩ ⟨Nat.le_of_ble_eq_true rfl, Nat.le_of_ble_eq_true rfl⟩) hS (fun H locs hW hS => ?_)
                                    refine lv_icmp_eq (tgt := 782) hx hb dL_law_626 (by decide) (fun h316 => ?_) (fun h316 => ?_)
                                    · rw [if_pos h316] at hm
                                      replace hm := ob hm; obtain ⟨x317, e318, hm⟩ := hm
                                      refine lv_iinc (v := x317) (lv' := [(3, .int x317), (0, .ref v0), (1, .ref v1), (2, .ref v2)]) hx hb dL_law_782 hl (k := 3) rfl (Option.some.inj e318) (by decide) rfl (fun ls hl => ?_)
                                      refine lv_goto (tgt := 18) hx hb dL_law_785 (by decide) ?_
                                      exact ih hm C0 hX hW hS (lv_sub hl [1, 2, 3, 0] rfl) kr kk
                                    · rw [if_neg h316] at hm
                                      refine lv_iconst (v := 0) hx hb dL_law_629 (by decide) ?_
                                      cases hm
                                      exact kr _ rfl _ _ _ _ dL_law_630 hS
                                  · rw [if_neg h297] at hm
                                    by_cases h319 : x4 = 15
                                    · rw [if_pos h319] at hm
                                      refine z_top (congrArg some h319) ?_
                                      refine lv_tableIn (tgt := 631) hx hb dL_law_32 (by decide) (by decide) rfl (by decide) ?_
                                      refine lv_aload_n hx hb dL_law_631 rfl (lv_at hl 1 rfl) ?_
                                      refine lv_aload_n hx hb dL_law_632 rfl (lv_at hl 0 rfl) ?_
                                      refine lv_iload_n hx hb dL_law_633 rfl (lv_at hl 3 rfl) ?_
                                      refine lv_iconst (v := 1) hx hb dL_law_634 (by decide) ?_
                                      refine lv_iadd hx hb dL_law_635 ?_
                                      replace hm := ob hm; obtain ⟨x320, e321, hm⟩ := hm
                                      refine r_sx C0 hX hS e321 dL_law_636 ?_
                                      replace hm := ob hm; obtain ⟨u322, e323, hm⟩ := hm
                                      replace hm := ob hm; obtain ⟨x325, e324, hm⟩ := hm
                                      refine z_calli (z_runV (As := [.int x320]) (rest := []) (ci := 8) rfl rfl C0 lv_L_77 (b_X8_raises e324) hW hS e323 rfl hl.1 rfl (Nat.le_of_ble_eq_true rfl) dL_law_637 rfl rfl ⟨Nat.le_of_ble_eq_true rfl, Nat.le_of_ble_eq_true rfl⟩ ⟨Nat.le_of_ble_eq_true rfl, Nat.le_of_ble_eq_true rfl⟩) hS (fun H locs hW hS => ?_)
                                      refine lv_aload_n hx hb dL_law_640 rfl (lv_at hl 2 rfl) ?_
                                      refine lv_aload_n hx hb dL_law_641 rfl (lv_at hl 0 rfl) ?_
                                      refine lv_iload_n hx hb dL_law_642 rfl (lv_at hl 3 rfl) ?_
                                      refine lv_iconst (v := 1) hx hb dL_law_643 (by decide) ?_
                                      refine lv_iadd hx hb dL_law_644 ?_
                                      replace hm := ob hm; obtain ⟨x326, e327, hm⟩ := hm
                                      refine r_sx C0 hX hS e327 dL_law_645 ?_
                                      replace hm := ob hm; obtain ⟨u328, e329, hm⟩ := hm
                                      replace hm := o2 hm; obtain ⟨x332, σ331, e330, hm⟩ := hm
                                      refine z_calli (z_runV (As := [.int x326]) (rest := [.int x325]) (ci := 9) rfl rfl C0 lv_L_80 (b_X9_raises e330) hW hS e329 rfl hl.1 rfl (Nat.le_of_ble_eq_true rfl) dL_law_646 rfl rfl ⟨Nat.le_of_ble_eq_true rfl, Nat.le_of_ble_eq_true rfl⟩ ⟨Nat.le_of_ble_eq_true rfl, Nat.le_of_ble_eq_true rfl⟩) hS (fun H locs hW hS => ?_)
                                      refine lv_icmp_eq (tgt := 782) hx hb dL_law_649 (by decide) (fun h333 => ?_) (fun h333 => ?_)
                                      · rw [if_pos h333] at hm
                                        replace hm := ob hm; obtain ⟨x334, e335, hm⟩ := hm
                                        refine lv_iinc (v := x334) (lv' := [(3, .int x334), (0, .ref v0), (1, .ref v1), (2, .ref v2)]) hx hb dL_law_782 hl (k := 3) rfl (Option.some.inj e335) (by decide) rfl (fun ls hl => ?_)
                                        refine lv_goto (tgt := 18) hx hb dL_law_785 (by decide) ?_
                                        exact ih hm C0 hX hW hS (lv_sub hl [1, 2, 3, 0] rfl) kr kk
                                      · rw [if_neg h333] at hm
                                        refine lv_iconst (v := 0) hx hb dL_law_652 (by decide) ?_
                                        cases hm
                                        exact kr _ rfl _ _ _ _ dL_law_653 hS
                                    · rw [if_neg h319] at hm
                                      by_cases h336 : x4 = 16
                                      · rw [if_pos h336] at hm
                                        refine z_top (congrArg some h336) ?_
                                        refine lv_tableIn (tgt := 654) hx hb dL_law_32 (by decide) (by decide) rfl (by decide) ?_
                                        refine lv_aload_n hx hb dL_law_654 rfl (lv_at hl 1 rfl) ?_
                                        refine lv_aload_n hx hb dL_law_655 rfl (lv_at hl 0 rfl) ?_
                                        refine lv_iload_n hx hb dL_law_656 rfl (lv_at hl 3 rfl) ?_
                                        refine lv_iconst (v := 1) hx hb dL_law_657 (by decide) ?_
                                        refine lv_iadd hx hb dL_law_658 ?_
                                        replace hm := ob hm; obtain ⟨x337, e338, hm⟩ := hm
                                        refine r_sx C0 hX hS e338 dL_law_659 ?_
                                        refine lv_aload_n hx hb dL_law_660 rfl (lv_at hl 0 rfl) ?_
                                        refine lv_iload_n hx hb dL_law_661 rfl (lv_at hl 3 rfl) ?_
                                        refine lv_iconst (v := 2) hx hb dL_law_662 (by decide) ?_
                                        refine lv_iadd hx hb dL_law_663 ?_
                                        replace hm := ob hm; obtain ⟨x339, e340, hm⟩ := hm
                                        refine r_sx C0 hX hS e340 dL_law_664 ?_
                                        refine lv_aload_n hx hb dL_law_665 rfl (lv_at hl 0 rfl) ?_
                                        refine lv_iload_n hx hb dL_law_666 rfl (lv_at hl 3 rfl) ?_
                                        refine lv_iconst (v := 3) hx hb dL_law_667 (by decide) ?_
                                        refine lv_iadd hx hb dL_law_668 ?_
                                        replace hm := ob hm; obtain ⟨x341, e342, hm⟩ := hm
                                        refine r_sx C0 hX hS e342 dL_law_669 ?_
                                        replace hm := ob hm; obtain ⟨u343, e344, hm⟩ := hm
                                        replace hm := o2 hm; obtain ⟨x347, σ346, e345, hm⟩ := hm
                                        refine z_calli (z_runV (As := [.int x337, .int x339, .int x341]) (rest := []) (ci := 8) rfl rfl C0 lv_L_81 (b_X8_both e345) hW hS e344 rfl hl.1 rfl (Nat.le_of_ble_eq_true rfl) dL_law_670 rfl rfl ⟨Nat.le_of_ble_eq_true rfl, Nat.le_of_ble_eq_true rfl⟩ ⟨Nat.le_of_ble_eq_true rfl, Nat.le_of_ble_eq_true rfl⟩) hS (fun H locs hW hS => ?_)
                                        refine lv_aload_n hx hb dL_law_673 rfl (lv_at hl 2 rfl) ?_
                                        refine lv_aload_n hx hb dL_law_674 rfl (lv_at hl 0 rfl) ?_
                                        refine lv_iload_n hx hb dL_law_675 rfl (lv_at hl 3 rfl) ?_
                                        refine lv_iconst (v := 1) hx hb dL_law_676 (by decide) ?_
                                        refine lv_iadd hx hb dL_law_677 ?_
                                        replace hm := ob hm; obtain ⟨x348, e349, hm⟩ := hm
                                        refine r_sx C0 hX hS e349 dL_law_678 ?_
                                        refine lv_aload_n hx hb dL_law_679 rfl (lv_at hl 0 rfl) ?_
                                        refine lv_iload_n hx hb dL_law_680 rfl (lv_at hl 3 rfl) ?_
                                        refine lv_iconst (v := 2) hx hb dL_law_681 (by decide) ?_
                                        refine lv_iadd hx hb dL_law_682 ?_
                                        replace hm := ob hm; obtain ⟨x350, e351, hm⟩ := hm
                                        refine r_sx C0 hX hS e351 dL_law_683 ?_
                                        refine lv_aload_n hx hb dL_law_684 rfl (lv_at hl 0 rfl) ?_
                                        refine lv_iload_n hx hb dL_law_685 rfl (lv_at hl 3 rfl) ?_
                                        refine lv_iconst (v := 3) hx hb dL_law_686 (by decide) ?_
                                        refine lv_iadd hx hb dL_law_687 ?_
                                        replace hm := ob hm; obtain ⟨x352, e353, hm⟩ := hm
                                        refine r_sx C0 hX hS e353 dL_law_688 ?_
                                        replace hm := ob hm; obtain ⟨u354, e355, hm⟩ := hm
                                        replace hm := o2 hm; obtain ⟨x358, σ357, e356, hm⟩ := hm
                                        refine z_calli (z_runV (As := [.int x348, .int x350, .int x352]) (rest := [.int x347]) (ci := 9) rfl rfl C0 lv_L_84 (b_X9_both e356) hW hS e355 rfl hl.1 rfl (Nat.le_of_ble_eq_true rfl) dL_law_689 rfl rfl ⟨Nat.le_of_ble_eq_true rfl, Nat.le_of_ble_eq_true rfl⟩ ⟨Nat.le_of_ble_eq_true rfl, Nat.le_of_ble_eq_true rfl⟩) hS (fun H locs hW hS => ?_)
                                        refine lv_icmp_eq (tgt := 782) hx hb dL_law_692 (by decide) (fun h359 => ?_) (fun h359 => ?_)
                                        · rw [if_pos h359] at hm
                                          replace hm := ob hm; obtain ⟨x360, e361, hm⟩ := hm
                                          refine lv_iinc (v := x360) (lv' := [(3, .int x360), (0, .ref v0), (1, .ref v1), (2, .ref v2)]) hx hb dL_law_782 hl (k := 3) rfl (Option.some.inj e361) (by decide) rfl (fun ls hl => ?_)
                                          refine lv_goto (tgt := 18) hx hb dL_law_785 (by decide) ?_
                                          exact ih hm C0 hX hW hS (lv_sub hl [1, 2, 3, 0] rfl) kr kk
                                        · rw [if_neg h359] at hm
                                          refine lv_iconst (v := 0) hx hb dL_law_695 (by decide) ?_
                                          cases hm
                                          exact kr _ rfl _ _ _ _ dL_law_696 hS
                                      · rw [if_neg h336] at hm
                                        by_cases h362 : x4 = 17
                                        · rw [if_pos h362] at hm
                                          refine z_top (congrArg some h362) ?_
                                          refine lv_tableIn (tgt := 697) hx hb dL_law_32 (by decide) (by decide) rfl (by decide) ?_
                                          refine lv_aload_n hx hb dL_law_697 rfl (lv_at hl 1 rfl) ?_
                                          replace hm := ob hm; obtain ⟨u363, e364, hm⟩ := hm
                                          replace hm := o2 hm; obtain ⟨x367, σ366, e365, hm⟩ := hm
                                          refine z_calli (z_runV (As := []) (rest := []) (ci := 8) rfl rfl C0 lv_L_85 (b_X8_undo e365) hW hS e364 rfl hl.1 rfl (Nat.le_of_ble_eq_true rfl) dL_law_698 rfl rfl ⟨Nat.le_of_ble_eq_true rfl, Nat.le_of_ble_eq_true rfl⟩ ⟨Nat.le_of_ble_eq_true rfl, Nat.le_of_ble_eq_true rfl⟩) hS (fun H locs hW hS => ?_)
                                          refine lv_aload_n hx hb dL_law_701 rfl (lv_at hl 2 rfl) ?_
                                          replace hm := ob hm; obtain ⟨u368, e369, hm⟩ := hm
                                          replace hm := o2 hm; obtain ⟨x372, σ371, e370, hm⟩ := hm
                                          refine z_calli (z_runV (As := []) (rest := [.int x367]) (ci := 9) rfl rfl C0 lv_L_89 (b_X9_undo e370) hW hS e369 rfl hl.1 rfl (Nat.le_of_ble_eq_true rfl) dL_law_702 rfl rfl ⟨Nat.le_of_ble_eq_true rfl, Nat.le_of_ble_eq_true rfl⟩ ⟨Nat.le_of_ble_eq_true rfl, Nat.le_of_ble_eq_true rfl⟩) hS (fun H locs hW hS => ?_)
                                          refine lv_icmp_eq (tgt := 782) hx hb dL_law_705 (by decide) (fun h373 => ?_) (fun h373 => ?_)
                                          · rw [if_pos h373] at hm
                                            replace hm := ob hm; obtain ⟨x374, e375, hm⟩ := hm
                                            refine lv_iinc (v := x374) (lv' := [(3, .int x374), (0, .ref v0), (1, .ref v1), (2, .ref v2)]) hx hb dL_law_782 hl (k := 3) rfl (Option.some.inj e375) (by decide) rfl (fun ls hl => ?_)
                                            refine lv_goto (tgt := 18) hx hb dL_law_785 (by decide) ?_
                                            exact ih hm C0 hX hW hS (lv_sub hl [1, 2, 3, 0] rfl) kr kk
                                          · rw [if_neg h373] at hm
                                            refine lv_iconst (v := 0) hx hb dL_law_708 (by decide) ?_
                                            cases hm
                                            exact kr _ rfl _ _ _ _ dL_law_709 hS
                                        · rw [if_neg h362] at hm
                                          by_cases h376 : x4 = 18
                                          · rw [if_pos h376] at hm
                                            refine z_top (congrArg some h376) ?_
                                            refine lv_tableIn (tgt := 710) hx hb dL_law_32 (by decide) (by decide) rfl (by decide) ?_
                                            refine lv_aload_n hx hb dL_law_710 rfl (lv_at hl 1 rfl) ?_
                                            refine lv_aload_n hx hb dL_law_711 rfl (lv_at hl 0 rfl) ?_
                                            refine lv_iload_n hx hb dL_law_712 rfl (lv_at hl 3 rfl) ?_
                                            refine lv_iconst (v := 1) hx hb dL_law_713 (by decide) ?_
                                            refine lv_iadd hx hb dL_law_714 ?_
                                            replace hm := ob hm; obtain ⟨x377, e378, hm⟩ := hm
                                            refine r_sx C0 hX hS e378 dL_law_715 ?_
                                            replace hm := ob hm; obtain ⟨u379, e380, hm⟩ := hm
                                            replace hm := o2 hm; obtain ⟨x383, σ382, e381, hm⟩ := hm
                                            refine z_calli (z_runV (As := [.int x377]) (rest := []) (ci := 8) rfl rfl C0 lv_L_90 (b_X8_type e381) hW hS e380 rfl hl.1 rfl (Nat.le_of_ble_eq_true rfl) dL_law_716 rfl rfl ⟨Nat.le_of_ble_eq_true rfl, Nat.le_of_ble_eq_true rfl⟩ ⟨Nat.le_of_ble_eq_true rfl, Nat.le_of_ble_eq_true rfl⟩) hS (fun H locs hW hS => ?_)
                                            refine lv_aload_n hx hb dL_law_719 rfl (lv_at hl 2 rfl) ?_
                                            refine lv_aload_n hx hb dL_law_720 rfl (lv_at hl 0 rfl) ?_
                                            refine lv_iload_n hx hb dL_law_721 rfl (lv_at hl 3 rfl) ?_
                                            refine lv_iconst (v := 1) hx hb dL_law_722 (by decide) ?_
                                            refine lv_iadd hx hb dL_law_723 ?_
                                            replace hm := ob hm; obtain ⟨x384, e385, hm⟩ := hm
                                            refine r_sx C0 hX hS e385 dL_law_724 ?_
                                            replace hm := ob hm; obtain ⟨u386, e387, hm⟩ := hm
                                            replace hm := o2 hm; obtain ⟨x390, σ389, e388, hm⟩ := hm
                                            refine z_calli (z_runV (As := [.int x384]) (rest := [.int x383]) (ci := 9) rfl rfl C0 lv_L_93 (b_X9_type e388) hW hS e387 rfl hl.1 rfl (Nat.le_of_ble_eq_true rfl) dL_law_725 rfl rfl ⟨Nat.le_of_ble_eq_true rfl, Nat.le_of_ble_eq_true rfl⟩ ⟨Nat.le_of_ble_eq_true rfl, Nat.le_of_ble_eq_true rfl⟩) hS (fun H locs hW hS => ?_)
                                            refine lv_icmp_eq (tgt := 782) hx hb dL_law_728 (by decide) (fun h391 => ?_) (fun h391 => ?_)
                                            · rw [if_pos h391] at hm
                                              replace hm := ob hm; obtain ⟨x392, e393, hm⟩ := hm
                                              refine lv_iinc (v := x392) (lv' := [(3, .int x392), (0, .ref v0), (1, .ref v1), (2, .ref v2)]) hx hb dL_law_782 hl (k := 3) rfl (Option.some.inj e393) (by decide) rfl (fun ls hl => ?_)
                                              refine lv_goto (tgt := 18) hx hb dL_law_785 (by decide) ?_
                                              exact ih hm C0 hX hW hS (lv_sub hl [1, 2, 3, 0] rfl) kr kk
                                            · rw [if_neg h391] at hm
                                              refine lv_iconst (v := 0) hx hb dL_law_731 (by decide) ?_
                                              cases hm
                                              exact kr _ rfl _ _ _ _ dL_law_732 hS
                                          · rw [if_neg h376] at hm
                                            by_cases h394 : x4 = 19
                                            · rw [if_pos h394] at hm
                                              refine z_top (congrArg some h394) ?_
                                              refine lv_tableIn (tgt := 733) hx hb dL_law_32 (by decide) (by decide) rfl (by decide) ?_
                                              refine lv_aload_n hx hb dL_law_733 rfl (lv_at hl 1 rfl) ?_
                                              replace hm := ob hm; obtain ⟨u395, e396, hm⟩ := hm
                                              replace hm := o2 hm; obtain ⟨x399, σ398, e397, hm⟩ := hm
                                              refine z_calli (z_runV (As := []) (rest := []) (ci := 8) rfl rfl C0 lv_L_94 (b_X8_clearText e397) hW hS e396 rfl hl.1 rfl (Nat.le_of_ble_eq_true rfl) dL_law_734 rfl rfl ⟨Nat.le_of_ble_eq_true rfl, Nat.le_of_ble_eq_true rfl⟩ ⟨Nat.le_of_ble_eq_true rfl, Nat.le_of_ble_eq_true rfl⟩) hS (fun H locs hW hS => ?_)
                                              refine lv_aload_n hx hb dL_law_737 rfl (lv_at hl 2 rfl) ?_
                                              replace hm := ob hm; obtain ⟨u400, e401, hm⟩ := hm
                                              replace hm := o2 hm; obtain ⟨x404, σ403, e402, hm⟩ := hm
                                              refine z_calli (z_runV (As := []) (rest := [.int x399]) (ci := 9) rfl rfl C0 lv_L_97 (b_X9_clearText e402) hW hS e401 rfl hl.1 rfl (Nat.le_of_ble_eq_true rfl) dL_law_738 rfl rfl ⟨Nat.le_of_ble_eq_true rfl, Nat.le_of_ble_eq_true rfl⟩ ⟨Nat.le_of_ble_eq_true rfl, Nat.le_of_ble_eq_true rfl⟩) hS (fun H locs hW hS => ?_)
                                              refine lv_icmp_eq (tgt := 782) hx hb dL_law_741 (by decide) (fun h405 => ?_) (fun h405 => ?_)
                                              · rw [if_pos h405] at hm
                                                replace hm := ob hm; obtain ⟨x406, e407, hm⟩ := hm
                                                refine lv_iinc (v := x406) (lv' := [(3, .int x406), (0, .ref v0), (1, .ref v1), (2, .ref v2)]) hx hb dL_law_782 hl (k := 3) rfl (Option.some.inj e407) (by decide) rfl (fun ls hl => ?_)
                                                refine lv_goto (tgt := 18) hx hb dL_law_785 (by decide) ?_
                                                exact ih hm C0 hX hW hS (lv_sub hl [1, 2, 3, 0] rfl) kr kk
                                              · rw [if_neg h405] at hm
                                                refine lv_iconst (v := 0) hx hb dL_law_744 (by decide) ?_
                                                cases hm
                                                exact kr _ rfl _ _ _ _ dL_law_745 hS
                                            · rw [if_neg h394] at hm
                                              by_cases h408 : x4 = 20
                                              · rw [if_pos h408] at hm
                                                refine z_top (congrArg some h408) ?_
                                                refine lv_tableIn (tgt := 746) hx hb dL_law_32 (by decide) (by decide) rfl (by decide) ?_
                                                refine lv_aload_n hx hb dL_law_746 rfl (lv_at hl 1 rfl) ?_
                                                refine lv_aload_n hx hb dL_law_747 rfl (lv_at hl 0 rfl) ?_
                                                refine lv_iload_n hx hb dL_law_748 rfl (lv_at hl 3 rfl) ?_
                                                refine lv_iconst (v := 1) hx hb dL_law_749 (by decide) ?_
                                                refine lv_iadd hx hb dL_law_750 ?_
                                                replace hm := ob hm; obtain ⟨x409, e410, hm⟩ := hm
                                                refine r_sx C0 hX hS e410 dL_law_751 ?_
                                                replace hm := ob hm; obtain ⟨u411, e412, hm⟩ := hm
                                                replace hm := o2 hm; obtain ⟨x415, σ414, e413, hm⟩ := hm
                                                refine z_calli (z_runV (As := [.int x409]) (rest := []) (ci := 8) rfl rfl C0 lv_L_98 (b_X8_fault e413) hW hS e412 rfl hl.1 rfl (Nat.le_of_ble_eq_true rfl) dL_law_752 rfl rfl ⟨Nat.le_of_ble_eq_true rfl, Nat.le_of_ble_eq_true rfl⟩ ⟨Nat.le_of_ble_eq_true rfl, Nat.le_of_ble_eq_true rfl⟩) hS (fun H locs hW hS => ?_)
                                                refine lv_aload_n hx hb dL_law_755 rfl (lv_at hl 2 rfl) ?_
                                                refine lv_aload_n hx hb dL_law_756 rfl (lv_at hl 0 rfl) ?_
                                                refine lv_iload_n hx hb dL_law_757 rfl (lv_at hl 3 rfl) ?_
                                                refine lv_iconst (v := 1) hx hb dL_law_758 (by decide) ?_
                                                refine lv_iadd hx hb dL_law_759 ?_
                                                replace hm := ob hm; obtain ⟨x416, e417, hm⟩ := hm
                                                refine r_sx C0 hX hS e417 dL_law_760 ?_
                                                replace hm := ob hm; obtain ⟨u418, e419, hm⟩ := hm
                                                replace hm := o2 hm; obtain ⟨x422, σ421, e420, hm⟩ := hm
                                                refine z_calli (z_runV (As := [.int x416]) (rest := [.int x415]) (ci := 9) rfl rfl C0 lv_L_101 (b_X9_fault e420) hW hS e419 rfl hl.1 rfl (Nat.le_of_ble_eq_true rfl) dL_law_761 rfl rfl ⟨Nat.le_of_ble_eq_true rfl, Nat.le_of_ble_eq_true rfl⟩ ⟨Nat.le_of_ble_eq_true rfl, Nat.le_of_ble_eq_true rfl⟩) hS (fun H locs hW hS => ?_)
                                                refine lv_icmp_eq (tgt := 782) hx hb dL_law_764 (by decide) (fun h423 => ?_) (fun h423 => ?_)
                                                · rw [if_pos h423] at hm
                                                  replace hm := ob hm; obtain ⟨x424, e425, hm⟩ := hm
                                                  refine lv_iinc (v := x424) (lv' := [(3, .int x424), (0, .ref v0), (1, .ref v1), (2, .ref v2)]) hx hb dL_law_782 hl (k := 3) rfl (Option.some.inj e425) (by decide) rfl (fun ls hl => ?_)
                                                  refine lv_goto (tgt := 18) hx hb dL_law_785 (by decide) ?_
                                                  exact ih hm C0 hX hW hS (lv_sub hl [1, 2, 3, 0] rfl) kr kk
                                                · rw [if_neg h423] at hm
                                                  refine lv_iconst (v := 0) hx hb dL_law_767 (by decide) ?_
                                                  cases hm
                                                  exact kr _ rfl _ _ _ _ dL_law_768 hS
                                              · rw [if_neg h408] at hm
                                                by_cases h426 : x4 = 21
                                                · rw [if_pos h426] at hm
                                                  refine z_top (congrArg some h426) ?_
                                                  refine lv_tableIn (tgt := 769) hx hb dL_law_32 (by decide) (by decide) rfl (by decide) ?_
                                                  refine lv_aload_n hx hb dL_law_769 rfl (lv_at hl 1 rfl) ?_
                                                  replace hm := ob hm; obtain ⟨u427, e428, hm⟩ := hm
                                                  replace hm := o2 hm; obtain ⟨x431, σ430, e429, hm⟩ := hm
                                                  refine z_calli (z_runV (As := []) (rest := []) (ci := 8) rfl rfl C0 lv_L_102 (b_X8_play e429) hW hS e428 rfl hl.1 rfl (Nat.le_of_ble_eq_true rfl) dL_law_770 rfl rfl ⟨Nat.le_of_ble_eq_true rfl, Nat.le_of_ble_eq_true rfl⟩ ⟨Nat.le_of_ble_eq_true rfl, Nat.le_of_ble_eq_true rfl⟩) hS (fun H locs hW hS => ?_)
                                                  refine lv_aload_n hx hb dL_law_773 rfl (lv_at hl 2 rfl) ?_
                                                  replace hm := ob hm; obtain ⟨u432, e433, hm⟩ := hm
                                                  replace hm := o2 hm; obtain ⟨x436, σ435, e434, hm⟩ := hm
                                                  refine z_calli (z_runV (As := []) (rest := [.int x431]) (ci := 9) rfl rfl C0 lv_L_105 (b_X9_play e434) hW hS e433 rfl hl.1 rfl (Nat.le_of_ble_eq_true rfl) dL_law_774 rfl rfl ⟨Nat.le_of_ble_eq_true rfl, Nat.le_of_ble_eq_true rfl⟩ ⟨Nat.le_of_ble_eq_true rfl, Nat.le_of_ble_eq_true rfl⟩) hS (fun H locs hW hS => ?_)
                                                  refine lv_icmp_eq (tgt := 782) hx hb dL_law_777 (by decide) (fun h437 => ?_) (fun h437 => ?_)
                                                  · rw [if_pos h437] at hm
                                                    replace hm := ob hm; obtain ⟨x438, e439, hm⟩ := hm
                                                    refine lv_iinc (v := x438) (lv' := [(3, .int x438), (0, .ref v0), (1, .ref v1), (2, .ref v2)]) hx hb dL_law_782 hl (k := 3) rfl (Option.some.inj e439) (by decide) rfl (fun ls hl => ?_)
                                                    refine lv_goto (tgt := 18) hx hb dL_law_785 (by decide) ?_
                                                    exact ih hm C0 hX hW hS (lv_sub hl [1, 2, 3, 0] rfl) kr kk
                                                  · rw [if_neg h437] at hm
                                                    refine lv_iconst (v := 0) hx hb dL_law_780 (by decide) ?_
                                                    cases hm
                                                    exact kr _ rfl _ _ _ _ dL_law_781 hS
                                                · rw [if_neg h426] at hm
                                                  refine lv_tableOut (tgt := 782) hx hb dL_law_32 (by have q0 := zne (a := 0) h6 (by decide); have q1 := zne (a := 1) h28 (by decide); have q2 := zne (a := 2) h50 (by decide); have q3 := zne (a := 3) h80 (by decide); have q4 := zne (a := 4) h102 (by decide); have q5 := zne (a := 5) h120 (by decide); have q6 := zne (a := 6) h140 (by decide); have q7 := zne (a := 7) h160 (by decide); have q8 := zne (a := 8) h184 (by decide); have q9 := zne (a := 9) h204 (by decide); have q10 := zne (a := 10) h229 (by decide); have q11 := zne (a := 11) h249 (by decide); have q12 := zne (a := 12) h265 (by decide); have q13 := zne (a := 13) h281 (by decide); have q14 := zne (a := 14) h297 (by decide); have q15 := zne (a := 15) h319 (by decide); have q16 := zne (a := 16) h336 (by decide); have q17 := zne (a := 17) h362 (by decide); have q18 := zne (a := 18) h376 (by decide); have q19 := zne (a := 19) h394 (by decide); have q20 := zne (a := 20) h408 (by decide); have q21 := zne (a := 21) h426 (by decide); omega) (by decide) ?_
                                                  replace hm := ob hm; obtain ⟨x440, e441, hm⟩ := hm
                                                  refine lv_iinc (v := x440) (lv' := [(3, .int x440), (0, .ref v0), (1, .ref v1), (2, .ref v2)]) hx hb dL_law_782 hl (k := 3) rfl (Option.some.inj e441) (by decide) rfl (fun ls hl => ?_)
                                                  refine lv_goto (tgt := 18) hx hb dL_law_785 (by decide) ?_
                                                  exact ih hm C0 hX hW hS (lv_sub hl [1, 2, 3, 0] rfl) kr kk
