/-! the words of the tables that are used, by place -/
theorem tw_0 : (.selects RX11 yX11_faulted yX11_faulted : Cond) ∈ cw_tb := List.mem_filter.mpr ⟨List.mem_of_getElem? (i := 0) (by decide +kernel), rfl⟩
theorem tw_1 : (.selects RX7 yX7_bind yX7_bind : Cond) ∈ cw_tb := List.mem_filter.mpr ⟨List.mem_of_getElem? (i := 1) (by decide +kernel), rfl⟩
theorem tw_2 : (.selects RX7 yX7_apply yX7_apply : Cond) ∈ cw_tb := List.mem_filter.mpr ⟨List.mem_of_getElem? (i := 2) (by decide +kernel), rfl⟩
theorem tw_3 : (.selects RX7 yX7_mark yX7_mark : Cond) ∈ cw_tb := List.mem_filter.mpr ⟨List.mem_of_getElem? (i := 3) (by decide +kernel), rfl⟩
theorem tw_4 : (.selects RX7 yX7_closeBracket yX7_closeBracket : Cond) ∈ cw_tb := List.mem_filter.mpr ⟨List.mem_of_getElem? (i := 4) (by decide +kernel), rfl⟩
theorem tw_5 : (.selects RX7 yX7_operand yX7_operand : Cond) ∈ cw_tb := List.mem_filter.mpr ⟨List.mem_of_getElem? (i := 5) (by decide +kernel), rfl⟩
theorem tw_6 : (.selects RX7 yX7_turnAsMarked yX7_turnAsMarked : Cond) ∈ cw_tb := List.mem_filter.mpr ⟨List.mem_of_getElem? (i := 6) (by decide +kernel), rfl⟩
theorem tw_7 : (.selects RX11 yX11_newSentence yX11_newSentence : Cond) ∈ cw_tb := List.mem_filter.mpr ⟨List.mem_of_getElem? (i := 7) (by decide +kernel), rfl⟩
theorem tw_8 : (.selects RX11 yX11_sentenceAt yX11_sentenceAt : Cond) ∈ cw_tb := List.mem_filter.mpr ⟨List.mem_of_getElem? (i := 8) (by decide +kernel), rfl⟩
theorem tw_9 : (.selects RX2 yX2_collect yX2_collect : Cond) ∈ cw_tb := List.mem_filter.mpr ⟨List.mem_of_getElem? (i := 9) (by decide +kernel), rfl⟩
theorem tw_10 : (.selects RX1 yX1_lowered yX1_lowered : Cond) ∈ cw_tb := List.mem_filter.mpr ⟨List.mem_of_getElem? (i := 10) (by decide +kernel), rfl⟩
theorem tw_11 : (.selects RX11 yX11_inWay yX11_inWay : Cond) ∈ cw_tb := List.mem_filter.mpr ⟨List.mem_of_getElem? (i := 11) (by decide +kernel), rfl⟩
theorem tw_12 : (.selects RX1 yX1_raised yX1_raised : Cond) ∈ cw_tb := List.mem_filter.mpr ⟨List.mem_of_getElem? (i := 12) (by decide +kernel), rfl⟩
theorem tw_13 : (.selects RX2 yX2_ofReasons yX2_ofReasons : Cond) ∈ cw_tb := List.mem_filter.mpr ⟨List.mem_of_getElem? (i := 13) (by decide +kernel), rfl⟩
theorem tw_14 : (.selects RX2 yX2_recovers yX2_recovers : Cond) ∈ cw_tb := List.mem_filter.mpr ⟨List.mem_of_getElem? (i := 14) (by decide +kernel), rfl⟩
theorem tw_15 : (.selects RX9 yX9_goes yX9_goes : Cond) ∈ cw_tb := List.mem_filter.mpr ⟨List.mem_of_getElem? (i := 15) (by decide +kernel), rfl⟩
theorem tw_16 : (.selects RX9 yX9_able yX9_able : Cond) ∈ cw_tb := List.mem_filter.mpr ⟨List.mem_of_getElem? (i := 16) (by decide +kernel), rfl⟩
theorem tw_17 : (.selects RX9 yX9_inRow yX9_inRow : Cond) ∈ cw_tb := List.mem_filter.mpr ⟨List.mem_of_getElem? (i := 17) (by decide +kernel), rfl⟩
theorem tw_18 : (.selects RX9 yX9_isExtension yX9_isExtension : Cond) ∈ cw_tb := List.mem_filter.mpr ⟨List.mem_of_getElem? (i := 18) (by decide +kernel), rfl⟩
theorem tw_19 : (.selects RX9 yX9_worth yX9_worth : Cond) ∈ cw_tb := List.mem_filter.mpr ⟨List.mem_of_getElem? (i := 19) (by decide +kernel), rfl⟩
theorem tw_20 : (.selects RX3 yX3_findStrikes yX3_findStrikes : Cond) ∈ cw_tb := List.mem_filter.mpr ⟨List.mem_of_getElem? (i := 20) (by decide +kernel), rfl⟩
theorem tw_21 : (.selects RX3 yX3_trustOf yX3_trustOf : Cond) ∈ cw_tb := List.mem_filter.mpr ⟨List.mem_of_getElem? (i := 21) (by decide +kernel), rfl⟩
theorem tw_22 : (.selects RX3 yX3_findRounds yX3_findRounds : Cond) ∈ cw_tb := List.mem_filter.mpr ⟨List.mem_of_getElem? (i := 22) (by decide +kernel), rfl⟩
theorem tw_23 : (.selects RX3 yX3_allOf yX3_allOf : Cond) ∈ cw_tb := List.mem_filter.mpr ⟨List.mem_of_getElem? (i := 23) (by decide +kernel), rfl⟩
theorem tw_24 : (.selects RX3 yX3_fillLow yX3_fillLow : Cond) ∈ cw_tb := List.mem_filter.mpr ⟨List.mem_of_getElem? (i := 24) (by decide +kernel), rfl⟩
theorem tw_25 : (.selects RX3 yX3_seekFrom yX3_seekFrom : Cond) ∈ cw_tb := List.mem_filter.mpr ⟨List.mem_of_getElem? (i := 25) (by decide +kernel), rfl⟩
theorem tw_26 : (.selects RX6 yX6_costOf yX6_costOf : Cond) ∈ cw_tb := List.mem_filter.mpr ⟨List.mem_of_getElem? (i := 26) (by decide +kernel), rfl⟩
theorem tw_27 : (.selects RX12 yX12_refused yX12_refused : Cond) ∈ cw_tb := List.mem_filter.mpr ⟨List.mem_of_getElem? (i := 27) (by decide +kernel), rfl⟩
theorem tw_28 : (.selects RX12 yX12_failed yX12_failed : Cond) ∈ cw_tb := List.mem_filter.mpr ⟨List.mem_of_getElem? (i := 28) (by decide +kernel), rfl⟩
theorem tw_29 : (.selects RX12 yX12_parse yX12_parse : Cond) ∈ cw_tb := List.mem_filter.mpr ⟨List.mem_of_getElem? (i := 29) (by decide +kernel), rfl⟩
theorem tw_30 : (.selects RX12 yX12_operand yX12_operand : Cond) ∈ cw_tb := List.mem_filter.mpr ⟨List.mem_of_getElem? (i := 30) (by decide +kernel), rfl⟩
theorem tw_31 : (.selects RX12 yX12_pushLetter yX12_pushLetter : Cond) ∈ cw_tb := List.mem_filter.mpr ⟨List.mem_of_getElem? (i := 31) (by decide +kernel), rfl⟩
theorem tw_32 : (.selects RX12 yX12_pushAll yX12_pushAll : Cond) ∈ cw_tb := List.mem_filter.mpr ⟨List.mem_of_getElem? (i := 32) (by decide +kernel), rfl⟩
theorem tw_33 : (.selects RX12 yX12_turned yX12_turned : Cond) ∈ cw_tb := List.mem_filter.mpr ⟨List.mem_of_getElem? (i := 33) (by decide +kernel), rfl⟩
theorem tw_34 : (.selects RX12 yX12_turnTop yX12_turnTop : Cond) ∈ cw_tb := List.mem_filter.mpr ⟨List.mem_of_getElem? (i := 34) (by decide +kernel), rfl⟩
theorem tw_35 : (.selects RX12 yX12_operator yX12_operator : Cond) ∈ cw_tb := List.mem_filter.mpr ⟨List.mem_of_getElem? (i := 35) (by decide +kernel), rfl⟩
theorem tw_36 : (.selects RX12 yX12_reduce yX12_reduce : Cond) ∈ cw_tb := List.mem_filter.mpr ⟨List.mem_of_getElem? (i := 36) (by decide +kernel), rfl⟩
theorem tw_37 : (.selects RX12 yX12_noSentence yX12_noSentence : Cond) ∈ cw_tb := List.mem_filter.mpr ⟨List.mem_of_getElem? (i := 37) (by decide +kernel), rfl⟩
theorem tw_38 : (.selects RX12 yX12_countAt yX12_countAt : Cond) ∈ cw_tb := List.mem_filter.mpr ⟨List.mem_of_getElem? (i := 38) (by decide +kernel), rfl⟩
theorem tw_39 : (.selects RX12 yX12_isWithin yX12_isWithin : Cond) ∈ cw_tb := List.mem_filter.mpr ⟨List.mem_of_getElem? (i := 39) (by decide +kernel), rfl⟩
theorem tw_40 : (.selects RX12 yX12_areApart yX12_areApart : Cond) ∈ cw_tb := List.mem_filter.mpr ⟨List.mem_of_getElem? (i := 40) (by decide +kernel), rfl⟩
theorem tw_41 : (.selects RX12 yX12_otherView yX12_otherView : Cond) ∈ cw_tb := List.mem_filter.mpr ⟨List.mem_of_getElem? (i := 41) (by decide +kernel), rfl⟩
theorem tw_42 : (.selects RX12 yX12_addEntry yX12_addEntry : Cond) ∈ cw_tb := List.mem_filter.mpr ⟨List.mem_of_getElem? (i := 42) (by decide +kernel), rfl⟩
theorem tw_43 : (.selects RX12 yX12_lay yX12_lay : Cond) ∈ cw_tb := List.mem_filter.mpr ⟨List.mem_of_getElem? (i := 43) (by decide +kernel), rfl⟩
theorem tw_44 : (.selects RX12 yX12_layWorlds yX12_layWorlds : Cond) ∈ cw_tb := List.mem_filter.mpr ⟨List.mem_of_getElem? (i := 44) (by decide +kernel), rfl⟩
theorem tw_45 : (.selects RX12 yX12_isInView yX12_isInView : Cond) ∈ cw_tb := List.mem_filter.mpr ⟨List.mem_of_getElem? (i := 45) (by decide +kernel), rfl⟩
theorem tw_46 : (.selects RX12 yX12_isHarmony yX12_isHarmony : Cond) ∈ cw_tb := List.mem_filter.mpr ⟨List.mem_of_getElem? (i := 46) (by decide +kernel), rfl⟩
theorem tw_47 : (.selects RX12 yX12_hasWorld yX12_hasWorld : Cond) ∈ cw_tb := List.mem_filter.mpr ⟨List.mem_of_getElem? (i := 47) (by decide +kernel), rfl⟩
theorem tw_48 : (.selects RX12 yX12_weightOf yX12_weightOf : Cond) ∈ cw_tb := List.mem_filter.mpr ⟨List.mem_of_getElem? (i := 48) (by decide +kernel), rfl⟩
theorem tw_49 : (.selects RX12 yX12_noEntry yX12_noEntry : Cond) ∈ cw_tb := List.mem_filter.mpr ⟨List.mem_of_getElem? (i := 49) (by decide +kernel), rfl⟩
theorem tw_50 : (.selects RX12 yX12_harmoniesWith yX12_harmoniesWith : Cond) ∈ cw_tb := List.mem_filter.mpr ⟨List.mem_of_getElem? (i := 50) (by decide +kernel), rfl⟩
theorem tw_51 : (.selects RX12 yX12_isEntrySet yX12_isEntrySet : Cond) ∈ cw_tb := List.mem_filter.mpr ⟨List.mem_of_getElem? (i := 51) (by decide +kernel), rfl⟩
theorem tw_52 : (.selects RX12 yX12_countWorlds yX12_countWorlds : Cond) ∈ cw_tb := List.mem_filter.mpr ⟨List.mem_of_getElem? (i := 52) (by decide +kernel), rfl⟩
theorem tw_53 : (.selects RX12 yX12_reasonAt yX12_reasonAt : Cond) ∈ cw_tb := List.mem_filter.mpr ⟨List.mem_of_getElem? (i := 53) (by decide +kernel), rfl⟩
theorem tw_54 : (.selects RX12 yX12_isReason yX12_isReason : Cond) ∈ cw_tb := List.mem_filter.mpr ⟨List.mem_of_getElem? (i := 54) (by decide +kernel), rfl⟩
theorem tw_55 : (.selects RX12 yX12_follows yX12_follows : Cond) ∈ cw_tb := List.mem_filter.mpr ⟨List.mem_of_getElem? (i := 55) (by decide +kernel), rfl⟩
theorem tw_56 : (.selects RX12 yX12_followers yX12_followers : Cond) ∈ cw_tb := List.mem_filter.mpr ⟨List.mem_of_getElem? (i := 56) (by decide +kernel), rfl⟩
theorem tw_57 : (.selects RX12 yX12_cutAt yX12_cutAt : Cond) ∈ cw_tb := List.mem_filter.mpr ⟨List.mem_of_getElem? (i := 57) (by decide +kernel), rfl⟩
theorem tw_58 : (.selects RX12 yX12_isCut yX12_isCut : Cond) ∈ cw_tb := List.mem_filter.mpr ⟨List.mem_of_getElem? (i := 58) (by decide +kernel), rfl⟩
theorem tw_59 : (.selects RX12 yX12_leastCut yX12_leastCut : Cond) ∈ cw_tb := List.mem_filter.mpr ⟨List.mem_of_getElem? (i := 59) (by decide +kernel), rfl⟩
theorem tw_60 : (.selects RX12 yX12_giveAll yX12_giveAll : Cond) ∈ cw_tb := List.mem_filter.mpr ⟨List.mem_of_getElem? (i := 60) (by decide +kernel), rfl⟩
theorem tw_61 : (.selects RX12 yX12_isOfReason yX12_isOfReason : Cond) ∈ cw_tb := List.mem_filter.mpr ⟨List.mem_of_getElem? (i := 61) (by decide +kernel), rfl⟩
theorem tw_62 : (.selects RX12 yX12_noRule yX12_noRule : Cond) ∈ cw_tb := List.mem_filter.mpr ⟨List.mem_of_getElem? (i := 62) (by decide +kernel), rfl⟩
theorem tw_63 : (.selects RX12 yX12_layRules yX12_layRules : Cond) ∈ cw_tb := List.mem_filter.mpr ⟨List.mem_of_getElem? (i := 63) (by decide +kernel), rfl⟩
theorem tw_64 : (.selects RX12 yX12_isExtension yX12_isExtension : Cond) ∈ cw_tb := List.mem_filter.mpr ⟨List.mem_of_getElem? (i := 64) (by decide +kernel), rfl⟩
theorem tw_65 : (.selects RX12 yX12_layE yX12_layE : Cond) ∈ cw_tb := List.mem_filter.mpr ⟨List.mem_of_getElem? (i := 65) (by decide +kernel), rfl⟩
theorem tw_66 : (.selects RX12 yX12_goes yX12_goes : Cond) ∈ cw_tb := List.mem_filter.mpr ⟨List.mem_of_getElem? (i := 66) (by decide +kernel), rfl⟩
theorem tw_67 : (.selects RX12 yX12_followsE yX12_followsE : Cond) ∈ cw_tb := List.mem_filter.mpr ⟨List.mem_of_getElem? (i := 67) (by decide +kernel), rfl⟩
theorem tw_68 : (.selects RX12 yX12_isGrounded yX12_isGrounded : Cond) ∈ cw_tb := List.mem_filter.mpr ⟨List.mem_of_getElem? (i := 68) (by decide +kernel), rfl⟩
theorem tw_69 : (.selects RX12 yX12_compareRanks yX12_compareRanks : Cond) ∈ cw_tb := List.mem_filter.mpr ⟨List.mem_of_getElem? (i := 69) (by decide +kernel), rfl⟩
theorem tw_70 : (.selects RX12 yX12_extensionsWith yX12_extensionsWith : Cond) ∈ cw_tb := List.mem_filter.mpr ⟨List.mem_of_getElem? (i := 70) (by decide +kernel), rfl⟩
theorem tw_71 : (.selects RX12 yX12_circleOf yX12_circleOf : Cond) ∈ cw_tb := List.mem_filter.mpr ⟨List.mem_of_getElem? (i := 71) (by decide +kernel), rfl⟩
theorem tw_72 : (.selects RX12 yX12_countE yX12_countE : Cond) ∈ cw_tb := List.mem_filter.mpr ⟨List.mem_of_getElem? (i := 72) (by decide +kernel), rfl⟩
theorem tw_73 : (.selects RX12 yX12_noClaim yX12_noClaim : Cond) ∈ cw_tb := List.mem_filter.mpr ⟨List.mem_of_getElem? (i := 73) (by decide +kernel), rfl⟩
theorem tw_74 : (.selects RX12 yX12_doesStrike yX12_doesStrike : Cond) ∈ cw_tb := List.mem_filter.mpr ⟨List.mem_of_getElem? (i := 74) (by decide +kernel), rfl⟩
theorem tw_75 : (.selects RX12 yX12_layClaims yX12_layClaims : Cond) ∈ cw_tb := List.mem_filter.mpr ⟨List.mem_of_getElem? (i := 75) (by decide +kernel), rfl⟩
theorem tw_76 : (.selects RX12 yX12_findStanding yX12_findStanding : Cond) ∈ cw_tb := List.mem_filter.mpr ⟨List.mem_of_getElem? (i := 76) (by decide +kernel), rfl⟩
theorem tw_77 : (.selects RX12 yX12_defends yX12_defends : Cond) ∈ cw_tb := List.mem_filter.mpr ⟨List.mem_of_getElem? (i := 77) (by decide +kernel), rfl⟩
theorem tw_78 : (.selects RX12 yX12_struckOf yX12_struckOf : Cond) ∈ cw_tb := List.mem_filter.mpr ⟨List.mem_of_getElem? (i := 78) (by decide +kernel), rfl⟩
theorem tw_79 : (.selects RX12 yX12_findSets yX12_findSets : Cond) ∈ cw_tb := List.mem_filter.mpr ⟨List.mem_of_getElem? (i := 79) (by decide +kernel), rfl⟩
theorem tw_80 : (.selects RX12 yX12_isSoundSet yX12_isSoundSet : Cond) ∈ cw_tb := List.mem_filter.mpr ⟨List.mem_of_getElem? (i := 80) (by decide +kernel), rfl⟩
theorem tw_81 : (.selects RX12 yX12_findWins yX12_findWins : Cond) ∈ cw_tb := List.mem_filter.mpr ⟨List.mem_of_getElem? (i := 81) (by decide +kernel), rfl⟩
theorem tw_82 : (.selects RX12 yX12_doesWin yX12_doesWin : Cond) ∈ cw_tb := List.mem_filter.mpr ⟨List.mem_of_getElem? (i := 82) (by decide +kernel), rfl⟩
theorem tw_83 : (.selects RX12 yX12_among yX12_among : Cond) ∈ cw_tb := List.mem_filter.mpr ⟨List.mem_of_getElem? (i := 83) (by decide +kernel), rfl⟩
theorem tw_84 : (.selects RX12 yX12_answerTo yX12_answerTo : Cond) ∈ cw_tb := List.mem_filter.mpr ⟨List.mem_of_getElem? (i := 84) (by decide +kernel), rfl⟩
theorem tw_85 : (.selects RX12 yX12_layMerge yX12_layMerge : Cond) ∈ cw_tb := List.mem_filter.mpr ⟨List.mem_of_getElem? (i := 85) (by decide +kernel), rfl⟩
theorem tw_86 : (.selects RX12 yX12_bookOf yX12_bookOf : Cond) ∈ cw_tb := List.mem_filter.mpr ⟨List.mem_of_getElem? (i := 86) (by decide +kernel), rfl⟩
theorem tw_87 : (.selects RX12 yX12_layFars yX12_layFars : Cond) ∈ cw_tb := List.mem_filter.mpr ⟨List.mem_of_getElem? (i := 87) (by decide +kernel), rfl⟩
theorem tw_88 : (.selects RX12 yX12_merge yX12_merge : Cond) ∈ cw_tb := List.mem_filter.mpr ⟨List.mem_of_getElem? (i := 88) (by decide +kernel), rfl⟩
theorem tw_89 : (.selects RX12 yX12_layRow yX12_layRow : Cond) ∈ cw_tb := List.mem_filter.mpr ⟨List.mem_of_getElem? (i := 89) (by decide +kernel), rfl⟩
theorem tw_90 : (.selects RX12 yX12_compareRows yX12_compareRows : Cond) ∈ cw_tb := List.mem_filter.mpr ⟨List.mem_of_getElem? (i := 90) (by decide +kernel), rfl⟩
theorem tw_91 : (.selects RX12 yX12_traced yX12_traced : Cond) ∈ cw_tb := List.mem_filter.mpr ⟨List.mem_of_getElem? (i := 91) (by decide +kernel), rfl⟩
theorem tw_92 : (.selects RX12 yX12_noCell yX12_noCell : Cond) ∈ cw_tb := List.mem_filter.mpr ⟨List.mem_of_getElem? (i := 92) (by decide +kernel), rfl⟩
theorem tw_93 : (.selects RX12 yX12_failedLong yX12_failedLong : Cond) ∈ cw_tb := List.mem_filter.mpr ⟨List.mem_of_getElem? (i := 93) (by decide +kernel), rfl⟩
theorem tw_95 : (.initialized RX11 : Cond) ∈ cw_tb := List.mem_filter.mpr ⟨List.mem_of_getElem? (i := 95) (by decide +kernel), rfl⟩
theorem tw_96 : (.initialized RJ9 : Cond) ∈ cw_tb := List.mem_filter.mpr ⟨List.mem_of_getElem? (i := 96) (by decide +kernel), rfl⟩
theorem tw_97 : (.initialized RX1 : Cond) ∈ cw_tb := List.mem_filter.mpr ⟨List.mem_of_getElem? (i := 97) (by decide +kernel), rfl⟩
theorem tw_98 : (.initialized RX7 : Cond) ∈ cw_tb := List.mem_filter.mpr ⟨List.mem_of_getElem? (i := 98) (by decide +kernel), rfl⟩
theorem tw_99 : (.initialized RX2 : Cond) ∈ cw_tb := List.mem_filter.mpr ⟨List.mem_of_getElem? (i := 99) (by decide +kernel), rfl⟩
theorem tw_100 : (.initialized RJ7 : Cond) ∈ cw_tb := List.mem_filter.mpr ⟨List.mem_of_getElem? (i := 100) (by decide +kernel), rfl⟩
theorem tw_101 : (.initialized RX9 : Cond) ∈ cw_tb := List.mem_filter.mpr ⟨List.mem_of_getElem? (i := 101) (by decide +kernel), rfl⟩
theorem tw_102 : (.initialized RX3 : Cond) ∈ cw_tb := List.mem_filter.mpr ⟨List.mem_of_getElem? (i := 102) (by decide +kernel), rfl⟩
theorem tw_103 : (.initialized RX6 : Cond) ∈ cw_tb := List.mem_filter.mpr ⟨List.mem_of_getElem? (i := 103) (by decide +kernel), rfl⟩
theorem tw_104 : (.initialized RX12 : Cond) ∈ cw_tb := List.mem_filter.mpr ⟨List.mem_of_getElem? (i := 104) (by decide +kernel), rfl⟩
theorem tw_105 : (.initialized RJ10 : Cond) ∈ cw_tb := List.mem_filter.mpr ⟨List.mem_of_getElem? (i := 105) (by decide +kernel), rfl⟩
theorem tw_106 : (.initialized RJ13 : Cond) ∈ cw_tb := List.mem_filter.mpr ⟨List.mem_of_getElem? (i := 106) (by decide +kernel), rfl⟩
theorem tw_107 : (.initialized RX10 : Cond) ∈ cw_tb := List.mem_filter.mpr ⟨List.mem_of_getElem? (i := 107) (by decide +kernel), rfl⟩
theorem tw_108 : (.initialized RX4 : Cond) ∈ cw_tb := List.mem_filter.mpr ⟨List.mem_of_getElem? (i := 108) (by decide +kernel), rfl⟩
theorem tw_109 : (.initialized RJ6 : Cond) ∈ cw_tb := List.mem_filter.mpr ⟨List.mem_of_getElem? (i := 109) (by decide +kernel), rfl⟩
theorem tw_110 : (.initialized RX8 : Cond) ∈ cw_tb := List.mem_filter.mpr ⟨List.mem_of_getElem? (i := 110) (by decide +kernel), rfl⟩
theorem tw_111 : (.initialized RX0 : Cond) ∈ cw_tb := List.mem_filter.mpr ⟨List.mem_of_getElem? (i := 111) (by decide +kernel), rfl⟩
theorem tw_112 : (.initialized RX5 : Cond) ∈ cw_tb := List.mem_filter.mpr ⟨List.mem_of_getElem? (i := 112) (by decide +kernel), rfl⟩
theorem tw_119 : (.instanceMethod Lib.objectInit : Cond) ∈ cw_tb := List.mem_filter.mpr ⟨List.mem_of_getElem? (i := 119) (by decide +kernel), rfl⟩
theorem tw_120 : (.code Lib.objectInit ⟨#[0xb1]⟩ 1 none : Cond) ∈ cw_tb := List.mem_filter.mpr ⟨List.mem_of_getElem? (i := 120) (by decide +kernel), rfl⟩
theorem tw_125 : (.static yJ9_max_7cf53 : Cond) ∈ cw_tb := List.mem_filter.mpr ⟨List.mem_of_getElem? (i := 125) (by decide +kernel), rfl⟩
theorem tw_126 : (.code yJ9_max_7cf53 cJ9_max_7cf53 2 (some .int) : Cond) ∈ cw_tb := List.mem_filter.mpr ⟨List.mem_of_getElem? (i := 126) (by decide +kernel), rfl⟩
theorem tw_135 : (.fieldLink RX1 13 "ReasonDesk$Bits" "rows" "[J" : Cond) ∈ cw_tb := List.mem_filter.mpr ⟨List.mem_of_getElem? (i := 135) (by decide +kernel), rfl⟩
theorem tw_147 : (.fieldLink RX7 9 "ReasonDesk$Reader" "marks" "[I" : Cond) ∈ cw_tb := List.mem_filter.mpr ⟨List.mem_of_getElem? (i := 147) (by decide +kernel), rfl⟩
theorem tw_148 : (.fieldLink RX7 19 "ReasonDesk$Reader" "values" "[LReasonDesk$Bits;" : Cond) ∈ cw_tb := List.mem_filter.mpr ⟨List.mem_of_getElem? (i := 148) (by decide +kernel), rfl⟩
theorem tw_149 : (.fieldLink RX7 31 "ReasonDesk$Reader" "markCount" "I" : Cond) ∈ cw_tb := List.mem_filter.mpr ⟨List.mem_of_getElem? (i := 149) (by decide +kernel), rfl⟩
theorem tw_150 : (.fieldLink RX7 35 "ReasonDesk$Reader" "valueCount" "I" : Cond) ∈ cw_tb := List.mem_filter.mpr ⟨List.mem_of_getElem? (i := 150) (by decide +kernel), rfl⟩
theorem tw_172 : (.static yJ7_fill_53178 : Cond) ∈ cw_tb := List.mem_filter.mpr ⟨List.mem_of_getElem? (i := 172) (by decide +kernel), rfl⟩
theorem tw_173 : (.code yJ7_fill_53178 cJ7_fill_53178 4 none : Cond) ∈ cw_tb := List.mem_filter.mpr ⟨List.mem_of_getElem? (i := 173) (by decide +kernel), rfl⟩
theorem tw_174 : (.fieldLink RX2 9 "ReasonDesk$Book" "trusted" "[I" : Cond) ∈ cw_tb := List.mem_filter.mpr ⟨List.mem_of_getElem? (i := 174) (by decide +kernel), rfl⟩
theorem tw_175 : (.fieldLink RX6 69 "ReasonDesk$Book" "trusted" "[I" : Cond) ∈ cw_tb := List.mem_filter.mpr ⟨List.mem_of_getElem? (i := 175) (by decide +kernel), rfl⟩
theorem tw_176 : (.fieldLink RX11 165 "ReasonDesk$Book" "trusted" "[I" : Cond) ∈ cw_tb := List.mem_filter.mpr ⟨List.mem_of_getElem? (i := 176) (by decide +kernel), rfl⟩
theorem tw_177 : (.fieldLink RX2 58 "ReasonDesk$Book" "count" "I" : Cond) ∈ cw_tb := List.mem_filter.mpr ⟨List.mem_of_getElem? (i := 177) (by decide +kernel), rfl⟩
theorem tw_178 : (.fieldLink RX11 177 "ReasonDesk$Book" "count" "I" : Cond) ∈ cw_tb := List.mem_filter.mpr ⟨List.mem_of_getElem? (i := 178) (by decide +kernel), rfl⟩
theorem tw_179 : (.fieldLink RX2 75 "ReasonDesk$Book" "time" "I" : Cond) ∈ cw_tb := List.mem_filter.mpr ⟨List.mem_of_getElem? (i := 179) (by decide +kernel), rfl⟩
theorem tw_180 : (.fieldLink RX11 187 "ReasonDesk$Book" "time" "I" : Cond) ∈ cw_tb := List.mem_filter.mpr ⟨List.mem_of_getElem? (i := 180) (by decide +kernel), rfl⟩
theorem tw_181 : (.fieldLink RX2 15 "ReasonDesk$Book" "asKnown" "I" : Cond) ∈ cw_tb := List.mem_filter.mpr ⟨List.mem_of_getElem? (i := 181) (by decide +kernel), rfl⟩
theorem tw_182 : (.fieldLink RX11 190 "ReasonDesk$Book" "asKnown" "I" : Cond) ∈ cw_tb := List.mem_filter.mpr ⟨List.mem_of_getElem? (i := 182) (by decide +kernel), rfl⟩
theorem tw_183 : (.fieldLink RX2 21 "ReasonDesk$Book" "entries" "[LReasonDesk$Entry;" : Cond) ∈ cw_tb := List.mem_filter.mpr ⟨List.mem_of_getElem? (i := 183) (by decide +kernel), rfl⟩
theorem tw_184 : (.fieldLink RX2 25 "ReasonDesk$Book" "trueIn" "[I" : Cond) ∈ cw_tb := List.mem_filter.mpr ⟨List.mem_of_getElem? (i := 184) (by decide +kernel), rfl⟩
theorem tw_185 : (.fieldLink RX2 33 "ReasonDesk$Book" "nowhere" "LReasonDesk$Bits;" : Cond) ∈ cw_tb := List.mem_filter.mpr ⟨List.mem_of_getElem? (i := 185) (by decide +kernel), rfl⟩
theorem tw_186 : (.fieldLink RX2 37 "ReasonDesk$Book" "family" "LReasonDesk$Bits;" : Cond) ∈ cw_tb := List.mem_filter.mpr ⟨List.mem_of_getElem? (i := 186) (by decide +kernel), rfl⟩
theorem tw_187 : (.fieldLink RX2 40 "ReasonDesk$Book" "lows" "LReasonDesk$Bits;" : Cond) ∈ cw_tb := List.mem_filter.mpr ⟨List.mem_of_getElem? (i := 187) (by decide +kernel), rfl⟩
theorem tw_188 : (.fieldLink RX2 43 "ReasonDesk$Book" "harmonious" "LReasonDesk$Bits;" : Cond) ∈ cw_tb := List.mem_filter.mpr ⟨List.mem_of_getElem? (i := 188) (by decide +kernel), rfl⟩
theorem tw_189 : (.fieldLink RX2 46 "ReasonDesk$Book" "best" "LReasonDesk$Bits;" : Cond) ∈ cw_tb := List.mem_filter.mpr ⟨List.mem_of_getElem? (i := 189) (by decide +kernel), rfl⟩
theorem tw_190 : (.fieldLink RX2 49 "ReasonDesk$Book" "harmonyView" "I" : Cond) ∈ cw_tb := List.mem_filter.mpr ⟨List.mem_of_getElem? (i := 190) (by decide +kernel), rfl⟩
theorem tw_227 : (.fieldLink RX9 14 "ReasonDesk$Rules" "base" "LReasonDesk$Bits;" : Cond) ∈ cw_tb := List.mem_filter.mpr ⟨List.mem_of_getElem? (i := 227) (by decide +kernel), rfl⟩
theorem tw_228 : (.fieldLink RX11 337 "ReasonDesk$Rules" "base" "LReasonDesk$Bits;" : Cond) ∈ cw_tb := List.mem_filter.mpr ⟨List.mem_of_getElem? (i := 228) (by decide +kernel), rfl⟩
theorem tw_229 : (.fieldLink RX9 59 "ReasonDesk$Rules" "count" "I" : Cond) ∈ cw_tb := List.mem_filter.mpr ⟨List.mem_of_getElem? (i := 229) (by decide +kernel), rfl⟩
theorem tw_230 : (.fieldLink RX11 287 "ReasonDesk$Rules" "count" "I" : Cond) ∈ cw_tb := List.mem_filter.mpr ⟨List.mem_of_getElem? (i := 230) (by decide +kernel), rfl⟩
theorem tw_231 : (.fieldLink RX9 22 "ReasonDesk$Rules" "rules" "[LReasonDesk$Rule;" : Cond) ∈ cw_tb := List.mem_filter.mpr ⟨List.mem_of_getElem? (i := 231) (by decide +kernel), rfl⟩
theorem tw_232 : (.fieldLink RX9 30 "ReasonDesk$Rules" "whens" "[LReasonDesk$Bits;" : Cond) ∈ cw_tb := List.mem_filter.mpr ⟨List.mem_of_getElem? (i := 232) (by decide +kernel), rfl⟩
theorem tw_233 : (.fieldLink RX9 34 "ReasonDesk$Rules" "thens" "[LReasonDesk$Bits;" : Cond) ∈ cw_tb := List.mem_filter.mpr ⟨List.mem_of_getElem? (i := 233) (by decide +kernel), rfl⟩
theorem tw_234 : (.fieldLink RX9 37 "ReasonDesk$Rules" "unlesses" "[LReasonDesk$Bits;" : Cond) ∈ cw_tb := List.mem_filter.mpr ⟨List.mem_of_getElem? (i := 234) (by decide +kernel), rfl⟩
theorem tw_235 : (.fieldLink RX9 40 "ReasonDesk$Rules" "within" "LReasonDesk$Bits;" : Cond) ∈ cw_tb := List.mem_filter.mpr ⟨List.mem_of_getElem? (i := 235) (by decide +kernel), rfl⟩
theorem tw_236 : (.fieldLink RX9 43 "ReasonDesk$Rules" "ahead" "LReasonDesk$Bits;" : Cond) ∈ cw_tb := List.mem_filter.mpr ⟨List.mem_of_getElem? (i := 236) (by decide +kernel), rfl⟩
theorem tw_237 : (.fieldLink RX9 46 "ReasonDesk$Rules" "extended" "LReasonDesk$Bits;" : Cond) ∈ cw_tb := List.mem_filter.mpr ⟨List.mem_of_getElem? (i := 237) (by decide +kernel), rfl⟩
theorem tw_238 : (.fieldLink RX9 49 "ReasonDesk$Rules" "best" "LReasonDesk$Bits;" : Cond) ∈ cw_tb := List.mem_filter.mpr ⟨List.mem_of_getElem? (i := 238) (by decide +kernel), rfl⟩
theorem tw_239 : (.fieldLink RX9 52 "ReasonDesk$Rules" "baseView" "I" : Cond) ∈ cw_tb := List.mem_filter.mpr ⟨List.mem_of_getElem? (i := 239) (by decide +kernel), rfl⟩
theorem tw_240 : (.fieldLink RX9 56 "ReasonDesk$Rules" "foundCount" "I" : Cond) ∈ cw_tb := List.mem_filter.mpr ⟨List.mem_of_getElem? (i := 240) (by decide +kernel), rfl⟩
theorem tw_275 : (.fieldLink RX3 69 "ReasonDesk$Claims" "count" "I" : Cond) ∈ cw_tb := List.mem_filter.mpr ⟨List.mem_of_getElem? (i := 275) (by decide +kernel), rfl⟩
theorem tw_276 : (.fieldLink RX11 430 "ReasonDesk$Claims" "count" "I" : Cond) ∈ cw_tb := List.mem_filter.mpr ⟨List.mem_of_getElem? (i := 276) (by decide +kernel), rfl⟩
theorem tw_277 : (.fieldLink RX3 103 "ReasonDesk$Claims" "standing" "I" : Cond) ∈ cw_tb := List.mem_filter.mpr ⟨List.mem_of_getElem? (i := 277) (by decide +kernel), rfl⟩
theorem tw_278 : (.fieldLink RX11 360 "ReasonDesk$Claims" "standing" "I" : Cond) ∈ cw_tb := List.mem_filter.mpr ⟨List.mem_of_getElem? (i := 278) (by decide +kernel), rfl⟩
theorem tw_279 : (.fieldLink RX3 9 "ReasonDesk$Claims" "said" "[I" : Cond) ∈ cw_tb := List.mem_filter.mpr ⟨List.mem_of_getElem? (i := 279) (by decide +kernel), rfl⟩
theorem tw_280 : (.fieldLink RX11 363 "ReasonDesk$Claims" "said" "[I" : Cond) ∈ cw_tb := List.mem_filter.mpr ⟨List.mem_of_getElem? (i := 280) (by decide +kernel), rfl⟩
theorem tw_281 : (.fieldLink RX3 15 "ReasonDesk$Claims" "sources" "[I" : Cond) ∈ cw_tb := List.mem_filter.mpr ⟨List.mem_of_getElem? (i := 281) (by decide +kernel), rfl⟩
theorem tw_282 : (.fieldLink RX11 366 "ReasonDesk$Claims" "sources" "[I" : Cond) ∈ cw_tb := List.mem_filter.mpr ⟨List.mem_of_getElem? (i := 282) (by decide +kernel), rfl⟩
theorem tw_283 : (.fieldLink RX3 18 "ReasonDesk$Claims" "strikers" "[I" : Cond) ∈ cw_tb := List.mem_filter.mpr ⟨List.mem_of_getElem? (i := 283) (by decide +kernel), rfl⟩
theorem tw_284 : (.fieldLink RX11 357 "ReasonDesk$Claims" "strikers" "[I" : Cond) ∈ cw_tb := List.mem_filter.mpr ⟨List.mem_of_getElem? (i := 284) (by decide +kernel), rfl⟩
theorem tw_285 : (.fieldLink RX3 21 "ReasonDesk$Claims" "rounds" "[I" : Cond) ∈ cw_tb := List.mem_filter.mpr ⟨List.mem_of_getElem? (i := 285) (by decide +kernel), rfl⟩
theorem tw_286 : (.fieldLink RX11 369 "ReasonDesk$Claims" "rounds" "[I" : Cond) ∈ cw_tb := List.mem_filter.mpr ⟨List.mem_of_getElem? (i := 286) (by decide +kernel), rfl⟩
theorem tw_287 : (.fieldLink RX3 29 "ReasonDesk$Claims" "sound" "LReasonDesk$Bits;" : Cond) ∈ cw_tb := List.mem_filter.mpr ⟨List.mem_of_getElem? (i := 287) (by decide +kernel), rfl⟩
theorem tw_288 : (.fieldLink RX11 384 "ReasonDesk$Claims" "sound" "LReasonDesk$Bits;" : Cond) ∈ cw_tb := List.mem_filter.mpr ⟨List.mem_of_getElem? (i := 288) (by decide +kernel), rfl⟩
theorem tw_289 : (.fieldLink RX3 33 "ReasonDesk$Claims" "preferred" "LReasonDesk$Bits;" : Cond) ∈ cw_tb := List.mem_filter.mpr ⟨List.mem_of_getElem? (i := 289) (by decide +kernel), rfl⟩
theorem tw_290 : (.fieldLink RX11 375 "ReasonDesk$Claims" "preferred" "LReasonDesk$Bits;" : Cond) ∈ cw_tb := List.mem_filter.mpr ⟨List.mem_of_getElem? (i := 290) (by decide +kernel), rfl⟩
theorem tw_291 : (.fieldLink RX3 36 "ReasonDesk$Claims" "stable" "LReasonDesk$Bits;" : Cond) ∈ cw_tb := List.mem_filter.mpr ⟨List.mem_of_getElem? (i := 291) (by decide +kernel), rfl⟩
theorem tw_292 : (.fieldLink RX11 378 "ReasonDesk$Claims" "stable" "LReasonDesk$Bits;" : Cond) ∈ cw_tb := List.mem_filter.mpr ⟨List.mem_of_getElem? (i := 292) (by decide +kernel), rfl⟩
theorem tw_293 : (.fieldLink RX3 39 "ReasonDesk$Claims" "struck" "[I" : Cond) ∈ cw_tb := List.mem_filter.mpr ⟨List.mem_of_getElem? (i := 293) (by decide +kernel), rfl⟩
theorem tw_294 : (.fieldLink RX3 46 "ReasonDesk$Claims" "places" "[LReasonDesk$Bits;" : Cond) ∈ cw_tb := List.mem_filter.mpr ⟨List.mem_of_getElem? (i := 294) (by decide +kernel), rfl⟩
theorem tw_295 : (.fieldLink RX3 50 "ReasonDesk$Claims" "trusted" "[I" : Cond) ∈ cw_tb := List.mem_filter.mpr ⟨List.mem_of_getElem? (i := 295) (by decide +kernel), rfl⟩
theorem tw_296 : (.fieldLink RX3 53 "ReasonDesk$Claims" "closed" "LReasonDesk$Bits;" : Cond) ∈ cw_tb := List.mem_filter.mpr ⟨List.mem_of_getElem? (i := 296) (by decide +kernel), rfl⟩
theorem tw_297 : (.fieldLink RX3 56 "ReasonDesk$Claims" "struckByLow" "[I" : Cond) ∈ cw_tb := List.mem_filter.mpr ⟨List.mem_of_getElem? (i := 297) (by decide +kernel), rfl⟩
theorem tw_298 : (.fieldLink RX3 59 "ReasonDesk$Claims" "strikersOfLow" "[I" : Cond) ∈ cw_tb := List.mem_filter.mpr ⟨List.mem_of_getElem? (i := 298) (by decide +kernel), rfl⟩
theorem tw_299 : (.fieldLink RX3 62 "ReasonDesk$Claims" "settledCount" "I" : Cond) ∈ cw_tb := List.mem_filter.mpr ⟨List.mem_of_getElem? (i := 299) (by decide +kernel), rfl⟩
theorem tw_300 : (.fieldLink RX3 66 "ReasonDesk$Claims" "soughtCount" "I" : Cond) ∈ cw_tb := List.mem_filter.mpr ⟨List.mem_of_getElem? (i := 300) (by decide +kernel), rfl⟩
theorem tw_346 : (.fieldLink RX6 11 "ReasonDesk$Merging" "fars" "[[I" : Cond) ∈ cw_tb := List.mem_filter.mpr ⟨List.mem_of_getElem? (i := 346) (by decide +kernel), rfl⟩
theorem tw_347 : (.fieldLink RX11 391 "ReasonDesk$Merging" "fars" "[[I" : Cond) ∈ cw_tb := List.mem_filter.mpr ⟨List.mem_of_getElem? (i := 347) (by decide +kernel), rfl⟩
theorem tw_348 : (.fieldLink RX6 35 "ReasonDesk$Merging" "taking" "I" : Cond) ∈ cw_tb := List.mem_filter.mpr ⟨List.mem_of_getElem? (i := 348) (by decide +kernel), rfl⟩
theorem tw_349 : (.fieldLink RX11 388 "ReasonDesk$Merging" "taking" "I" : Cond) ∈ cw_tb := List.mem_filter.mpr ⟨List.mem_of_getElem? (i := 349) (by decide +kernel), rfl⟩
theorem tw_350 : (.fieldLink RX6 21 "ReasonDesk$Merging" "nearest" "LReasonDesk$Bits;" : Cond) ∈ cw_tb := List.mem_filter.mpr ⟨List.mem_of_getElem? (i := 350) (by decide +kernel), rfl⟩
theorem tw_351 : (.fieldLink RX6 25 "ReasonDesk$Merging" "settledView" "I" : Cond) ∈ cw_tb := List.mem_filter.mpr ⟨List.mem_of_getElem? (i := 351) (by decide +kernel), rfl⟩
theorem tw_364 : (.methodLink RX11 81 yJ7_fill_53178 : Cond) ∈ cw_tb := List.mem_filter.mpr ⟨List.mem_of_getElem? (i := 364) (by decide +kernel), rfl⟩
theorem tw_365 : (.fieldLink RX11 15 "ReasonDesk" "sentences" "[LReasonDesk$Bits;" : Cond) ∈ cw_tb := List.mem_filter.mpr ⟨List.mem_of_getElem? (i := 365) (by decide +kernel), rfl⟩
theorem tw_366 : (.fieldLink RX11 108 "ReasonDesk" "sentenceCount" "I" : Cond) ∈ cw_tb := List.mem_filter.mpr ⟨List.mem_of_getElem? (i := 366) (by decide +kernel), rfl⟩
theorem tw_367 : (.fieldLink RX11 24 "ReasonDesk" "contrary" "LReasonDesk$Bits;" : Cond) ∈ cw_tb := List.mem_filter.mpr ⟨List.mem_of_getElem? (i := 367) (by decide +kernel), rfl⟩
theorem tw_368 : (.fieldLink RX11 28 "ReasonDesk" "scratch" "LReasonDesk$Bits;" : Cond) ∈ cw_tb := List.mem_filter.mpr ⟨List.mem_of_getElem? (i := 368) (by decide +kernel), rfl⟩
theorem tw_369 : (.fieldLink RX11 34 "ReasonDesk" "reader" "LReasonDesk$Reader;" : Cond) ∈ cw_tb := List.mem_filter.mpr ⟨List.mem_of_getElem? (i := 369) (by decide +kernel), rfl⟩
theorem tw_370 : (.fieldLink RX11 41 "ReasonDesk" "book" "LReasonDesk$Book;" : Cond) ∈ cw_tb := List.mem_filter.mpr ⟨List.mem_of_getElem? (i := 370) (by decide +kernel), rfl⟩
theorem tw_371 : (.fieldLink RX11 48 "ReasonDesk" "rules" "LReasonDesk$Rules;" : Cond) ∈ cw_tb := List.mem_filter.mpr ⟨List.mem_of_getElem? (i := 371) (by decide +kernel), rfl⟩
theorem tw_372 : (.fieldLink RX11 55 "ReasonDesk" "claims" "LReasonDesk$Claims;" : Cond) ∈ cw_tb := List.mem_filter.mpr ⟨List.mem_of_getElem? (i := 372) (by decide +kernel), rfl⟩
theorem tw_373 : (.fieldLink RX11 62 "ReasonDesk" "merging" "LReasonDesk$Merging;" : Cond) ∈ cw_tb := List.mem_filter.mpr ⟨List.mem_of_getElem? (i := 373) (by decide +kernel), rfl⟩
theorem tw_374 : (.fieldLink RX11 68 "ReasonDesk" "things" "[LReasonDesk$Thing;" : Cond) ∈ cw_tb := List.mem_filter.mpr ⟨List.mem_of_getElem? (i := 374) (by decide +kernel), rfl⟩
theorem tw_375 : (.fieldLink RX11 74 "ReasonDesk" "cells" "[[I" : Cond) ∈ cw_tb := List.mem_filter.mpr ⟨List.mem_of_getElem? (i := 375) (by decide +kernel), rfl⟩
theorem tw_376 : (.fieldLink RX11 77 "ReasonDesk" "lanes" "[I" : Cond) ∈ cw_tb := List.mem_filter.mpr ⟨List.mem_of_getElem? (i := 376) (by decide +kernel), rfl⟩
theorem tw_377 : (.fieldLink RX11 87 "ReasonDesk" "sizes" "[I" : Cond) ∈ cw_tb := List.mem_filter.mpr ⟨List.mem_of_getElem? (i := 377) (by decide +kernel), rfl⟩
theorem tw_378 : (.fieldLink RX11 90 "ReasonDesk" "trail" "[I" : Cond) ∈ cw_tb := List.mem_filter.mpr ⟨List.mem_of_getElem? (i := 378) (by decide +kernel), rfl⟩
theorem tw_379 : (.fieldLink RX11 93 "ReasonDesk" "lastFault" "I" : Cond) ∈ cw_tb := List.mem_filter.mpr ⟨List.mem_of_getElem? (i := 379) (by decide +kernel), rfl⟩
theorem tw_415 : (.methodLink RX11 97 yX11_isSheet : Cond) ∈ cw_tb := List.mem_filter.mpr ⟨List.mem_of_getElem? (i := 415) (by decide +kernel), rfl⟩
theorem tw_416 : (.static yX11_isSheet : Cond) ∈ cw_tb := List.mem_filter.mpr ⟨List.mem_of_getElem? (i := 416) (by decide +kernel), rfl⟩
theorem tw_417 : (.code yX11_isSheet cX11_isSheet 1 (some .boolean) : Cond) ∈ cw_tb := List.mem_filter.mpr ⟨List.mem_of_getElem? (i := 417) (by decide +kernel), rfl⟩
theorem tw_418 : (.methodLink RX11 101 yX11_isLane : Cond) ∈ cw_tb := List.mem_filter.mpr ⟨List.mem_of_getElem? (i := 418) (by decide +kernel), rfl⟩
theorem tw_419 : (.static yX11_isLane : Cond) ∈ cw_tb := List.mem_filter.mpr ⟨List.mem_of_getElem? (i := 419) (by decide +kernel), rfl⟩
theorem tw_420 : (.code yX11_isLane cX11_isLane 1 (some .boolean) : Cond) ∈ cw_tb := List.mem_filter.mpr ⟨List.mem_of_getElem? (i := 420) (by decide +kernel), rfl⟩
theorem tw_421 : (.methodLink RX11 104 yX11_faulted : Cond) ∈ cw_tb := List.mem_filter.mpr ⟨List.mem_of_getElem? (i := 421) (by decide +kernel), rfl⟩
theorem tw_423 : (.instanceMethod yX11_faulted : Cond) ∈ cw_tb := List.mem_filter.mpr ⟨List.mem_of_getElem? (i := 423) (by decide +kernel), rfl⟩
theorem tw_424 : (.code yX11_faulted cX11_faulted 2 (some .int) : Cond) ∈ cw_tb := List.mem_filter.mpr ⟨List.mem_of_getElem? (i := 424) (by decide +kernel), rfl⟩
theorem tw_425 : (.methodLink RX11 111 yX7_firstFault : Cond) ∈ cw_tb := List.mem_filter.mpr ⟨List.mem_of_getElem? (i := 425) (by decide +kernel), rfl⟩
theorem tw_426 : (.instanceMethod yX7_firstFault : Cond) ∈ cw_tb := List.mem_filter.mpr ⟨List.mem_of_getElem? (i := 426) (by decide +kernel), rfl⟩
theorem tw_427 : (.selects RX7 yX7_firstFault yX7_firstFault : Cond) ∈ cw_tb := List.mem_filter.mpr ⟨List.mem_of_getElem? (i := 427) (by decide +kernel), rfl⟩
theorem tw_428 : (.code yX7_firstFault cX7_firstFault 9 (some .int) : Cond) ∈ cw_tb := List.mem_filter.mpr ⟨List.mem_of_getElem? (i := 428) (by decide +kernel), rfl⟩
theorem tw_429 : (.methodLink RX7 23 yX7_isOperand : Cond) ∈ cw_tb := List.mem_filter.mpr ⟨List.mem_of_getElem? (i := 429) (by decide +kernel), rfl⟩
theorem tw_430 : (.static yX7_isOperand : Cond) ∈ cw_tb := List.mem_filter.mpr ⟨List.mem_of_getElem? (i := 430) (by decide +kernel), rfl⟩
theorem tw_431 : (.code yX7_isOperand cX7_isOperand 1 (some .boolean) : Cond) ∈ cw_tb := List.mem_filter.mpr ⟨List.mem_of_getElem? (i := 431) (by decide +kernel), rfl⟩
theorem tw_432 : (.methodLink RX7 27 yX7_rank : Cond) ∈ cw_tb := List.mem_filter.mpr ⟨List.mem_of_getElem? (i := 432) (by decide +kernel), rfl⟩
theorem tw_433 : (.static yX7_rank : Cond) ∈ cw_tb := List.mem_filter.mpr ⟨List.mem_of_getElem? (i := 433) (by decide +kernel), rfl⟩
theorem tw_434 : (.code yX7_rank cX7_rank 1 (some .int) : Cond) ∈ cw_tb := List.mem_filter.mpr ⟨List.mem_of_getElem? (i := 434) (by decide +kernel), rfl⟩
theorem tw_435 : (.methodLink RX11 115 yX7_valueOf : Cond) ∈ cw_tb := List.mem_filter.mpr ⟨List.mem_of_getElem? (i := 435) (by decide +kernel), rfl⟩
theorem tw_436 : (.instanceMethod yX7_valueOf : Cond) ∈ cw_tb := List.mem_filter.mpr ⟨List.mem_of_getElem? (i := 436) (by decide +kernel), rfl⟩
theorem tw_437 : (.selects RX7 yX7_valueOf yX7_valueOf : Cond) ∈ cw_tb := List.mem_filter.mpr ⟨List.mem_of_getElem? (i := 437) (by decide +kernel), rfl⟩
theorem tw_438 : (.code yX7_valueOf cX7_valueOf 7 (some (.object "ReasonDesk$Bits")) : Cond) ∈ cw_tb := List.mem_filter.mpr ⟨List.mem_of_getElem? (i := 438) (by decide +kernel), rfl⟩
theorem tw_439 : (.methodLink RX7 38 yJ9_max_7cf53 : Cond) ∈ cw_tb := List.mem_filter.mpr ⟨List.mem_of_getElem? (i := 439) (by decide +kernel), rfl⟩
theorem tw_440 : (.methodLink RX7 44 yX7_bind : Cond) ∈ cw_tb := List.mem_filter.mpr ⟨List.mem_of_getElem? (i := 440) (by decide +kernel), rfl⟩
theorem tw_442 : (.instanceMethod yX7_bind : Cond) ∈ cw_tb := List.mem_filter.mpr ⟨List.mem_of_getElem? (i := 442) (by decide +kernel), rfl⟩
theorem tw_443 : (.code yX7_bind cX7_bind 2 none : Cond) ∈ cw_tb := List.mem_filter.mpr ⟨List.mem_of_getElem? (i := 443) (by decide +kernel), rfl⟩
theorem tw_444 : (.methodLink RX7 74 yX7_apply : Cond) ∈ cw_tb := List.mem_filter.mpr ⟨List.mem_of_getElem? (i := 444) (by decide +kernel), rfl⟩
theorem tw_446 : (.instanceMethod yX7_apply : Cond) ∈ cw_tb := List.mem_filter.mpr ⟨List.mem_of_getElem? (i := 446) (by decide +kernel), rfl⟩
theorem tw_447 : (.code yX7_apply cX7_apply 4 none : Cond) ∈ cw_tb := List.mem_filter.mpr ⟨List.mem_of_getElem? (i := 447) (by decide +kernel), rfl⟩
theorem tw_448 : (.methodLink RX7 77 yX1_meet : Cond) ∈ cw_tb := List.mem_filter.mpr ⟨List.mem_of_getElem? (i := 448) (by decide +kernel), rfl⟩
theorem tw_449 : (.instanceMethod yX1_meet : Cond) ∈ cw_tb := List.mem_filter.mpr ⟨List.mem_of_getElem? (i := 449) (by decide +kernel), rfl⟩
theorem tw_450 : (.selects RX1 yX1_meet yX1_meet : Cond) ∈ cw_tb := List.mem_filter.mpr ⟨List.mem_of_getElem? (i := 450) (by decide +kernel), rfl⟩
theorem tw_451 : (.code yX1_meet cX1_meet 3 none : Cond) ∈ cw_tb := List.mem_filter.mpr ⟨List.mem_of_getElem? (i := 451) (by decide +kernel), rfl⟩
theorem tw_452 : (.methodLink RX7 81 yX1_join : Cond) ∈ cw_tb := List.mem_filter.mpr ⟨List.mem_of_getElem? (i := 452) (by decide +kernel), rfl⟩
theorem tw_453 : (.instanceMethod yX1_join : Cond) ∈ cw_tb := List.mem_filter.mpr ⟨List.mem_of_getElem? (i := 453) (by decide +kernel), rfl⟩
theorem tw_454 : (.selects RX1 yX1_join yX1_join : Cond) ∈ cw_tb := List.mem_filter.mpr ⟨List.mem_of_getElem? (i := 454) (by decide +kernel), rfl⟩
theorem tw_455 : (.code yX1_join cX1_join 3 none : Cond) ∈ cw_tb := List.mem_filter.mpr ⟨List.mem_of_getElem? (i := 455) (by decide +kernel), rfl⟩
theorem tw_456 : (.methodLink RX7 84 yX1_imply : Cond) ∈ cw_tb := List.mem_filter.mpr ⟨List.mem_of_getElem? (i := 456) (by decide +kernel), rfl⟩
theorem tw_457 : (.instanceMethod yX1_imply : Cond) ∈ cw_tb := List.mem_filter.mpr ⟨List.mem_of_getElem? (i := 457) (by decide +kernel), rfl⟩
theorem tw_458 : (.selects RX1 yX1_imply yX1_imply : Cond) ∈ cw_tb := List.mem_filter.mpr ⟨List.mem_of_getElem? (i := 458) (by decide +kernel), rfl⟩
theorem tw_459 : (.code yX1_imply cX1_imply 2 none : Cond) ∈ cw_tb := List.mem_filter.mpr ⟨List.mem_of_getElem? (i := 459) (by decide +kernel), rfl⟩
theorem tw_460 : (.methodLink RX1 39 yX1_turn : Cond) ∈ cw_tb := List.mem_filter.mpr ⟨List.mem_of_getElem? (i := 460) (by decide +kernel), rfl⟩
theorem tw_461 : (.instanceMethod yX1_turn : Cond) ∈ cw_tb := List.mem_filter.mpr ⟨List.mem_of_getElem? (i := 461) (by decide +kernel), rfl⟩
theorem tw_462 : (.selects RX1 yX1_turn yX1_turn : Cond) ∈ cw_tb := List.mem_filter.mpr ⟨List.mem_of_getElem? (i := 462) (by decide +kernel), rfl⟩
theorem tw_463 : (.code yX1_turn cX1_turn 2 none : Cond) ∈ cw_tb := List.mem_filter.mpr ⟨List.mem_of_getElem? (i := 463) (by decide +kernel), rfl⟩
theorem tw_464 : (.constantLong RX1 25 (-1) : Cond) ∈ cw_tb := List.mem_filter.mpr ⟨List.mem_of_getElem? (i := 464) (by decide +kernel), rfl⟩
theorem tw_465 : (.methodLink RX1 42 yX1_join : Cond) ∈ cw_tb := List.mem_filter.mpr ⟨List.mem_of_getElem? (i := 465) (by decide +kernel), rfl⟩
theorem tw_466 : (.methodLink RX7 48 yX7_mark : Cond) ∈ cw_tb := List.mem_filter.mpr ⟨List.mem_of_getElem? (i := 466) (by decide +kernel), rfl⟩
theorem tw_468 : (.instanceMethod yX7_mark : Cond) ∈ cw_tb := List.mem_filter.mpr ⟨List.mem_of_getElem? (i := 468) (by decide +kernel), rfl⟩
theorem tw_469 : (.code yX7_mark cX7_mark 2 none : Cond) ∈ cw_tb := List.mem_filter.mpr ⟨List.mem_of_getElem? (i := 469) (by decide +kernel), rfl⟩
theorem tw_470 : (.methodLink RX7 51 yX7_closeBracket : Cond) ∈ cw_tb := List.mem_filter.mpr ⟨List.mem_of_getElem? (i := 470) (by decide +kernel), rfl⟩
theorem tw_472 : (.instanceMethod yX7_closeBracket : Cond) ∈ cw_tb := List.mem_filter.mpr ⟨List.mem_of_getElem? (i := 472) (by decide +kernel), rfl⟩
theorem tw_473 : (.code yX7_closeBracket cX7_closeBracket 1 none : Cond) ∈ cw_tb := List.mem_filter.mpr ⟨List.mem_of_getElem? (i := 473) (by decide +kernel), rfl⟩
theorem tw_474 : (.methodLink RX7 54 yX7_operand : Cond) ∈ cw_tb := List.mem_filter.mpr ⟨List.mem_of_getElem? (i := 474) (by decide +kernel), rfl⟩
theorem tw_476 : (.instanceMethod yX7_operand : Cond) ∈ cw_tb := List.mem_filter.mpr ⟨List.mem_of_getElem? (i := 476) (by decide +kernel), rfl⟩
theorem tw_477 : (.code yX7_operand cX7_operand 3 none : Cond) ∈ cw_tb := List.mem_filter.mpr ⟨List.mem_of_getElem? (i := 477) (by decide +kernel), rfl⟩
theorem tw_478 : (.methodLink RX7 60 yX1_fillUp : Cond) ∈ cw_tb := List.mem_filter.mpr ⟨List.mem_of_getElem? (i := 478) (by decide +kernel), rfl⟩
theorem tw_479 : (.instanceMethod yX1_fillUp : Cond) ∈ cw_tb := List.mem_filter.mpr ⟨List.mem_of_getElem? (i := 479) (by decide +kernel), rfl⟩
theorem tw_480 : (.selects RX1 yX1_fillUp yX1_fillUp : Cond) ∈ cw_tb := List.mem_filter.mpr ⟨List.mem_of_getElem? (i := 480) (by decide +kernel), rfl⟩
theorem tw_481 : (.code yX1_fillUp cX1_fillUp 1 none : Cond) ∈ cw_tb := List.mem_filter.mpr ⟨List.mem_of_getElem? (i := 481) (by decide +kernel), rfl⟩
theorem tw_482 : (.methodLink RX1 19 yJ7_fill_d0a16 : Cond) ∈ cw_tb := List.mem_filter.mpr ⟨List.mem_of_getElem? (i := 482) (by decide +kernel), rfl⟩
theorem tw_483 : (.static yJ7_fill_d0a16 : Cond) ∈ cw_tb := List.mem_filter.mpr ⟨List.mem_of_getElem? (i := 483) (by decide +kernel), rfl⟩
theorem tw_484 : (.code yJ7_fill_d0a16 cJ7_fill_d0a16 5 none : Cond) ∈ cw_tb := List.mem_filter.mpr ⟨List.mem_of_getElem? (i := 484) (by decide +kernel), rfl⟩
theorem tw_485 : (.methodLink RX7 65 yX1_clear : Cond) ∈ cw_tb := List.mem_filter.mpr ⟨List.mem_of_getElem? (i := 485) (by decide +kernel), rfl⟩
theorem tw_486 : (.instanceMethod yX1_clear : Cond) ∈ cw_tb := List.mem_filter.mpr ⟨List.mem_of_getElem? (i := 486) (by decide +kernel), rfl⟩
theorem tw_487 : (.selects RX1 yX1_clear yX1_clear : Cond) ∈ cw_tb := List.mem_filter.mpr ⟨List.mem_of_getElem? (i := 487) (by decide +kernel), rfl⟩
theorem tw_488 : (.code yX1_clear cX1_clear 1 none : Cond) ∈ cw_tb := List.mem_filter.mpr ⟨List.mem_of_getElem? (i := 488) (by decide +kernel), rfl⟩
theorem tw_489 : (.methodLink RX7 68 yX1_fillWith : Cond) ∈ cw_tb := List.mem_filter.mpr ⟨List.mem_of_getElem? (i := 489) (by decide +kernel), rfl⟩
theorem tw_490 : (.instanceMethod yX1_fillWith : Cond) ∈ cw_tb := List.mem_filter.mpr ⟨List.mem_of_getElem? (i := 490) (by decide +kernel), rfl⟩
theorem tw_491 : (.selects RX1 yX1_fillWith yX1_fillWith : Cond) ∈ cw_tb := List.mem_filter.mpr ⟨List.mem_of_getElem? (i := 491) (by decide +kernel), rfl⟩
theorem tw_492 : (.code yX1_fillWith cX1_fillWith 3 none : Cond) ∈ cw_tb := List.mem_filter.mpr ⟨List.mem_of_getElem? (i := 492) (by decide +kernel), rfl⟩
theorem tw_493 : (.fieldLink RX1 27 "ReasonDesk$Bits" "WITH" "[J" : Cond) ∈ cw_tb := List.mem_filter.mpr ⟨List.mem_of_getElem? (i := 493) (by decide +kernel), rfl⟩
theorem tw_495 : (.methodLink RX7 57 yX7_turnAsMarked : Cond) ∈ cw_tb := List.mem_filter.mpr ⟨List.mem_of_getElem? (i := 495) (by decide +kernel), rfl⟩
theorem tw_497 : (.instanceMethod yX7_turnAsMarked : Cond) ∈ cw_tb := List.mem_filter.mpr ⟨List.mem_of_getElem? (i := 497) (by decide +kernel), rfl⟩
theorem tw_498 : (.code yX7_turnAsMarked cX7_turnAsMarked 1 none : Cond) ∈ cw_tb := List.mem_filter.mpr ⟨List.mem_of_getElem? (i := 498) (by decide +kernel), rfl⟩
theorem tw_499 : (.methodLink RX7 71 yX1_turn : Cond) ∈ cw_tb := List.mem_filter.mpr ⟨List.mem_of_getElem? (i := 499) (by decide +kernel), rfl⟩
theorem tw_500 : (.methodLink RX11 119 yX1_become : Cond) ∈ cw_tb := List.mem_filter.mpr ⟨List.mem_of_getElem? (i := 500) (by decide +kernel), rfl⟩
theorem tw_501 : (.instanceMethod yX1_become : Cond) ∈ cw_tb := List.mem_filter.mpr ⟨List.mem_of_getElem? (i := 501) (by decide +kernel), rfl⟩
theorem tw_502 : (.selects RX1 yX1_become yX1_become : Cond) ∈ cw_tb := List.mem_filter.mpr ⟨List.mem_of_getElem? (i := 502) (by decide +kernel), rfl⟩
theorem tw_503 : (.code yX1_become cX1_become 3 none : Cond) ∈ cw_tb := List.mem_filter.mpr ⟨List.mem_of_getElem? (i := 503) (by decide +kernel), rfl⟩
theorem tw_504 : (.methodLink RX1 30 yJ9_min_7cf53 : Cond) ∈ cw_tb := List.mem_filter.mpr ⟨List.mem_of_getElem? (i := 504) (by decide +kernel), rfl⟩
theorem tw_505 : (.static yJ9_min_7cf53 : Cond) ∈ cw_tb := List.mem_filter.mpr ⟨List.mem_of_getElem? (i := 505) (by decide +kernel), rfl⟩
theorem tw_506 : (.code yJ9_min_7cf53 cJ9_min_7cf53 2 (some .int) : Cond) ∈ cw_tb := List.mem_filter.mpr ⟨List.mem_of_getElem? (i := 506) (by decide +kernel), rfl⟩
theorem tw_507 : (.methodLink RX1 33 arraycopyName : Cond) ∈ cw_tb := List.mem_filter.mpr ⟨List.mem_of_getElem? (i := 507) (by decide +kernel), rfl⟩
theorem tw_508 : (.static arraycopyName : Cond) ∈ cw_tb := List.mem_filter.mpr ⟨List.mem_of_getElem? (i := 508) (by decide +kernel), rfl⟩
theorem tw_509 : (.native arraycopyName : Cond) ∈ cw_tb := List.mem_filter.mpr ⟨List.mem_of_getElem? (i := 509) (by decide +kernel), rfl⟩
theorem tw_510 : (.methodLink RX11 123 yX11_newSentence : Cond) ∈ cw_tb := List.mem_filter.mpr ⟨List.mem_of_getElem? (i := 510) (by decide +kernel), rfl⟩
theorem tw_512 : (.instanceMethod yX11_newSentence : Cond) ∈ cw_tb := List.mem_filter.mpr ⟨List.mem_of_getElem? (i := 512) (by decide +kernel), rfl⟩
theorem tw_513 : (.code yX11_newSentence cX11_newSentence 2 (some .int) : Cond) ∈ cw_tb := List.mem_filter.mpr ⟨List.mem_of_getElem? (i := 513) (by decide +kernel), rfl⟩
theorem tw_518 : (.methodLink RX11 127 yX11_sentenceAt : Cond) ∈ cw_tb := List.mem_filter.mpr ⟨List.mem_of_getElem? (i := 518) (by decide +kernel), rfl⟩
theorem tw_520 : (.instanceMethod yX11_sentenceAt : Cond) ∈ cw_tb := List.mem_filter.mpr ⟨List.mem_of_getElem? (i := 520) (by decide +kernel), rfl⟩
theorem tw_521 : (.code yX11_sentenceAt cX11_sentenceAt 2 (some (.object "ReasonDesk$Bits")) : Cond) ∈ cw_tb := List.mem_filter.mpr ⟨List.mem_of_getElem? (i := 521) (by decide +kernel), rfl⟩
theorem tw_522 : (.methodLink RX11 131 yX1_turn : Cond) ∈ cw_tb := List.mem_filter.mpr ⟨List.mem_of_getElem? (i := 522) (by decide +kernel), rfl⟩
theorem tw_523 : (.methodLink RX11 134 yX1_meet : Cond) ∈ cw_tb := List.mem_filter.mpr ⟨List.mem_of_getElem? (i := 523) (by decide +kernel), rfl⟩
theorem tw_524 : (.methodLink RX11 137 yX1_join : Cond) ∈ cw_tb := List.mem_filter.mpr ⟨List.mem_of_getElem? (i := 524) (by decide +kernel), rfl⟩
theorem tw_525 : (.methodLink RX11 140 yX1_imply : Cond) ∈ cw_tb := List.mem_filter.mpr ⟨List.mem_of_getElem? (i := 525) (by decide +kernel), rfl⟩
theorem tw_526 : (.methodLink RX11 143 yX1_match : Cond) ∈ cw_tb := List.mem_filter.mpr ⟨List.mem_of_getElem? (i := 526) (by decide +kernel), rfl⟩
theorem tw_527 : (.instanceMethod yX1_match : Cond) ∈ cw_tb := List.mem_filter.mpr ⟨List.mem_of_getElem? (i := 527) (by decide +kernel), rfl⟩
theorem tw_528 : (.selects RX1 yX1_match yX1_match : Cond) ∈ cw_tb := List.mem_filter.mpr ⟨List.mem_of_getElem? (i := 528) (by decide +kernel), rfl⟩
theorem tw_529 : (.code yX1_match cX1_match 3 none : Cond) ∈ cw_tb := List.mem_filter.mpr ⟨List.mem_of_getElem? (i := 529) (by decide +kernel), rfl⟩
theorem tw_534 : (.methodLink RX11 146 yX1_size : Cond) ∈ cw_tb := List.mem_filter.mpr ⟨List.mem_of_getElem? (i := 534) (by decide +kernel), rfl⟩
theorem tw_535 : (.instanceMethod yX1_size : Cond) ∈ cw_tb := List.mem_filter.mpr ⟨List.mem_of_getElem? (i := 535) (by decide +kernel), rfl⟩
theorem tw_536 : (.selects RX1 yX1_size yX1_size : Cond) ∈ cw_tb := List.mem_filter.mpr ⟨List.mem_of_getElem? (i := 536) (by decide +kernel), rfl⟩
theorem tw_537 : (.code yX1_size cX1_size 3 (some .int) : Cond) ∈ cw_tb := List.mem_filter.mpr ⟨List.mem_of_getElem? (i := 537) (by decide +kernel), rfl⟩
theorem tw_538 : (.methodLink RX1 46 yJ13_bitCount_95d88 : Cond) ∈ cw_tb := List.mem_filter.mpr ⟨List.mem_of_getElem? (i := 538) (by decide +kernel), rfl⟩
theorem tw_539 : (.static yJ13_bitCount_95d88 : Cond) ∈ cw_tb := List.mem_filter.mpr ⟨List.mem_of_getElem? (i := 539) (by decide +kernel), rfl⟩
theorem tw_540 : (.code yJ13_bitCount_95d88 cJ13_bitCount_95d88 2 (some .int) : Cond) ∈ cw_tb := List.mem_filter.mpr ⟨List.mem_of_getElem? (i := 540) (by decide +kernel), rfl⟩
theorem tw_541 : (.constantLong RJ13 314 (6148914691236517205) : Cond) ∈ cw_tb := List.mem_filter.mpr ⟨List.mem_of_getElem? (i := 541) (by decide +kernel), rfl⟩
theorem tw_542 : (.constantLong RJ13 316 (3689348814741910323) : Cond) ∈ cw_tb := List.mem_filter.mpr ⟨List.mem_of_getElem? (i := 542) (by decide +kernel), rfl⟩
theorem tw_543 : (.constantLong RJ13 318 (1085102592571150095) : Cond) ∈ cw_tb := List.mem_filter.mpr ⟨List.mem_of_getElem? (i := 543) (by decide +kernel), rfl⟩
theorem tw_548 : (.methodLink RX11 149 yX11_isWorld : Cond) ∈ cw_tb := List.mem_filter.mpr ⟨List.mem_of_getElem? (i := 548) (by decide +kernel), rfl⟩
theorem tw_549 : (.static yX11_isWorld : Cond) ∈ cw_tb := List.mem_filter.mpr ⟨List.mem_of_getElem? (i := 549) (by decide +kernel), rfl⟩
theorem tw_550 : (.code yX11_isWorld cX11_isWorld 1 (some .boolean) : Cond) ∈ cw_tb := List.mem_filter.mpr ⟨List.mem_of_getElem? (i := 550) (by decide +kernel), rfl⟩
theorem tw_551 : (.methodLink RX11 152 yX1_has : Cond) ∈ cw_tb := List.mem_filter.mpr ⟨List.mem_of_getElem? (i := 551) (by decide +kernel), rfl⟩
theorem tw_552 : (.instanceMethod yX1_has : Cond) ∈ cw_tb := List.mem_filter.mpr ⟨List.mem_of_getElem? (i := 552) (by decide +kernel), rfl⟩
theorem tw_553 : (.selects RX1 yX1_has yX1_has : Cond) ∈ cw_tb := List.mem_filter.mpr ⟨List.mem_of_getElem? (i := 553) (by decide +kernel), rfl⟩
theorem tw_554 : (.code yX1_has cX1_has 3 (some .boolean) : Cond) ∈ cw_tb := List.mem_filter.mpr ⟨List.mem_of_getElem? (i := 554) (by decide +kernel), rfl⟩
theorem tw_559 : (.methodLink RX11 155 yX1_within : Cond) ∈ cw_tb := List.mem_filter.mpr ⟨List.mem_of_getElem? (i := 559) (by decide +kernel), rfl⟩
theorem tw_560 : (.instanceMethod yX1_within : Cond) ∈ cw_tb := List.mem_filter.mpr ⟨List.mem_of_getElem? (i := 560) (by decide +kernel), rfl⟩
theorem tw_561 : (.selects RX1 yX1_within yX1_within : Cond) ∈ cw_tb := List.mem_filter.mpr ⟨List.mem_of_getElem? (i := 561) (by decide +kernel), rfl⟩
theorem tw_562 : (.code yX1_within cX1_within 3 (some .boolean) : Cond) ∈ cw_tb := List.mem_filter.mpr ⟨List.mem_of_getElem? (i := 562) (by decide +kernel), rfl⟩
theorem tw_563 : (.methodLink RX11 159 yX1_apart : Cond) ∈ cw_tb := List.mem_filter.mpr ⟨List.mem_of_getElem? (i := 563) (by decide +kernel), rfl⟩
theorem tw_564 : (.instanceMethod yX1_apart : Cond) ∈ cw_tb := List.mem_filter.mpr ⟨List.mem_of_getElem? (i := 564) (by decide +kernel), rfl⟩
theorem tw_565 : (.selects RX1 yX1_apart yX1_apart : Cond) ∈ cw_tb := List.mem_filter.mpr ⟨List.mem_of_getElem? (i := 565) (by decide +kernel), rfl⟩
theorem tw_566 : (.code yX1_apart cX1_apart 3 (some .boolean) : Cond) ∈ cw_tb := List.mem_filter.mpr ⟨List.mem_of_getElem? (i := 566) (by decide +kernel), rfl⟩
theorem tw_571 : (.methodLink RX11 162 yX11_isSource : Cond) ∈ cw_tb := List.mem_filter.mpr ⟨List.mem_of_getElem? (i := 571) (by decide +kernel), rfl⟩
theorem tw_572 : (.static yX11_isSource : Cond) ∈ cw_tb := List.mem_filter.mpr ⟨List.mem_of_getElem? (i := 572) (by decide +kernel), rfl⟩
theorem tw_573 : (.code yX11_isSource cX11_isSource 1 (some .boolean) : Cond) ∈ cw_tb := List.mem_filter.mpr ⟨List.mem_of_getElem? (i := 573) (by decide +kernel), rfl⟩
theorem tw_578 : (.methodLink RX11 168 yX11_isTime : Cond) ∈ cw_tb := List.mem_filter.mpr ⟨List.mem_of_getElem? (i := 578) (by decide +kernel), rfl⟩
theorem tw_579 : (.static yX11_isTime : Cond) ∈ cw_tb := List.mem_filter.mpr ⟨List.mem_of_getElem? (i := 579) (by decide +kernel), rfl⟩
theorem tw_580 : (.code yX11_isTime cX11_isTime 1 (some .boolean) : Cond) ∈ cw_tb := List.mem_filter.mpr ⟨List.mem_of_getElem? (i := 580) (by decide +kernel), rfl⟩
theorem tw_581 : (.methodLink RX11 171 yX2_isFull : Cond) ∈ cw_tb := List.mem_filter.mpr ⟨List.mem_of_getElem? (i := 581) (by decide +kernel), rfl⟩
theorem tw_582 : (.instanceMethod yX2_isFull : Cond) ∈ cw_tb := List.mem_filter.mpr ⟨List.mem_of_getElem? (i := 582) (by decide +kernel), rfl⟩
theorem tw_583 : (.selects RX2 yX2_isFull yX2_isFull : Cond) ∈ cw_tb := List.mem_filter.mpr ⟨List.mem_of_getElem? (i := 583) (by decide +kernel), rfl⟩
theorem tw_584 : (.code yX2_isFull cX2_isFull 1 (some .boolean) : Cond) ∈ cw_tb := List.mem_filter.mpr ⟨List.mem_of_getElem? (i := 584) (by decide +kernel), rfl⟩
theorem tw_585 : (.classLink RX11 175 "ReasonDesk$Entry" : Cond) ∈ cw_tb := List.mem_filter.mpr ⟨List.mem_of_getElem? (i := 585) (by decide +kernel), rfl⟩
theorem tw_586 : (.instantiable RX4 7 : Cond) ∈ cw_tb := List.mem_filter.mpr ⟨List.mem_of_getElem? (i := 586) (by decide +kernel), rfl⟩
theorem tw_587 : (.methodLink RX11 180 yX4_init : Cond) ∈ cw_tb := List.mem_filter.mpr ⟨List.mem_of_getElem? (i := 587) (by decide +kernel), rfl⟩
theorem tw_588 : (.instanceMethod yX4_init : Cond) ∈ cw_tb := List.mem_filter.mpr ⟨List.mem_of_getElem? (i := 588) (by decide +kernel), rfl⟩
theorem tw_589 : (.code yX4_init cX4_init 7 none : Cond) ∈ cw_tb := List.mem_filter.mpr ⟨List.mem_of_getElem? (i := 589) (by decide +kernel), rfl⟩
theorem tw_590 : (.methodLink RX4 3 yX10_init : Cond) ∈ cw_tb := List.mem_filter.mpr ⟨List.mem_of_getElem? (i := 590) (by decide +kernel), rfl⟩
theorem tw_591 : (.instanceMethod yX10_init : Cond) ∈ cw_tb := List.mem_filter.mpr ⟨List.mem_of_getElem? (i := 591) (by decide +kernel), rfl⟩
theorem tw_592 : (.code yX10_init cX10_init 2 none : Cond) ∈ cw_tb := List.mem_filter.mpr ⟨List.mem_of_getElem? (i := 592) (by decide +kernel), rfl⟩
theorem tw_593 : (.methodLink RX10 1 Lib.objectInit : Cond) ∈ cw_tb := List.mem_filter.mpr ⟨List.mem_of_getElem? (i := 593) (by decide +kernel), rfl⟩
theorem tw_594 : (.fieldLink RX4 9 "ReasonDesk$Entry" "sentence" "I" : Cond) ∈ cw_tb := List.mem_filter.mpr ⟨List.mem_of_getElem? (i := 594) (by decide +kernel), rfl⟩
theorem tw_595 : (.fieldLink RX11 205 "ReasonDesk$Entry" "sentence" "I" : Cond) ∈ cw_tb := List.mem_filter.mpr ⟨List.mem_of_getElem? (i := 595) (by decide +kernel), rfl⟩
theorem tw_596 : (.fieldLink RX4 15 "ReasonDesk$Entry" "source" "I" : Cond) ∈ cw_tb := List.mem_filter.mpr ⟨List.mem_of_getElem? (i := 596) (by decide +kernel), rfl⟩
theorem tw_597 : (.fieldLink RX2 87 "ReasonDesk$Entry" "source" "I" : Cond) ∈ cw_tb := List.mem_filter.mpr ⟨List.mem_of_getElem? (i := 597) (by decide +kernel), rfl⟩
theorem tw_598 : (.fieldLink RX11 208 "ReasonDesk$Entry" "source" "I" : Cond) ∈ cw_tb := List.mem_filter.mpr ⟨List.mem_of_getElem? (i := 598) (by decide +kernel), rfl⟩
theorem tw_599 : (.fieldLink RX4 18 "ReasonDesk$Entry" "from" "I" : Cond) ∈ cw_tb := List.mem_filter.mpr ⟨List.mem_of_getElem? (i := 599) (by decide +kernel), rfl⟩
theorem tw_600 : (.fieldLink RX2 72 "ReasonDesk$Entry" "from" "I" : Cond) ∈ cw_tb := List.mem_filter.mpr ⟨List.mem_of_getElem? (i := 600) (by decide +kernel), rfl⟩
theorem tw_601 : (.fieldLink RX11 211 "ReasonDesk$Entry" "from" "I" : Cond) ∈ cw_tb := List.mem_filter.mpr ⟨List.mem_of_getElem? (i := 601) (by decide +kernel), rfl⟩
theorem tw_602 : (.fieldLink RX4 21 "ReasonDesk$Entry" "to" "I" : Cond) ∈ cw_tb := List.mem_filter.mpr ⟨List.mem_of_getElem? (i := 602) (by decide +kernel), rfl⟩
theorem tw_603 : (.fieldLink RX2 78 "ReasonDesk$Entry" "to" "I" : Cond) ∈ cw_tb := List.mem_filter.mpr ⟨List.mem_of_getElem? (i := 603) (by decide +kernel), rfl⟩
theorem tw_604 : (.fieldLink RX11 214 "ReasonDesk$Entry" "to" "I" : Cond) ∈ cw_tb := List.mem_filter.mpr ⟨List.mem_of_getElem? (i := 604) (by decide +kernel), rfl⟩
theorem tw_605 : (.fieldLink RX4 24 "ReasonDesk$Entry" "known" "I" : Cond) ∈ cw_tb := List.mem_filter.mpr ⟨List.mem_of_getElem? (i := 605) (by decide +kernel), rfl⟩
theorem tw_606 : (.fieldLink RX2 81 "ReasonDesk$Entry" "known" "I" : Cond) ∈ cw_tb := List.mem_filter.mpr ⟨List.mem_of_getElem? (i := 606) (by decide +kernel), rfl⟩
theorem tw_607 : (.fieldLink RX11 217 "ReasonDesk$Entry" "known" "I" : Cond) ∈ cw_tb := List.mem_filter.mpr ⟨List.mem_of_getElem? (i := 607) (by decide +kernel), rfl⟩
theorem tw_608 : (.fieldLink RX4 27 "ReasonDesk$Entry" "givenUp" "I" : Cond) ∈ cw_tb := List.mem_filter.mpr ⟨List.mem_of_getElem? (i := 608) (by decide +kernel), rfl⟩
theorem tw_609 : (.fieldLink RX2 84 "ReasonDesk$Entry" "givenUp" "I" : Cond) ∈ cw_tb := List.mem_filter.mpr ⟨List.mem_of_getElem? (i := 609) (by decide +kernel), rfl⟩
theorem tw_610 : (.fieldLink RX11 220 "ReasonDesk$Entry" "givenUp" "I" : Cond) ∈ cw_tb := List.mem_filter.mpr ⟨List.mem_of_getElem? (i := 610) (by decide +kernel), rfl⟩
theorem tw_611 : (.fieldLink RX10 7 "ReasonDesk$Thing" "number" "I" : Cond) ∈ cw_tb := List.mem_filter.mpr ⟨List.mem_of_getElem? (i := 611) (by decide +kernel), rfl⟩
theorem tw_612 : (.fieldLink RX2 65 "ReasonDesk$Entry" "number" "I" : Cond) ∈ cw_tb := List.mem_filter.mpr ⟨List.mem_of_getElem? (i := 612) (by decide +kernel), rfl⟩
theorem tw_613 : (.sameField "ReasonDesk$Entry" "ReasonDesk$Thing" "number" "I" : Cond) ∈ cw_tb := List.mem_filter.mpr ⟨List.mem_of_getElem? (i := 613) (by decide +kernel), rfl⟩
theorem tw_614 : (.fieldLink RX8 30 "ReasonDesk$Rule" "number" "I" : Cond) ∈ cw_tb := List.mem_filter.mpr ⟨List.mem_of_getElem? (i := 614) (by decide +kernel), rfl⟩
theorem tw_615 : (.sameField "ReasonDesk$Rule" "ReasonDesk$Thing" "number" "I" : Cond) ∈ cw_tb := List.mem_filter.mpr ⟨List.mem_of_getElem? (i := 615) (by decide +kernel), rfl⟩
theorem tw_616 : (.fieldLink RX9 66 "ReasonDesk$Rule" "number" "I" : Cond) ∈ cw_tb := List.mem_filter.mpr ⟨List.mem_of_getElem? (i := 616) (by decide +kernel), rfl⟩
theorem tw_617 : (.fieldLink RX11 408 "ReasonDesk$Thing" "number" "I" : Cond) ∈ cw_tb := List.mem_filter.mpr ⟨List.mem_of_getElem? (i := 617) (by decide +kernel), rfl⟩
theorem tw_633 : (.methodLink RX11 183 yX2_keep : Cond) ∈ cw_tb := List.mem_filter.mpr ⟨List.mem_of_getElem? (i := 633) (by decide +kernel), rfl⟩
theorem tw_634 : (.instanceMethod yX2_keep : Cond) ∈ cw_tb := List.mem_filter.mpr ⟨List.mem_of_getElem? (i := 634) (by decide +kernel), rfl⟩
theorem tw_635 : (.selects RX2 yX2_keep yX2_keep : Cond) ∈ cw_tb := List.mem_filter.mpr ⟨List.mem_of_getElem? (i := 635) (by decide +kernel), rfl⟩
theorem tw_636 : (.code yX2_keep cX2_keep 4 (some .int) : Cond) ∈ cw_tb := List.mem_filter.mpr ⟨List.mem_of_getElem? (i := 636) (by decide +kernel), rfl⟩
theorem tw_637 : (.methodLink RX2 61 yX1_has : Cond) ∈ cw_tb := List.mem_filter.mpr ⟨List.mem_of_getElem? (i := 637) (by decide +kernel), rfl⟩
theorem tw_642 : (.methodLink RX11 193 yX2_inView : Cond) ∈ cw_tb := List.mem_filter.mpr ⟨List.mem_of_getElem? (i := 642) (by decide +kernel), rfl⟩
theorem tw_643 : (.instanceMethod yX2_inView : Cond) ∈ cw_tb := List.mem_filter.mpr ⟨List.mem_of_getElem? (i := 643) (by decide +kernel), rfl⟩
theorem tw_644 : (.selects RX2 yX2_inView yX2_inView : Cond) ∈ cw_tb := List.mem_filter.mpr ⟨List.mem_of_getElem? (i := 644) (by decide +kernel), rfl⟩
theorem tw_645 : (.code yX2_inView cX2_inView 4 (some .int) : Cond) ∈ cw_tb := List.mem_filter.mpr ⟨List.mem_of_getElem? (i := 645) (by decide +kernel), rfl⟩
theorem tw_646 : (.methodLink RX2 68 yX2_entryAt : Cond) ∈ cw_tb := List.mem_filter.mpr ⟨List.mem_of_getElem? (i := 646) (by decide +kernel), rfl⟩
theorem tw_647 : (.instanceMethod yX2_entryAt : Cond) ∈ cw_tb := List.mem_filter.mpr ⟨List.mem_of_getElem? (i := 647) (by decide +kernel), rfl⟩
theorem tw_648 : (.selects RX2 yX2_entryAt yX2_entryAt : Cond) ∈ cw_tb := List.mem_filter.mpr ⟨List.mem_of_getElem? (i := 648) (by decide +kernel), rfl⟩
theorem tw_649 : (.code yX2_entryAt cX2_entryAt 2 (some (.object "ReasonDesk$Entry")) : Cond) ∈ cw_tb := List.mem_filter.mpr ⟨List.mem_of_getElem? (i := 649) (by decide +kernel), rfl⟩
theorem tw_650 : (.methodLink RX11 196 yJ6_bitCount_0f7a4 : Cond) ∈ cw_tb := List.mem_filter.mpr ⟨List.mem_of_getElem? (i := 650) (by decide +kernel), rfl⟩
theorem tw_651 : (.static yJ6_bitCount_0f7a4 : Cond) ∈ cw_tb := List.mem_filter.mpr ⟨List.mem_of_getElem? (i := 651) (by decide +kernel), rfl⟩
theorem tw_652 : (.code yJ6_bitCount_0f7a4 cJ6_bitCount_0f7a4 1 (some .int) : Cond) ∈ cw_tb := List.mem_filter.mpr ⟨List.mem_of_getElem? (i := 652) (by decide +kernel), rfl⟩
theorem tw_653 : (.constant RJ6 265 (1431655765) : Cond) ∈ cw_tb := List.mem_filter.mpr ⟨List.mem_of_getElem? (i := 653) (by decide +kernel), rfl⟩
theorem tw_654 : (.constant RJ6 266 (858993459) : Cond) ∈ cw_tb := List.mem_filter.mpr ⟨List.mem_of_getElem? (i := 654) (by decide +kernel), rfl⟩
theorem tw_655 : (.constant RJ6 267 (252645135) : Cond) ∈ cw_tb := List.mem_filter.mpr ⟨List.mem_of_getElem? (i := 655) (by decide +kernel), rfl⟩
theorem tw_660 : (.methodLink RX11 201 yX2_entryAt : Cond) ∈ cw_tb := List.mem_filter.mpr ⟨List.mem_of_getElem? (i := 660) (by decide +kernel), rfl⟩
theorem tw_661 : (.methodLink RX11 223 yX2_free : Cond) ∈ cw_tb := List.mem_filter.mpr ⟨List.mem_of_getElem? (i := 661) (by decide +kernel), rfl⟩
theorem tw_662 : (.instanceMethod yX2_free : Cond) ∈ cw_tb := List.mem_filter.mpr ⟨List.mem_of_getElem? (i := 662) (by decide +kernel), rfl⟩
theorem tw_663 : (.selects RX2 yX2_free yX2_free : Cond) ∈ cw_tb := List.mem_filter.mpr ⟨List.mem_of_getElem? (i := 663) (by decide +kernel), rfl⟩
theorem tw_664 : (.code yX2_free cX2_free 5 (some .int) : Cond) ∈ cw_tb := List.mem_filter.mpr ⟨List.mem_of_getElem? (i := 664) (by decide +kernel), rfl⟩
theorem tw_665 : (.methodLink RX2 123 yX2_concord : Cond) ∈ cw_tb := List.mem_filter.mpr ⟨List.mem_of_getElem? (i := 665) (by decide +kernel), rfl⟩
theorem tw_666 : (.instanceMethod yX2_concord : Cond) ∈ cw_tb := List.mem_filter.mpr ⟨List.mem_of_getElem? (i := 666) (by decide +kernel), rfl⟩
theorem tw_667 : (.selects RX2 yX2_concord yX2_concord : Cond) ∈ cw_tb := List.mem_filter.mpr ⟨List.mem_of_getElem? (i := 667) (by decide +kernel), rfl⟩
theorem tw_668 : (.code yX2_concord cX2_concord 2 (some (.object "ReasonDesk$Bits")) : Cond) ∈ cw_tb := List.mem_filter.mpr ⟨List.mem_of_getElem? (i := 668) (by decide +kernel), rfl⟩
theorem tw_669 : (.methodLink RX2 99 yX2_inView : Cond) ∈ cw_tb := List.mem_filter.mpr ⟨List.mem_of_getElem? (i := 669) (by decide +kernel), rfl⟩
theorem tw_670 : (.methodLink RX2 103 yX2_collect : Cond) ∈ cw_tb := List.mem_filter.mpr ⟨List.mem_of_getElem? (i := 670) (by decide +kernel), rfl⟩
theorem tw_672 : (.instanceMethod yX2_collect : Cond) ∈ cw_tb := List.mem_filter.mpr ⟨List.mem_of_getElem? (i := 672) (by decide +kernel), rfl⟩
theorem tw_673 : (.code yX2_collect cX2_collect 5 none : Cond) ∈ cw_tb := List.mem_filter.mpr ⟨List.mem_of_getElem? (i := 673) (by decide +kernel), rfl⟩
theorem tw_674 : (.methodLink RX2 93 yX1_clear : Cond) ∈ cw_tb := List.mem_filter.mpr ⟨List.mem_of_getElem? (i := 674) (by decide +kernel), rfl⟩
theorem tw_675 : (.methodLink RX2 96 yX1_add : Cond) ∈ cw_tb := List.mem_filter.mpr ⟨List.mem_of_getElem? (i := 675) (by decide +kernel), rfl⟩
theorem tw_676 : (.instanceMethod yX1_add : Cond) ∈ cw_tb := List.mem_filter.mpr ⟨List.mem_of_getElem? (i := 676) (by decide +kernel), rfl⟩
theorem tw_677 : (.selects RX1 yX1_add yX1_add : Cond) ∈ cw_tb := List.mem_filter.mpr ⟨List.mem_of_getElem? (i := 677) (by decide +kernel), rfl⟩
theorem tw_678 : (.code yX1_add cX1_add 3 none : Cond) ∈ cw_tb := List.mem_filter.mpr ⟨List.mem_of_getElem? (i := 678) (by decide +kernel), rfl⟩
theorem tw_679 : (.methodLink RX2 107 yX1_closeDown : Cond) ∈ cw_tb := List.mem_filter.mpr ⟨List.mem_of_getElem? (i := 679) (by decide +kernel), rfl⟩
theorem tw_680 : (.instanceMethod yX1_closeDown : Cond) ∈ cw_tb := List.mem_filter.mpr ⟨List.mem_of_getElem? (i := 680) (by decide +kernel), rfl⟩
theorem tw_681 : (.selects RX1 yX1_closeDown yX1_closeDown : Cond) ∈ cw_tb := List.mem_filter.mpr ⟨List.mem_of_getElem? (i := 681) (by decide +kernel), rfl⟩
theorem tw_682 : (.code yX1_closeDown cX1_closeDown 4 none : Cond) ∈ cw_tb := List.mem_filter.mpr ⟨List.mem_of_getElem? (i := 682) (by decide +kernel), rfl⟩
theorem tw_683 : (.methodLink RX1 55 yX1_lowered : Cond) ∈ cw_tb := List.mem_filter.mpr ⟨List.mem_of_getElem? (i := 683) (by decide +kernel), rfl⟩
theorem tw_685 : (.instanceMethod yX1_lowered : Cond) ∈ cw_tb := List.mem_filter.mpr ⟨List.mem_of_getElem? (i := 685) (by decide +kernel), rfl⟩
theorem tw_686 : (.code yX1_lowered cX1_lowered 4 (some .long) : Cond) ∈ cw_tb := List.mem_filter.mpr ⟨List.mem_of_getElem? (i := 686) (by decide +kernel), rfl⟩
theorem tw_687 : (.methodLink RX2 120 yX1_becomeTops : Cond) ∈ cw_tb := List.mem_filter.mpr ⟨List.mem_of_getElem? (i := 687) (by decide +kernel), rfl⟩
theorem tw_688 : (.instanceMethod yX1_becomeTops : Cond) ∈ cw_tb := List.mem_filter.mpr ⟨List.mem_of_getElem? (i := 688) (by decide +kernel), rfl⟩
theorem tw_689 : (.selects RX1 yX1_becomeTops yX1_becomeTops : Cond) ∈ cw_tb := List.mem_filter.mpr ⟨List.mem_of_getElem? (i := 689) (by decide +kernel), rfl⟩
theorem tw_690 : (.code yX1_becomeTops cX1_becomeTops 5 none : Cond) ∈ cw_tb := List.mem_filter.mpr ⟨List.mem_of_getElem? (i := 690) (by decide +kernel), rfl⟩
theorem tw_691 : (.methodLink RX1 62 yX1_become : Cond) ∈ cw_tb := List.mem_filter.mpr ⟨List.mem_of_getElem? (i := 691) (by decide +kernel), rfl⟩
theorem tw_692 : (.methodLink RX2 127 yX1_size : Cond) ∈ cw_tb := List.mem_filter.mpr ⟨List.mem_of_getElem? (i := 692) (by decide +kernel), rfl⟩
theorem tw_693 : (.methodLink RX2 130 yX1_after : Cond) ∈ cw_tb := List.mem_filter.mpr ⟨List.mem_of_getElem? (i := 693) (by decide +kernel), rfl⟩
theorem tw_694 : (.instanceMethod yX1_after : Cond) ∈ cw_tb := List.mem_filter.mpr ⟨List.mem_of_getElem? (i := 694) (by decide +kernel), rfl⟩
theorem tw_695 : (.selects RX1 yX1_after yX1_after : Cond) ∈ cw_tb := List.mem_filter.mpr ⟨List.mem_of_getElem? (i := 695) (by decide +kernel), rfl⟩
theorem tw_696 : (.code yX1_after cX1_after 6 (some .int) : Cond) ∈ cw_tb := List.mem_filter.mpr ⟨List.mem_of_getElem? (i := 696) (by decide +kernel), rfl⟩
theorem tw_697 : (.methodLink RX1 52 yX1_lowest : Cond) ∈ cw_tb := List.mem_filter.mpr ⟨List.mem_of_getElem? (i := 697) (by decide +kernel), rfl⟩
theorem tw_698 : (.static yX1_lowest : Cond) ∈ cw_tb := List.mem_filter.mpr ⟨List.mem_of_getElem? (i := 698) (by decide +kernel), rfl⟩
theorem tw_699 : (.code yX1_lowest cX1_lowest 2 (some .int) : Cond) ∈ cw_tb := List.mem_filter.mpr ⟨List.mem_of_getElem? (i := 699) (by decide +kernel), rfl⟩
theorem tw_700 : (.methodLink RX11 226 yX2_concord : Cond) ∈ cw_tb := List.mem_filter.mpr ⟨List.mem_of_getElem? (i := 700) (by decide +kernel), rfl⟩
theorem tw_701 : (.methodLink RX11 230 yX1_sharing : Cond) ∈ cw_tb := List.mem_filter.mpr ⟨List.mem_of_getElem? (i := 701) (by decide +kernel), rfl⟩
theorem tw_702 : (.instanceMethod yX1_sharing : Cond) ∈ cw_tb := List.mem_filter.mpr ⟨List.mem_of_getElem? (i := 702) (by decide +kernel), rfl⟩
theorem tw_703 : (.selects RX1 yX1_sharing yX1_sharing : Cond) ∈ cw_tb := List.mem_filter.mpr ⟨List.mem_of_getElem? (i := 703) (by decide +kernel), rfl⟩
theorem tw_704 : (.code yX1_sharing cX1_sharing 4 (some .int) : Cond) ∈ cw_tb := List.mem_filter.mpr ⟨List.mem_of_getElem? (i := 704) (by decide +kernel), rfl⟩
theorem tw_713 : (.methodLink RX11 233 yX2_areEntries : Cond) ∈ cw_tb := List.mem_filter.mpr ⟨List.mem_of_getElem? (i := 713) (by decide +kernel), rfl⟩
theorem tw_714 : (.instanceMethod yX2_areEntries : Cond) ∈ cw_tb := List.mem_filter.mpr ⟨List.mem_of_getElem? (i := 714) (by decide +kernel), rfl⟩
theorem tw_715 : (.selects RX2 yX2_areEntries yX2_areEntries : Cond) ∈ cw_tb := List.mem_filter.mpr ⟨List.mem_of_getElem? (i := 715) (by decide +kernel), rfl⟩
theorem tw_716 : (.code yX2_areEntries cX2_areEntries 2 (some .boolean) : Cond) ∈ cw_tb := List.mem_filter.mpr ⟨List.mem_of_getElem? (i := 716) (by decide +kernel), rfl⟩
theorem tw_717 : (.methodLink RX11 236 yX2_weigh : Cond) ∈ cw_tb := List.mem_filter.mpr ⟨List.mem_of_getElem? (i := 717) (by decide +kernel), rfl⟩
theorem tw_718 : (.instanceMethod yX2_weigh : Cond) ∈ cw_tb := List.mem_filter.mpr ⟨List.mem_of_getElem? (i := 718) (by decide +kernel), rfl⟩
theorem tw_719 : (.selects RX2 yX2_weigh yX2_weigh : Cond) ∈ cw_tb := List.mem_filter.mpr ⟨List.mem_of_getElem? (i := 719) (by decide +kernel), rfl⟩
theorem tw_720 : (.code yX2_weigh cX2_weigh 5 (some .int) : Cond) ∈ cw_tb := List.mem_filter.mpr ⟨List.mem_of_getElem? (i := 720) (by decide +kernel), rfl⟩
theorem tw_723 : (.instanceMethod yX11_together : Cond) ∈ cw_tb := List.mem_filter.mpr ⟨List.mem_of_getElem? (i := 723) (by decide +kernel), rfl⟩
theorem tw_724 : (.selects RX11 yX11_together yX11_together : Cond) ∈ cw_tb := List.mem_filter.mpr ⟨List.mem_of_getElem? (i := 724) (by decide +kernel), rfl⟩
theorem tw_725 : (.code yX11_together cX11_together 2 (some .int) : Cond) ∈ cw_tb := List.mem_filter.mpr ⟨List.mem_of_getElem? (i := 725) (by decide +kernel), rfl⟩
theorem tw_726 : (.methodLink RX11 239 yX2_gather : Cond) ∈ cw_tb := List.mem_filter.mpr ⟨List.mem_of_getElem? (i := 726) (by decide +kernel), rfl⟩
theorem tw_727 : (.instanceMethod yX2_gather : Cond) ∈ cw_tb := List.mem_filter.mpr ⟨List.mem_of_getElem? (i := 727) (by decide +kernel), rfl⟩
theorem tw_728 : (.selects RX2 yX2_gather yX2_gather : Cond) ∈ cw_tb := List.mem_filter.mpr ⟨List.mem_of_getElem? (i := 728) (by decide +kernel), rfl⟩
theorem tw_729 : (.code yX2_gather cX2_gather 4 none : Cond) ∈ cw_tb := List.mem_filter.mpr ⟨List.mem_of_getElem? (i := 729) (by decide +kernel), rfl⟩
theorem tw_734 : (.methodLink RX11 243 yX11_inWay : Cond) ∈ cw_tb := List.mem_filter.mpr ⟨List.mem_of_getElem? (i := 734) (by decide +kernel), rfl⟩
theorem tw_736 : (.instanceMethod yX11_inWay : Cond) ∈ cw_tb := List.mem_filter.mpr ⟨List.mem_of_getElem? (i := 736) (by decide +kernel), rfl⟩
theorem tw_737 : (.code yX11_inWay cX11_inWay 3 (some (.object "ReasonDesk$Bits")) : Cond) ∈ cw_tb := List.mem_filter.mpr ⟨List.mem_of_getElem? (i := 737) (by decide +kernel), rfl⟩
theorem tw_738 : (.methodLink RX11 247 yX2_reasonsFor : Cond) ∈ cw_tb := List.mem_filter.mpr ⟨List.mem_of_getElem? (i := 738) (by decide +kernel), rfl⟩
theorem tw_739 : (.instanceMethod yX2_reasonsFor : Cond) ∈ cw_tb := List.mem_filter.mpr ⟨List.mem_of_getElem? (i := 739) (by decide +kernel), rfl⟩
theorem tw_740 : (.selects RX2 yX2_reasonsFor yX2_reasonsFor : Cond) ∈ cw_tb := List.mem_filter.mpr ⟨List.mem_of_getElem? (i := 740) (by decide +kernel), rfl⟩
theorem tw_741 : (.code yX2_reasonsFor cX2_reasonsFor 3 (some (.object "ReasonDesk$Bits")) : Cond) ∈ cw_tb := List.mem_filter.mpr ⟨List.mem_of_getElem? (i := 741) (by decide +kernel), rfl⟩
theorem tw_742 : (.methodLink RX2 110 yX1_turn : Cond) ∈ cw_tb := List.mem_filter.mpr ⟨List.mem_of_getElem? (i := 742) (by decide +kernel), rfl⟩
theorem tw_743 : (.methodLink RX2 113 yX1_becomeLows : Cond) ∈ cw_tb := List.mem_filter.mpr ⟨List.mem_of_getElem? (i := 743) (by decide +kernel), rfl⟩
theorem tw_744 : (.instanceMethod yX1_becomeLows : Cond) ∈ cw_tb := List.mem_filter.mpr ⟨List.mem_of_getElem? (i := 744) (by decide +kernel), rfl⟩
theorem tw_745 : (.selects RX1 yX1_becomeLows yX1_becomeLows : Cond) ∈ cw_tb := List.mem_filter.mpr ⟨List.mem_of_getElem? (i := 745) (by decide +kernel), rfl⟩
theorem tw_746 : (.code yX1_becomeLows cX1_becomeLows 5 none : Cond) ∈ cw_tb := List.mem_filter.mpr ⟨List.mem_of_getElem? (i := 746) (by decide +kernel), rfl⟩
theorem tw_747 : (.methodLink RX1 59 yX1_raised : Cond) ∈ cw_tb := List.mem_filter.mpr ⟨List.mem_of_getElem? (i := 747) (by decide +kernel), rfl⟩
theorem tw_749 : (.instanceMethod yX1_raised : Cond) ∈ cw_tb := List.mem_filter.mpr ⟨List.mem_of_getElem? (i := 749) (by decide +kernel), rfl⟩
theorem tw_750 : (.code yX1_raised cX1_raised 4 (some .long) : Cond) ∈ cw_tb := List.mem_filter.mpr ⟨List.mem_of_getElem? (i := 750) (by decide +kernel), rfl⟩
theorem tw_755 : (.methodLink RX11 251 yX1_at : Cond) ∈ cw_tb := List.mem_filter.mpr ⟨List.mem_of_getElem? (i := 755) (by decide +kernel), rfl⟩
theorem tw_756 : (.instanceMethod yX1_at : Cond) ∈ cw_tb := List.mem_filter.mpr ⟨List.mem_of_getElem? (i := 756) (by decide +kernel), rfl⟩
theorem tw_757 : (.selects RX1 yX1_at yX1_at : Cond) ∈ cw_tb := List.mem_filter.mpr ⟨List.mem_of_getElem? (i := 757) (by decide +kernel), rfl⟩
theorem tw_758 : (.code yX1_at cX1_at 7 (some .int) : Cond) ∈ cw_tb := List.mem_filter.mpr ⟨List.mem_of_getElem? (i := 758) (by decide +kernel), rfl⟩
theorem tw_763 : (.methodLink RX11 254 yX2_bestConcord : Cond) ∈ cw_tb := List.mem_filter.mpr ⟨List.mem_of_getElem? (i := 763) (by decide +kernel), rfl⟩
theorem tw_764 : (.instanceMethod yX2_bestConcord : Cond) ∈ cw_tb := List.mem_filter.mpr ⟨List.mem_of_getElem? (i := 764) (by decide +kernel), rfl⟩
theorem tw_765 : (.selects RX2 yX2_bestConcord yX2_bestConcord : Cond) ∈ cw_tb := List.mem_filter.mpr ⟨List.mem_of_getElem? (i := 765) (by decide +kernel), rfl⟩
theorem tw_766 : (.code yX2_bestConcord cX2_bestConcord 5 (some (.object "ReasonDesk$Bits")) : Cond) ∈ cw_tb := List.mem_filter.mpr ⟨List.mem_of_getElem? (i := 766) (by decide +kernel), rfl⟩
theorem tw_767 : (.methodLink RX2 143 yX2_bestWeight : Cond) ∈ cw_tb := List.mem_filter.mpr ⟨List.mem_of_getElem? (i := 767) (by decide +kernel), rfl⟩
theorem tw_768 : (.instanceMethod yX2_bestWeight : Cond) ∈ cw_tb := List.mem_filter.mpr ⟨List.mem_of_getElem? (i := 768) (by decide +kernel), rfl⟩
theorem tw_769 : (.selects RX2 yX2_bestWeight yX2_bestWeight : Cond) ∈ cw_tb := List.mem_filter.mpr ⟨List.mem_of_getElem? (i := 769) (by decide +kernel), rfl⟩
theorem tw_770 : (.code yX2_bestWeight cX2_bestWeight 5 (some .int) : Cond) ∈ cw_tb := List.mem_filter.mpr ⟨List.mem_of_getElem? (i := 770) (by decide +kernel), rfl⟩
theorem tw_771 : (.methodLink RX2 134 yX2_weigh : Cond) ∈ cw_tb := List.mem_filter.mpr ⟨List.mem_of_getElem? (i := 771) (by decide +kernel), rfl⟩
theorem tw_772 : (.methodLink RX2 137 yJ9_max_7cf53 : Cond) ∈ cw_tb := List.mem_filter.mpr ⟨List.mem_of_getElem? (i := 772) (by decide +kernel), rfl⟩
theorem tw_773 : (.methodLink RX11 257 yX2_bestWeight : Cond) ∈ cw_tb := List.mem_filter.mpr ⟨List.mem_of_getElem? (i := 773) (by decide +kernel), rfl⟩
theorem tw_782 : (.methodLink RX11 260 yX2_upholds : Cond) ∈ cw_tb := List.mem_filter.mpr ⟨List.mem_of_getElem? (i := 782) (by decide +kernel), rfl⟩
theorem tw_783 : (.instanceMethod yX2_upholds : Cond) ∈ cw_tb := List.mem_filter.mpr ⟨List.mem_of_getElem? (i := 783) (by decide +kernel), rfl⟩
theorem tw_784 : (.selects RX2 yX2_upholds yX2_upholds : Cond) ∈ cw_tb := List.mem_filter.mpr ⟨List.mem_of_getElem? (i := 784) (by decide +kernel), rfl⟩
theorem tw_785 : (.code yX2_upholds cX2_upholds 4 (some .boolean) : Cond) ∈ cw_tb := List.mem_filter.mpr ⟨List.mem_of_getElem? (i := 785) (by decide +kernel), rfl⟩
theorem tw_786 : (.methodLink RX2 146 yX2_follows : Cond) ∈ cw_tb := List.mem_filter.mpr ⟨List.mem_of_getElem? (i := 786) (by decide +kernel), rfl⟩
theorem tw_787 : (.instanceMethod yX2_follows : Cond) ∈ cw_tb := List.mem_filter.mpr ⟨List.mem_of_getElem? (i := 787) (by decide +kernel), rfl⟩
theorem tw_788 : (.selects RX2 yX2_follows yX2_follows : Cond) ∈ cw_tb := List.mem_filter.mpr ⟨List.mem_of_getElem? (i := 788) (by decide +kernel), rfl⟩
theorem tw_789 : (.code yX2_follows cX2_follows 4 (some .boolean) : Cond) ∈ cw_tb := List.mem_filter.mpr ⟨List.mem_of_getElem? (i := 789) (by decide +kernel), rfl⟩
theorem tw_790 : (.methodLink RX2 150 yX2_free : Cond) ∈ cw_tb := List.mem_filter.mpr ⟨List.mem_of_getElem? (i := 790) (by decide +kernel), rfl⟩
theorem tw_791 : (.methodLink RX2 153 yX2_bestConcord : Cond) ∈ cw_tb := List.mem_filter.mpr ⟨List.mem_of_getElem? (i := 791) (by decide +kernel), rfl⟩
theorem tw_792 : (.methodLink RX2 156 yX1_within : Cond) ∈ cw_tb := List.mem_filter.mpr ⟨List.mem_of_getElem? (i := 792) (by decide +kernel), rfl⟩
theorem tw_793 : (.methodLink RX2 160 yX1_apart : Cond) ∈ cw_tb := List.mem_filter.mpr ⟨List.mem_of_getElem? (i := 793) (by decide +kernel), rfl⟩
theorem tw_798 : (.methodLink RX11 264 yX2_cutsFor : Cond) ∈ cw_tb := List.mem_filter.mpr ⟨List.mem_of_getElem? (i := 798) (by decide +kernel), rfl⟩
theorem tw_799 : (.instanceMethod yX2_cutsFor : Cond) ∈ cw_tb := List.mem_filter.mpr ⟨List.mem_of_getElem? (i := 799) (by decide +kernel), rfl⟩
theorem tw_800 : (.selects RX2 yX2_cutsFor yX2_cutsFor : Cond) ∈ cw_tb := List.mem_filter.mpr ⟨List.mem_of_getElem? (i := 800) (by decide +kernel), rfl⟩
theorem tw_801 : (.code yX2_cutsFor cX2_cutsFor 3 (some (.object "ReasonDesk$Bits")) : Cond) ∈ cw_tb := List.mem_filter.mpr ⟨List.mem_of_getElem? (i := 801) (by decide +kernel), rfl⟩
theorem tw_802 : (.methodLink RX2 117 yX1_closeUp : Cond) ∈ cw_tb := List.mem_filter.mpr ⟨List.mem_of_getElem? (i := 802) (by decide +kernel), rfl⟩
theorem tw_803 : (.instanceMethod yX1_closeUp : Cond) ∈ cw_tb := List.mem_filter.mpr ⟨List.mem_of_getElem? (i := 803) (by decide +kernel), rfl⟩
theorem tw_804 : (.selects RX1 yX1_closeUp yX1_closeUp : Cond) ∈ cw_tb := List.mem_filter.mpr ⟨List.mem_of_getElem? (i := 804) (by decide +kernel), rfl⟩
theorem tw_805 : (.code yX1_closeUp cX1_closeUp 4 none : Cond) ∈ cw_tb := List.mem_filter.mpr ⟨List.mem_of_getElem? (i := 805) (by decide +kernel), rfl⟩
theorem tw_811 : (.instanceMethod yX11_least : Cond) ∈ cw_tb := List.mem_filter.mpr ⟨List.mem_of_getElem? (i := 811) (by decide +kernel), rfl⟩
theorem tw_812 : (.selects RX11 yX11_least yX11_least : Cond) ∈ cw_tb := List.mem_filter.mpr ⟨List.mem_of_getElem? (i := 812) (by decide +kernel), rfl⟩
theorem tw_813 : (.code yX11_least cX11_least 3 (some .int) : Cond) ∈ cw_tb := List.mem_filter.mpr ⟨List.mem_of_getElem? (i := 813) (by decide +kernel), rfl⟩
theorem tw_814 : (.methodLink RX11 267 yX1_isAll : Cond) ∈ cw_tb := List.mem_filter.mpr ⟨List.mem_of_getElem? (i := 814) (by decide +kernel), rfl⟩
theorem tw_815 : (.instanceMethod yX1_isAll : Cond) ∈ cw_tb := List.mem_filter.mpr ⟨List.mem_of_getElem? (i := 815) (by decide +kernel), rfl⟩
theorem tw_816 : (.selects RX1 yX1_isAll yX1_isAll : Cond) ∈ cw_tb := List.mem_filter.mpr ⟨List.mem_of_getElem? (i := 816) (by decide +kernel), rfl⟩
theorem tw_817 : (.code yX1_isAll cX1_isAll 2 (some .boolean) : Cond) ∈ cw_tb := List.mem_filter.mpr ⟨List.mem_of_getElem? (i := 817) (by decide +kernel), rfl⟩
theorem tw_818 : (.methodLink RX11 270 yX2_leastCut : Cond) ∈ cw_tb := List.mem_filter.mpr ⟨List.mem_of_getElem? (i := 818) (by decide +kernel), rfl⟩
theorem tw_819 : (.instanceMethod yX2_leastCut : Cond) ∈ cw_tb := List.mem_filter.mpr ⟨List.mem_of_getElem? (i := 819) (by decide +kernel), rfl⟩
theorem tw_820 : (.selects RX2 yX2_leastCut yX2_leastCut : Cond) ∈ cw_tb := List.mem_filter.mpr ⟨List.mem_of_getElem? (i := 820) (by decide +kernel), rfl⟩
theorem tw_821 : (.code yX2_leastCut cX2_leastCut 8 (some .int) : Cond) ∈ cw_tb := List.mem_filter.mpr ⟨List.mem_of_getElem? (i := 821) (by decide +kernel), rfl⟩
theorem tw_822 : (.methodLink RX2 163 yX2_cutsFor : Cond) ∈ cw_tb := List.mem_filter.mpr ⟨List.mem_of_getElem? (i := 822) (by decide +kernel), rfl⟩
theorem tw_823 : (.constant RX2 169 (2147483647) : Cond) ∈ cw_tb := List.mem_filter.mpr ⟨List.mem_of_getElem? (i := 823) (by decide +kernel), rfl⟩
theorem tw_824 : (.methodLink RX2 170 yJ6_bitCount_0f7a4 : Cond) ∈ cw_tb := List.mem_filter.mpr ⟨List.mem_of_getElem? (i := 824) (by decide +kernel), rfl⟩
theorem tw_829 : (.methodLink RX11 274 yX11_least : Cond) ∈ cw_tb := List.mem_filter.mpr ⟨List.mem_of_getElem? (i := 829) (by decide +kernel), rfl⟩
theorem tw_830 : (.methodLink RX11 277 yX2_abandon : Cond) ∈ cw_tb := List.mem_filter.mpr ⟨List.mem_of_getElem? (i := 830) (by decide +kernel), rfl⟩
theorem tw_831 : (.instanceMethod yX2_abandon : Cond) ∈ cw_tb := List.mem_filter.mpr ⟨List.mem_of_getElem? (i := 831) (by decide +kernel), rfl⟩
theorem tw_832 : (.selects RX2 yX2_abandon yX2_abandon : Cond) ∈ cw_tb := List.mem_filter.mpr ⟨List.mem_of_getElem? (i := 832) (by decide +kernel), rfl⟩
theorem tw_833 : (.code yX2_abandon cX2_abandon 4 none : Cond) ∈ cw_tb := List.mem_filter.mpr ⟨List.mem_of_getElem? (i := 833) (by decide +kernel), rfl⟩
theorem tw_838 : (.methodLink RX11 280 yX1_isEmpty : Cond) ∈ cw_tb := List.mem_filter.mpr ⟨List.mem_of_getElem? (i := 838) (by decide +kernel), rfl⟩
theorem tw_839 : (.instanceMethod yX1_isEmpty : Cond) ∈ cw_tb := List.mem_filter.mpr ⟨List.mem_of_getElem? (i := 839) (by decide +kernel), rfl⟩
theorem tw_840 : (.selects RX1 yX1_isEmpty yX1_isEmpty : Cond) ∈ cw_tb := List.mem_filter.mpr ⟨List.mem_of_getElem? (i := 840) (by decide +kernel), rfl⟩
theorem tw_841 : (.code yX1_isEmpty cX1_isEmpty 2 (some .boolean) : Cond) ∈ cw_tb := List.mem_filter.mpr ⟨List.mem_of_getElem? (i := 841) (by decide +kernel), rfl⟩
theorem tw_846 : (.methodLink RX11 283 yX2_keeps : Cond) ∈ cw_tb := List.mem_filter.mpr ⟨List.mem_of_getElem? (i := 846) (by decide +kernel), rfl⟩
theorem tw_847 : (.instanceMethod yX2_keeps : Cond) ∈ cw_tb := List.mem_filter.mpr ⟨List.mem_of_getElem? (i := 847) (by decide +kernel), rfl⟩
theorem tw_848 : (.selects RX2 yX2_keeps yX2_keeps : Cond) ∈ cw_tb := List.mem_filter.mpr ⟨List.mem_of_getElem? (i := 848) (by decide +kernel), rfl⟩
theorem tw_849 : (.code yX2_keeps cX2_keeps 5 (some .boolean) : Cond) ∈ cw_tb := List.mem_filter.mpr ⟨List.mem_of_getElem? (i := 849) (by decide +kernel), rfl⟩
theorem tw_850 : (.methodLink RX2 173 yX2_leastCut : Cond) ∈ cw_tb := List.mem_filter.mpr ⟨List.mem_of_getElem? (i := 850) (by decide +kernel), rfl⟩
theorem tw_851 : (.methodLink RX2 177 yX2_ofReasons : Cond) ∈ cw_tb := List.mem_filter.mpr ⟨List.mem_of_getElem? (i := 851) (by decide +kernel), rfl⟩
theorem tw_853 : (.instanceMethod yX2_ofReasons : Cond) ∈ cw_tb := List.mem_filter.mpr ⟨List.mem_of_getElem? (i := 853) (by decide +kernel), rfl⟩
theorem tw_854 : (.code yX2_ofReasons cX2_ofReasons 6 (some .int) : Cond) ∈ cw_tb := List.mem_filter.mpr ⟨List.mem_of_getElem? (i := 854) (by decide +kernel), rfl⟩
theorem tw_855 : (.methodLink RX2 184 yX2_reasonsFor : Cond) ∈ cw_tb := List.mem_filter.mpr ⟨List.mem_of_getElem? (i := 855) (by decide +kernel), rfl⟩
theorem tw_856 : (.methodLink RX2 180 yX2_recovers : Cond) ∈ cw_tb := List.mem_filter.mpr ⟨List.mem_of_getElem? (i := 856) (by decide +kernel), rfl⟩
theorem tw_858 : (.instanceMethod yX2_recovers : Cond) ∈ cw_tb := List.mem_filter.mpr ⟨List.mem_of_getElem? (i := 858) (by decide +kernel), rfl⟩
theorem tw_859 : (.code yX2_recovers cX2_recovers 6 (some .boolean) : Cond) ∈ cw_tb := List.mem_filter.mpr ⟨List.mem_of_getElem? (i := 859) (by decide +kernel), rfl⟩
theorem tw_864 : (.methodLink RX11 286 yX9_isFull : Cond) ∈ cw_tb := List.mem_filter.mpr ⟨List.mem_of_getElem? (i := 864) (by decide +kernel), rfl⟩
theorem tw_865 : (.instanceMethod yX9_isFull : Cond) ∈ cw_tb := List.mem_filter.mpr ⟨List.mem_of_getElem? (i := 865) (by decide +kernel), rfl⟩
theorem tw_866 : (.selects RX9 yX9_isFull yX9_isFull : Cond) ∈ cw_tb := List.mem_filter.mpr ⟨List.mem_of_getElem? (i := 866) (by decide +kernel), rfl⟩
theorem tw_867 : (.code yX9_isFull cX9_isFull 1 (some .boolean) : Cond) ∈ cw_tb := List.mem_filter.mpr ⟨List.mem_of_getElem? (i := 867) (by decide +kernel), rfl⟩
theorem tw_868 : (.classLink RX11 288 "ReasonDesk$Rule" : Cond) ∈ cw_tb := List.mem_filter.mpr ⟨List.mem_of_getElem? (i := 868) (by decide +kernel), rfl⟩
theorem tw_869 : (.instantiable RX8 5 : Cond) ∈ cw_tb := List.mem_filter.mpr ⟨List.mem_of_getElem? (i := 869) (by decide +kernel), rfl⟩
theorem tw_870 : (.methodLink RX11 290 yX8_init : Cond) ∈ cw_tb := List.mem_filter.mpr ⟨List.mem_of_getElem? (i := 870) (by decide +kernel), rfl⟩
theorem tw_871 : (.instanceMethod yX8_init : Cond) ∈ cw_tb := List.mem_filter.mpr ⟨List.mem_of_getElem? (i := 871) (by decide +kernel), rfl⟩
theorem tw_872 : (.code yX8_init cX8_init 6 none : Cond) ∈ cw_tb := List.mem_filter.mpr ⟨List.mem_of_getElem? (i := 872) (by decide +kernel), rfl⟩
theorem tw_873 : (.methodLink RX8 1 yX10_init : Cond) ∈ cw_tb := List.mem_filter.mpr ⟨List.mem_of_getElem? (i := 873) (by decide +kernel), rfl⟩
theorem tw_874 : (.fieldLink RX8 7 "ReasonDesk$Rule" "when" "I" : Cond) ∈ cw_tb := List.mem_filter.mpr ⟨List.mem_of_getElem? (i := 874) (by decide +kernel), rfl⟩
theorem tw_875 : (.fieldLink RX11 310 "ReasonDesk$Rule" "when" "I" : Cond) ∈ cw_tb := List.mem_filter.mpr ⟨List.mem_of_getElem? (i := 875) (by decide +kernel), rfl⟩
theorem tw_876 : (.fieldLink RX8 13 "ReasonDesk$Rule" "then" "I" : Cond) ∈ cw_tb := List.mem_filter.mpr ⟨List.mem_of_getElem? (i := 876) (by decide +kernel), rfl⟩
theorem tw_877 : (.fieldLink RX11 313 "ReasonDesk$Rule" "then" "I" : Cond) ∈ cw_tb := List.mem_filter.mpr ⟨List.mem_of_getElem? (i := 877) (by decide +kernel), rfl⟩
theorem tw_878 : (.fieldLink RX8 16 "ReasonDesk$Rule" "unless" "I" : Cond) ∈ cw_tb := List.mem_filter.mpr ⟨List.mem_of_getElem? (i := 878) (by decide +kernel), rfl⟩
theorem tw_879 : (.fieldLink RX0 17 "ReasonDesk$Barred" "unless" "I" : Cond) ∈ cw_tb := List.mem_filter.mpr ⟨List.mem_of_getElem? (i := 879) (by decide +kernel), rfl⟩
theorem tw_880 : (.sameField "ReasonDesk$Barred" "ReasonDesk$Rule" "unless" "I" : Cond) ∈ cw_tb := List.mem_filter.mpr ⟨List.mem_of_getElem? (i := 880) (by decide +kernel), rfl⟩
theorem tw_881 : (.fieldLink RX11 316 "ReasonDesk$Rule" "unless" "I" : Cond) ∈ cw_tb := List.mem_filter.mpr ⟨List.mem_of_getElem? (i := 881) (by decide +kernel), rfl⟩
theorem tw_882 : (.fieldLink RX8 19 "ReasonDesk$Rule" "rank" "I" : Cond) ∈ cw_tb := List.mem_filter.mpr ⟨List.mem_of_getElem? (i := 882) (by decide +kernel), rfl⟩
theorem tw_883 : (.fieldLink RX9 123 "ReasonDesk$Rule" "rank" "I" : Cond) ∈ cw_tb := List.mem_filter.mpr ⟨List.mem_of_getElem? (i := 883) (by decide +kernel), rfl⟩
theorem tw_884 : (.fieldLink RX11 319 "ReasonDesk$Rule" "rank" "I" : Cond) ∈ cw_tb := List.mem_filter.mpr ⟨List.mem_of_getElem? (i := 884) (by decide +kernel), rfl⟩
theorem tw_895 : (.classLink RX11 293 "ReasonDesk$Barred" : Cond) ∈ cw_tb := List.mem_filter.mpr ⟨List.mem_of_getElem? (i := 895) (by decide +kernel), rfl⟩
theorem tw_896 : (.instantiable RX0 5 : Cond) ∈ cw_tb := List.mem_filter.mpr ⟨List.mem_of_getElem? (i := 896) (by decide +kernel), rfl⟩
theorem tw_897 : (.methodLink RX11 295 yX0_init : Cond) ∈ cw_tb := List.mem_filter.mpr ⟨List.mem_of_getElem? (i := 897) (by decide +kernel), rfl⟩
theorem tw_898 : (.instanceMethod yX0_init : Cond) ∈ cw_tb := List.mem_filter.mpr ⟨List.mem_of_getElem? (i := 898) (by decide +kernel), rfl⟩
theorem tw_899 : (.code yX0_init cX0_init 6 none : Cond) ∈ cw_tb := List.mem_filter.mpr ⟨List.mem_of_getElem? (i := 899) (by decide +kernel), rfl⟩
theorem tw_900 : (.methodLink RX0 1 yX8_init : Cond) ∈ cw_tb := List.mem_filter.mpr ⟨List.mem_of_getElem? (i := 900) (by decide +kernel), rfl⟩
theorem tw_906 : (.superclass RX0 "ReasonDesk$Rule" : Cond) ∈ cw_tb := List.mem_filter.mpr ⟨List.mem_of_getElem? (i := 906) (by decide +kernel), rfl⟩
theorem tw_907 : (.classLink RX11 296 "ReasonDesk$Loose" : Cond) ∈ cw_tb := List.mem_filter.mpr ⟨List.mem_of_getElem? (i := 907) (by decide +kernel), rfl⟩
theorem tw_908 : (.instantiable RX5 5 : Cond) ∈ cw_tb := List.mem_filter.mpr ⟨List.mem_of_getElem? (i := 908) (by decide +kernel), rfl⟩
theorem tw_909 : (.methodLink RX11 298 yX5_init : Cond) ∈ cw_tb := List.mem_filter.mpr ⟨List.mem_of_getElem? (i := 909) (by decide +kernel), rfl⟩
theorem tw_910 : (.instanceMethod yX5_init : Cond) ∈ cw_tb := List.mem_filter.mpr ⟨List.mem_of_getElem? (i := 910) (by decide +kernel), rfl⟩
theorem tw_911 : (.code yX5_init cX5_init 6 none : Cond) ∈ cw_tb := List.mem_filter.mpr ⟨List.mem_of_getElem? (i := 911) (by decide +kernel), rfl⟩
theorem tw_912 : (.methodLink RX5 1 yX0_init : Cond) ∈ cw_tb := List.mem_filter.mpr ⟨List.mem_of_getElem? (i := 912) (by decide +kernel), rfl⟩
theorem tw_918 : (.superclass RX5 "ReasonDesk$Barred" : Cond) ∈ cw_tb := List.mem_filter.mpr ⟨List.mem_of_getElem? (i := 918) (by decide +kernel), rfl⟩
theorem tw_919 : (.methodLink RX11 299 yX9_keep : Cond) ∈ cw_tb := List.mem_filter.mpr ⟨List.mem_of_getElem? (i := 919) (by decide +kernel), rfl⟩
theorem tw_920 : (.instanceMethod yX9_keep : Cond) ∈ cw_tb := List.mem_filter.mpr ⟨List.mem_of_getElem? (i := 920) (by decide +kernel), rfl⟩
theorem tw_921 : (.selects RX9 yX9_keep yX9_keep : Cond) ∈ cw_tb := List.mem_filter.mpr ⟨List.mem_of_getElem? (i := 921) (by decide +kernel), rfl⟩
theorem tw_922 : (.code yX9_keep cX9_keep 5 (some .int) : Cond) ∈ cw_tb := List.mem_filter.mpr ⟨List.mem_of_getElem? (i := 922) (by decide +kernel), rfl⟩
theorem tw_923 : (.methodLink RX9 62 yX1_become : Cond) ∈ cw_tb := List.mem_filter.mpr ⟨List.mem_of_getElem? (i := 923) (by decide +kernel), rfl⟩
theorem tw_928 : (.methodLink RX11 302 yX9_ruleAt : Cond) ∈ cw_tb := List.mem_filter.mpr ⟨List.mem_of_getElem? (i := 928) (by decide +kernel), rfl⟩
theorem tw_929 : (.instanceMethod yX9_ruleAt : Cond) ∈ cw_tb := List.mem_filter.mpr ⟨List.mem_of_getElem? (i := 929) (by decide +kernel), rfl⟩
theorem tw_930 : (.selects RX9 yX9_ruleAt yX9_ruleAt : Cond) ∈ cw_tb := List.mem_filter.mpr ⟨List.mem_of_getElem? (i := 930) (by decide +kernel), rfl⟩
theorem tw_931 : (.code yX9_ruleAt cX9_ruleAt 2 (some (.object "ReasonDesk$Rule")) : Cond) ∈ cw_tb := List.mem_filter.mpr ⟨List.mem_of_getElem? (i := 931) (by decide +kernel), rfl⟩
theorem tw_932 : (.methodLink RX11 306 yX9_settle : Cond) ∈ cw_tb := List.mem_filter.mpr ⟨List.mem_of_getElem? (i := 932) (by decide +kernel), rfl⟩
theorem tw_933 : (.instanceMethod yX9_settle : Cond) ∈ cw_tb := List.mem_filter.mpr ⟨List.mem_of_getElem? (i := 933) (by decide +kernel), rfl⟩
theorem tw_934 : (.selects RX9 yX9_settle yX9_settle : Cond) ∈ cw_tb := List.mem_filter.mpr ⟨List.mem_of_getElem? (i := 934) (by decide +kernel), rfl⟩
theorem tw_935 : (.code yX9_settle cX9_settle 3 none : Cond) ∈ cw_tb := List.mem_filter.mpr ⟨List.mem_of_getElem? (i := 935) (by decide +kernel), rfl⟩
theorem tw_936 : (.methodLink RX9 69 yX2_inView : Cond) ∈ cw_tb := List.mem_filter.mpr ⟨List.mem_of_getElem? (i := 936) (by decide +kernel), rfl⟩
theorem tw_937 : (.methodLink RX9 75 yX2_gather : Cond) ∈ cw_tb := List.mem_filter.mpr ⟨List.mem_of_getElem? (i := 937) (by decide +kernel), rfl⟩
theorem tw_938 : (.methodLink RX11 322 yX9_goesOfBase : Cond) ∈ cw_tb := List.mem_filter.mpr ⟨List.mem_of_getElem? (i := 938) (by decide +kernel), rfl⟩
theorem tw_939 : (.instanceMethod yX9_goesOfBase : Cond) ∈ cw_tb := List.mem_filter.mpr ⟨List.mem_of_getElem? (i := 939) (by decide +kernel), rfl⟩
theorem tw_940 : (.selects RX9 yX9_goesOfBase yX9_goesOfBase : Cond) ∈ cw_tb := List.mem_filter.mpr ⟨List.mem_of_getElem? (i := 940) (by decide +kernel), rfl⟩
theorem tw_941 : (.code yX9_goesOfBase cX9_goesOfBase 2 (some .boolean) : Cond) ∈ cw_tb := List.mem_filter.mpr ⟨List.mem_of_getElem? (i := 941) (by decide +kernel), rfl⟩
theorem tw_942 : (.methodLink RX9 89 yX9_goes : Cond) ∈ cw_tb := List.mem_filter.mpr ⟨List.mem_of_getElem? (i := 942) (by decide +kernel), rfl⟩
theorem tw_944 : (.instanceMethod yX9_goes : Cond) ∈ cw_tb := List.mem_filter.mpr ⟨List.mem_of_getElem? (i := 944) (by decide +kernel), rfl⟩
theorem tw_945 : (.code yX9_goes cX9_goes 3 (some .boolean) : Cond) ∈ cw_tb := List.mem_filter.mpr ⟨List.mem_of_getElem? (i := 945) (by decide +kernel), rfl⟩
theorem tw_946 : (.methodLink RX9 82 yX1_within : Cond) ∈ cw_tb := List.mem_filter.mpr ⟨List.mem_of_getElem? (i := 946) (by decide +kernel), rfl⟩
theorem tw_947 : (.methodLink RX9 85 yX1_meetsBut : Cond) ∈ cw_tb := List.mem_filter.mpr ⟨List.mem_of_getElem? (i := 947) (by decide +kernel), rfl⟩
theorem tw_948 : (.instanceMethod yX1_meetsBut : Cond) ∈ cw_tb := List.mem_filter.mpr ⟨List.mem_of_getElem? (i := 948) (by decide +kernel), rfl⟩
theorem tw_949 : (.selects RX1 yX1_meetsBut yX1_meetsBut : Cond) ∈ cw_tb := List.mem_filter.mpr ⟨List.mem_of_getElem? (i := 949) (by decide +kernel), rfl⟩
theorem tw_950 : (.code yX1_meetsBut cX1_meetsBut 4 (some .boolean) : Cond) ∈ cw_tb := List.mem_filter.mpr ⟨List.mem_of_getElem? (i := 950) (by decide +kernel), rfl⟩
theorem tw_951 : (.methodLink RX11 325 yX9_found : Cond) ∈ cw_tb := List.mem_filter.mpr ⟨List.mem_of_getElem? (i := 951) (by decide +kernel), rfl⟩
theorem tw_952 : (.instanceMethod yX9_found : Cond) ∈ cw_tb := List.mem_filter.mpr ⟨List.mem_of_getElem? (i := 952) (by decide +kernel), rfl⟩
theorem tw_953 : (.selects RX9 yX9_found yX9_found : Cond) ∈ cw_tb := List.mem_filter.mpr ⟨List.mem_of_getElem? (i := 953) (by decide +kernel), rfl⟩
theorem tw_954 : (.code yX9_found cX9_found 4 (some (.object "ReasonDesk$Bits")) : Cond) ∈ cw_tb := List.mem_filter.mpr ⟨List.mem_of_getElem? (i := 954) (by decide +kernel), rfl⟩
theorem tw_955 : (.methodLink RX9 93 yX1_clear : Cond) ∈ cw_tb := List.mem_filter.mpr ⟨List.mem_of_getElem? (i := 955) (by decide +kernel), rfl⟩
theorem tw_956 : (.methodLink RX9 96 yX9_able : Cond) ∈ cw_tb := List.mem_filter.mpr ⟨List.mem_of_getElem? (i := 956) (by decide +kernel), rfl⟩
theorem tw_958 : (.instanceMethod yX9_able : Cond) ∈ cw_tb := List.mem_filter.mpr ⟨List.mem_of_getElem? (i := 958) (by decide +kernel), rfl⟩
theorem tw_959 : (.code yX9_able cX9_able 3 (some .int) : Cond) ∈ cw_tb := List.mem_filter.mpr ⟨List.mem_of_getElem? (i := 959) (by decide +kernel), rfl⟩
theorem tw_960 : (.methodLink RX9 112 yX9_inRow : Cond) ∈ cw_tb := List.mem_filter.mpr ⟨List.mem_of_getElem? (i := 960) (by decide +kernel), rfl⟩
theorem tw_962 : (.instanceMethod yX9_inRow : Cond) ∈ cw_tb := List.mem_filter.mpr ⟨List.mem_of_getElem? (i := 962) (by decide +kernel), rfl⟩
theorem tw_963 : (.code yX9_inRow cX9_inRow 5 (some .int) : Cond) ∈ cw_tb := List.mem_filter.mpr ⟨List.mem_of_getElem? (i := 963) (by decide +kernel), rfl⟩
theorem tw_964 : (.methodLink RX9 79 yX1_meet : Cond) ∈ cw_tb := List.mem_filter.mpr ⟨List.mem_of_getElem? (i := 964) (by decide +kernel), rfl⟩
theorem tw_965 : (.methodLink RX9 99 yJ6_bitCount_0f7a4 : Cond) ∈ cw_tb := List.mem_filter.mpr ⟨List.mem_of_getElem? (i := 965) (by decide +kernel), rfl⟩
theorem tw_966 : (.methodLink RX9 105 yX9_isExtension : Cond) ∈ cw_tb := List.mem_filter.mpr ⟨List.mem_of_getElem? (i := 966) (by decide +kernel), rfl⟩
theorem tw_968 : (.instanceMethod yX9_isExtension : Cond) ∈ cw_tb := List.mem_filter.mpr ⟨List.mem_of_getElem? (i := 968) (by decide +kernel), rfl⟩
theorem tw_969 : (.code yX9_isExtension cX9_isExtension 4 (some .boolean) : Cond) ∈ cw_tb := List.mem_filter.mpr ⟨List.mem_of_getElem? (i := 969) (by decide +kernel), rfl⟩
theorem tw_970 : (.methodLink RX9 115 yX9_worldsOf : Cond) ∈ cw_tb := List.mem_filter.mpr ⟨List.mem_of_getElem? (i := 970) (by decide +kernel), rfl⟩
theorem tw_971 : (.instanceMethod yX9_worldsOf : Cond) ∈ cw_tb := List.mem_filter.mpr ⟨List.mem_of_getElem? (i := 971) (by decide +kernel), rfl⟩
theorem tw_972 : (.selects RX9 yX9_worldsOf yX9_worldsOf : Cond) ∈ cw_tb := List.mem_filter.mpr ⟨List.mem_of_getElem? (i := 972) (by decide +kernel), rfl⟩
theorem tw_973 : (.code yX9_worldsOf cX9_worldsOf 3 (some (.object "ReasonDesk$Bits")) : Cond) ∈ cw_tb := List.mem_filter.mpr ⟨List.mem_of_getElem? (i := 973) (by decide +kernel), rfl⟩
theorem tw_974 : (.methodLink RX9 109 yX1_add : Cond) ∈ cw_tb := List.mem_filter.mpr ⟨List.mem_of_getElem? (i := 974) (by decide +kernel), rfl⟩
theorem tw_975 : (.methodLink RX11 328 yX9_circle : Cond) ∈ cw_tb := List.mem_filter.mpr ⟨List.mem_of_getElem? (i := 975) (by decide +kernel), rfl⟩
theorem tw_976 : (.instanceMethod yX9_circle : Cond) ∈ cw_tb := List.mem_filter.mpr ⟨List.mem_of_getElem? (i := 976) (by decide +kernel), rfl⟩
theorem tw_977 : (.selects RX9 yX9_circle yX9_circle : Cond) ∈ cw_tb := List.mem_filter.mpr ⟨List.mem_of_getElem? (i := 977) (by decide +kernel), rfl⟩
theorem tw_978 : (.code yX9_circle cX9_circle 6 (some .int) : Cond) ∈ cw_tb := List.mem_filter.mpr ⟨List.mem_of_getElem? (i := 978) (by decide +kernel), rfl⟩
theorem tw_979 : (.methodLink RX9 150 yX9_barredBy : Cond) ∈ cw_tb := List.mem_filter.mpr ⟨List.mem_of_getElem? (i := 979) (by decide +kernel), rfl⟩
theorem tw_980 : (.instanceMethod yX9_barredBy : Cond) ∈ cw_tb := List.mem_filter.mpr ⟨List.mem_of_getElem? (i := 980) (by decide +kernel), rfl⟩
theorem tw_981 : (.selects RX9 yX9_barredBy yX9_barredBy : Cond) ∈ cw_tb := List.mem_filter.mpr ⟨List.mem_of_getElem? (i := 981) (by decide +kernel), rfl⟩
theorem tw_982 : (.code yX9_barredBy cX9_barredBy 5 (some .int) : Cond) ∈ cw_tb := List.mem_filter.mpr ⟨List.mem_of_getElem? (i := 982) (by decide +kernel), rfl⟩
theorem tw_983 : (.methodLink RX9 146 yX1_isEmpty : Cond) ∈ cw_tb := List.mem_filter.mpr ⟨List.mem_of_getElem? (i := 983) (by decide +kernel), rfl⟩
theorem tw_984 : (.methodLink RX11 331 yX9_barredBy : Cond) ∈ cw_tb := List.mem_filter.mpr ⟨List.mem_of_getElem? (i := 984) (by decide +kernel), rfl⟩
theorem tw_989 : (.methodLink RX11 334 yX9_bestFound : Cond) ∈ cw_tb := List.mem_filter.mpr ⟨List.mem_of_getElem? (i := 989) (by decide +kernel), rfl⟩
theorem tw_990 : (.instanceMethod yX9_bestFound : Cond) ∈ cw_tb := List.mem_filter.mpr ⟨List.mem_of_getElem? (i := 990) (by decide +kernel), rfl⟩
theorem tw_991 : (.selects RX9 yX9_bestFound yX9_bestFound : Cond) ∈ cw_tb := List.mem_filter.mpr ⟨List.mem_of_getElem? (i := 991) (by decide +kernel), rfl⟩
theorem tw_992 : (.code yX9_bestFound cX9_bestFound 8 (some (.object "ReasonDesk$Bits")) : Cond) ∈ cw_tb := List.mem_filter.mpr ⟨List.mem_of_getElem? (i := 992) (by decide +kernel), rfl⟩
theorem tw_993 : (.methodLink RX9 126 yX9_found : Cond) ∈ cw_tb := List.mem_filter.mpr ⟨List.mem_of_getElem? (i := 993) (by decide +kernel), rfl⟩
theorem tw_994 : (.methodLink RX9 130 yX1_size : Cond) ∈ cw_tb := List.mem_filter.mpr ⟨List.mem_of_getElem? (i := 994) (by decide +kernel), rfl⟩
theorem tw_995 : (.methodLink RX9 133 yX1_after : Cond) ∈ cw_tb := List.mem_filter.mpr ⟨List.mem_of_getElem? (i := 995) (by decide +kernel), rfl⟩
theorem tw_996 : (.methodLink RX9 136 yX9_worth : Cond) ∈ cw_tb := List.mem_filter.mpr ⟨List.mem_of_getElem? (i := 996) (by decide +kernel), rfl⟩
theorem tw_998 : (.instanceMethod yX9_worth : Cond) ∈ cw_tb := List.mem_filter.mpr ⟨List.mem_of_getElem? (i := 998) (by decide +kernel), rfl⟩
theorem tw_999 : (.code yX9_worth cX9_worth 6 (some .long) : Cond) ∈ cw_tb := List.mem_filter.mpr ⟨List.mem_of_getElem? (i := 999) (by decide +kernel), rfl⟩
theorem tw_1000 : (.methodLink RX9 119 yX9_ruleAt : Cond) ∈ cw_tb := List.mem_filter.mpr ⟨List.mem_of_getElem? (i := 1000) (by decide +kernel), rfl⟩
theorem tw_1001 : (.methodLink RX9 140 yJ9_max_f86c9 : Cond) ∈ cw_tb := List.mem_filter.mpr ⟨List.mem_of_getElem? (i := 1001) (by decide +kernel), rfl⟩
theorem tw_1002 : (.static yJ9_max_f86c9 : Cond) ∈ cw_tb := List.mem_filter.mpr ⟨List.mem_of_getElem? (i := 1002) (by decide +kernel), rfl⟩
theorem tw_1003 : (.code yJ9_max_f86c9 cJ9_max_f86c9 4 (some .long) : Cond) ∈ cw_tb := List.mem_filter.mpr ⟨List.mem_of_getElem? (i := 1003) (by decide +kernel), rfl⟩
theorem tw_1008 : (.methodLink RX11 340 yX9_worldsOf : Cond) ∈ cw_tb := List.mem_filter.mpr ⟨List.mem_of_getElem? (i := 1008) (by decide +kernel), rfl⟩
theorem tw_1013 : (.methodLink RX11 343 yX9_following : Cond) ∈ cw_tb := List.mem_filter.mpr ⟨List.mem_of_getElem? (i := 1013) (by decide +kernel), rfl⟩
theorem tw_1014 : (.instanceMethod yX9_following : Cond) ∈ cw_tb := List.mem_filter.mpr ⟨List.mem_of_getElem? (i := 1014) (by decide +kernel), rfl⟩
theorem tw_1015 : (.selects RX9 yX9_following yX9_following : Cond) ∈ cw_tb := List.mem_filter.mpr ⟨List.mem_of_getElem? (i := 1015) (by decide +kernel), rfl⟩
theorem tw_1016 : (.code yX9_following cX9_following 6 (some .int) : Cond) ∈ cw_tb := List.mem_filter.mpr ⟨List.mem_of_getElem? (i := 1016) (by decide +kernel), rfl⟩
theorem tw_1021 : (.methodLink RX11 347 yX3_isFull : Cond) ∈ cw_tb := List.mem_filter.mpr ⟨List.mem_of_getElem? (i := 1021) (by decide +kernel), rfl⟩
theorem tw_1022 : (.instanceMethod yX3_isFull : Cond) ∈ cw_tb := List.mem_filter.mpr ⟨List.mem_of_getElem? (i := 1022) (by decide +kernel), rfl⟩
theorem tw_1023 : (.selects RX3 yX3_isFull yX3_isFull : Cond) ∈ cw_tb := List.mem_filter.mpr ⟨List.mem_of_getElem? (i := 1023) (by decide +kernel), rfl⟩
theorem tw_1024 : (.code yX3_isFull cX3_isFull 1 (some .boolean) : Cond) ∈ cw_tb := List.mem_filter.mpr ⟨List.mem_of_getElem? (i := 1024) (by decide +kernel), rfl⟩
theorem tw_1025 : (.methodLink RX11 348 yX3_keep : Cond) ∈ cw_tb := List.mem_filter.mpr ⟨List.mem_of_getElem? (i := 1025) (by decide +kernel), rfl⟩
theorem tw_1026 : (.instanceMethod yX3_keep : Cond) ∈ cw_tb := List.mem_filter.mpr ⟨List.mem_of_getElem? (i := 1026) (by decide +kernel), rfl⟩
theorem tw_1027 : (.selects RX3 yX3_keep yX3_keep : Cond) ∈ cw_tb := List.mem_filter.mpr ⟨List.mem_of_getElem? (i := 1027) (by decide +kernel), rfl⟩
theorem tw_1028 : (.code yX3_keep cX3_keep 4 (some .int) : Cond) ∈ cw_tb := List.mem_filter.mpr ⟨List.mem_of_getElem? (i := 1028) (by decide +kernel), rfl⟩
theorem tw_1029 : (.methodLink RX3 72 yX1_become : Cond) ∈ cw_tb := List.mem_filter.mpr ⟨List.mem_of_getElem? (i := 1029) (by decide +kernel), rfl⟩
theorem tw_1034 : (.methodLink RX11 351 yX3_isClaim : Cond) ∈ cw_tb := List.mem_filter.mpr ⟨List.mem_of_getElem? (i := 1034) (by decide +kernel), rfl⟩
theorem tw_1035 : (.instanceMethod yX3_isClaim : Cond) ∈ cw_tb := List.mem_filter.mpr ⟨List.mem_of_getElem? (i := 1035) (by decide +kernel), rfl⟩
theorem tw_1036 : (.selects RX3 yX3_isClaim yX3_isClaim : Cond) ∈ cw_tb := List.mem_filter.mpr ⟨List.mem_of_getElem? (i := 1036) (by decide +kernel), rfl⟩
theorem tw_1037 : (.code yX3_isClaim cX3_isClaim 2 (some .boolean) : Cond) ∈ cw_tb := List.mem_filter.mpr ⟨List.mem_of_getElem? (i := 1037) (by decide +kernel), rfl⟩
theorem tw_1038 : (.methodLink RX11 354 yX3_settle : Cond) ∈ cw_tb := List.mem_filter.mpr ⟨List.mem_of_getElem? (i := 1038) (by decide +kernel), rfl⟩
theorem tw_1039 : (.instanceMethod yX3_settle : Cond) ∈ cw_tb := List.mem_filter.mpr ⟨List.mem_of_getElem? (i := 1039) (by decide +kernel), rfl⟩
theorem tw_1040 : (.selects RX3 yX3_settle yX3_settle : Cond) ∈ cw_tb := List.mem_filter.mpr ⟨List.mem_of_getElem? (i := 1040) (by decide +kernel), rfl⟩
theorem tw_1041 : (.code yX3_settle cX3_settle 4 none : Cond) ∈ cw_tb := List.mem_filter.mpr ⟨List.mem_of_getElem? (i := 1041) (by decide +kernel), rfl⟩
theorem tw_1042 : (.methodLink RX3 76 yX3_findStrikes : Cond) ∈ cw_tb := List.mem_filter.mpr ⟨List.mem_of_getElem? (i := 1042) (by decide +kernel), rfl⟩
theorem tw_1044 : (.instanceMethod yX3_findStrikes : Cond) ∈ cw_tb := List.mem_filter.mpr ⟨List.mem_of_getElem? (i := 1044) (by decide +kernel), rfl⟩
theorem tw_1045 : (.code yX3_findStrikes cX3_findStrikes 3 none : Cond) ∈ cw_tb := List.mem_filter.mpr ⟨List.mem_of_getElem? (i := 1045) (by decide +kernel), rfl⟩
theorem tw_1046 : (.methodLink RX3 82 yJ7_fill_53178 : Cond) ∈ cw_tb := List.mem_filter.mpr ⟨List.mem_of_getElem? (i := 1046) (by decide +kernel), rfl⟩
theorem tw_1047 : (.methodLink RX3 88 yX3_trustOf : Cond) ∈ cw_tb := List.mem_filter.mpr ⟨List.mem_of_getElem? (i := 1047) (by decide +kernel), rfl⟩
theorem tw_1049 : (.instanceMethod yX3_trustOf : Cond) ∈ cw_tb := List.mem_filter.mpr ⟨List.mem_of_getElem? (i := 1049) (by decide +kernel), rfl⟩
theorem tw_1050 : (.code yX3_trustOf cX3_trustOf 2 (some .int) : Cond) ∈ cw_tb := List.mem_filter.mpr ⟨List.mem_of_getElem? (i := 1050) (by decide +kernel), rfl⟩
theorem tw_1051 : (.methodLink RX3 96 yX3_isClaim : Cond) ∈ cw_tb := List.mem_filter.mpr ⟨List.mem_of_getElem? (i := 1051) (by decide +kernel), rfl⟩
theorem tw_1053 : (.methodLink RX3 92 yX1_apart : Cond) ∈ cw_tb := List.mem_filter.mpr ⟨List.mem_of_getElem? (i := 1053) (by decide +kernel), rfl⟩
theorem tw_1054 : (.methodLink RX3 79 yX3_findRounds : Cond) ∈ cw_tb := List.mem_filter.mpr ⟨List.mem_of_getElem? (i := 1054) (by decide +kernel), rfl⟩
theorem tw_1056 : (.instanceMethod yX3_findRounds : Cond) ∈ cw_tb := List.mem_filter.mpr ⟨List.mem_of_getElem? (i := 1056) (by decide +kernel), rfl⟩
theorem tw_1057 : (.code yX3_findRounds cX3_findRounds 5 none : Cond) ∈ cw_tb := List.mem_filter.mpr ⟨List.mem_of_getElem? (i := 1057) (by decide +kernel), rfl⟩
theorem tw_1058 : (.methodLink RX3 106 yX3_allOf : Cond) ∈ cw_tb := List.mem_filter.mpr ⟨List.mem_of_getElem? (i := 1058) (by decide +kernel), rfl⟩
theorem tw_1060 : (.instanceMethod yX3_allOf : Cond) ∈ cw_tb := List.mem_filter.mpr ⟨List.mem_of_getElem? (i := 1060) (by decide +kernel), rfl⟩
theorem tw_1061 : (.code yX3_allOf cX3_allOf 5 (some .int) : Cond) ∈ cw_tb := List.mem_filter.mpr ⟨List.mem_of_getElem? (i := 1061) (by decide +kernel), rfl⟩
theorem tw_1066 : (.methodLink RX11 372 yX3_seek : Cond) ∈ cw_tb := List.mem_filter.mpr ⟨List.mem_of_getElem? (i := 1066) (by decide +kernel), rfl⟩
theorem tw_1067 : (.instanceMethod yX3_seek : Cond) ∈ cw_tb := List.mem_filter.mpr ⟨List.mem_of_getElem? (i := 1067) (by decide +kernel), rfl⟩
theorem tw_1068 : (.selects RX3 yX3_seek yX3_seek : Cond) ∈ cw_tb := List.mem_filter.mpr ⟨List.mem_of_getElem? (i := 1068) (by decide +kernel), rfl⟩
theorem tw_1069 : (.code yX3_seek cX3_seek 2 none : Cond) ∈ cw_tb := List.mem_filter.mpr ⟨List.mem_of_getElem? (i := 1069) (by decide +kernel), rfl⟩
theorem tw_1070 : (.methodLink RX3 110 yX1_clear : Cond) ∈ cw_tb := List.mem_filter.mpr ⟨List.mem_of_getElem? (i := 1070) (by decide +kernel), rfl⟩
theorem tw_1071 : (.methodLink RX3 113 yX3_fillLow : Cond) ∈ cw_tb := List.mem_filter.mpr ⟨List.mem_of_getElem? (i := 1071) (by decide +kernel), rfl⟩
theorem tw_1073 : (.instanceMethod yX3_fillLow : Cond) ∈ cw_tb := List.mem_filter.mpr ⟨List.mem_of_getElem? (i := 1073) (by decide +kernel), rfl⟩
theorem tw_1074 : (.code yX3_fillLow cX3_fillLow 2 none : Cond) ∈ cw_tb := List.mem_filter.mpr ⟨List.mem_of_getElem? (i := 1074) (by decide +kernel), rfl⟩
theorem tw_1075 : (.methodLink RX3 116 yX3_seekFrom : Cond) ∈ cw_tb := List.mem_filter.mpr ⟨List.mem_of_getElem? (i := 1075) (by decide +kernel), rfl⟩
theorem tw_1077 : (.instanceMethod yX3_seekFrom : Cond) ∈ cw_tb := List.mem_filter.mpr ⟨List.mem_of_getElem? (i := 1077) (by decide +kernel), rfl⟩
theorem tw_1078 : (.code yX3_seekFrom cX3_seekFrom 8 none : Cond) ∈ cw_tb := List.mem_filter.mpr ⟨List.mem_of_getElem? (i := 1078) (by decide +kernel), rfl⟩
theorem tw_1079 : (.methodLink RX3 126 yX1_add : Cond) ∈ cw_tb := List.mem_filter.mpr ⟨List.mem_of_getElem? (i := 1079) (by decide +kernel), rfl⟩
theorem tw_1080 : (.methodLink RX3 119 yX1_closeDown : Cond) ∈ cw_tb := List.mem_filter.mpr ⟨List.mem_of_getElem? (i := 1080) (by decide +kernel), rfl⟩
theorem tw_1081 : (.methodLink RX3 122 yX1_becomeTops : Cond) ∈ cw_tb := List.mem_filter.mpr ⟨List.mem_of_getElem? (i := 1081) (by decide +kernel), rfl⟩
theorem tw_1082 : (.methodLink RX11 381 yX3_answerTo : Cond) ∈ cw_tb := List.mem_filter.mpr ⟨List.mem_of_getElem? (i := 1082) (by decide +kernel), rfl⟩
theorem tw_1083 : (.instanceMethod yX3_answerTo : Cond) ∈ cw_tb := List.mem_filter.mpr ⟨List.mem_of_getElem? (i := 1083) (by decide +kernel), rfl⟩
theorem tw_1084 : (.selects RX3 yX3_answerTo yX3_answerTo : Cond) ∈ cw_tb := List.mem_filter.mpr ⟨List.mem_of_getElem? (i := 1084) (by decide +kernel), rfl⟩
theorem tw_1085 : (.code yX3_answerTo cX3_answerTo 6 (some .int) : Cond) ∈ cw_tb := List.mem_filter.mpr ⟨List.mem_of_getElem? (i := 1085) (by decide +kernel), rfl⟩
theorem tw_1086 : (.constant RX3 131 (2147483647) : Cond) ∈ cw_tb := List.mem_filter.mpr ⟨List.mem_of_getElem? (i := 1086) (by decide +kernel), rfl⟩
theorem tw_1099 : (.methodLink RX11 387 yX6_settle : Cond) ∈ cw_tb := List.mem_filter.mpr ⟨List.mem_of_getElem? (i := 1099) (by decide +kernel), rfl⟩
theorem tw_1100 : (.instanceMethod yX6_settle : Cond) ∈ cw_tb := List.mem_filter.mpr ⟨List.mem_of_getElem? (i := 1100) (by decide +kernel), rfl⟩
theorem tw_1101 : (.selects RX6 yX6_settle yX6_settle : Cond) ∈ cw_tb := List.mem_filter.mpr ⟨List.mem_of_getElem? (i := 1101) (by decide +kernel), rfl⟩
theorem tw_1102 : (.code yX6_settle cX6_settle 5 none : Cond) ∈ cw_tb := List.mem_filter.mpr ⟨List.mem_of_getElem? (i := 1102) (by decide +kernel), rfl⟩
theorem tw_1103 : (.methodLink RX6 29 yX2_inView : Cond) ∈ cw_tb := List.mem_filter.mpr ⟨List.mem_of_getElem? (i := 1103) (by decide +kernel), rfl⟩
theorem tw_1104 : (.methodLink RX6 38 yX2_bySource : Cond) ∈ cw_tb := List.mem_filter.mpr ⟨List.mem_of_getElem? (i := 1104) (by decide +kernel), rfl⟩
theorem tw_1105 : (.instanceMethod yX2_bySource : Cond) ∈ cw_tb := List.mem_filter.mpr ⟨List.mem_of_getElem? (i := 1105) (by decide +kernel), rfl⟩
theorem tw_1106 : (.selects RX2 yX2_bySource yX2_bySource : Cond) ∈ cw_tb := List.mem_filter.mpr ⟨List.mem_of_getElem? (i := 1106) (by decide +kernel), rfl⟩
theorem tw_1107 : (.code yX2_bySource cX2_bySource 6 (some .int) : Cond) ∈ cw_tb := List.mem_filter.mpr ⟨List.mem_of_getElem? (i := 1107) (by decide +kernel), rfl⟩
theorem tw_1108 : (.methodLink RX6 42 yX6_begin : Cond) ∈ cw_tb := List.mem_filter.mpr ⟨List.mem_of_getElem? (i := 1108) (by decide +kernel), rfl⟩
theorem tw_1109 : (.static yX6_begin : Cond) ∈ cw_tb := List.mem_filter.mpr ⟨List.mem_of_getElem? (i := 1109) (by decide +kernel), rfl⟩
theorem tw_1110 : (.code yX6_begin cX6_begin 6 (some .boolean) : Cond) ∈ cw_tb := List.mem_filter.mpr ⟨List.mem_of_getElem? (i := 1110) (by decide +kernel), rfl⟩
theorem tw_1111 : (.methodLink RX6 50 yX2_trueAt : Cond) ∈ cw_tb := List.mem_filter.mpr ⟨List.mem_of_getElem? (i := 1111) (by decide +kernel), rfl⟩
theorem tw_1112 : (.instanceMethod yX2_trueAt : Cond) ∈ cw_tb := List.mem_filter.mpr ⟨List.mem_of_getElem? (i := 1112) (by decide +kernel), rfl⟩
theorem tw_1113 : (.selects RX2 yX2_trueAt yX2_trueAt : Cond) ∈ cw_tb := List.mem_filter.mpr ⟨List.mem_of_getElem? (i := 1113) (by decide +kernel), rfl⟩
theorem tw_1114 : (.code yX2_trueAt cX2_trueAt 2 (some .int) : Cond) ∈ cw_tb := List.mem_filter.mpr ⟨List.mem_of_getElem? (i := 1114) (by decide +kernel), rfl⟩
theorem tw_1115 : (.methodLink RX6 46 yX6_spread : Cond) ∈ cw_tb := List.mem_filter.mpr ⟨List.mem_of_getElem? (i := 1115) (by decide +kernel), rfl⟩
theorem tw_1116 : (.static yX6_spread : Cond) ∈ cw_tb := List.mem_filter.mpr ⟨List.mem_of_getElem? (i := 1116) (by decide +kernel), rfl⟩
theorem tw_1117 : (.code yX6_spread cX6_spread 6 none : Cond) ∈ cw_tb := List.mem_filter.mpr ⟨List.mem_of_getElem? (i := 1117) (by decide +kernel), rfl⟩
theorem tw_1118 : (.methodLink RX6 54 yJ9_min_7cf53 : Cond) ∈ cw_tb := List.mem_filter.mpr ⟨List.mem_of_getElem? (i := 1118) (by decide +kernel), rfl⟩
theorem tw_1127 : (.methodLink RX11 394 yX11_isLaw : Cond) ∈ cw_tb := List.mem_filter.mpr ⟨List.mem_of_getElem? (i := 1127) (by decide +kernel), rfl⟩
theorem tw_1128 : (.static yX11_isLaw : Cond) ∈ cw_tb := List.mem_filter.mpr ⟨List.mem_of_getElem? (i := 1128) (by decide +kernel), rfl⟩
theorem tw_1129 : (.code yX11_isLaw cX11_isLaw 1 (some .boolean) : Cond) ∈ cw_tb := List.mem_filter.mpr ⟨List.mem_of_getElem? (i := 1129) (by decide +kernel), rfl⟩
theorem tw_1130 : (.methodLink RX11 397 yX6_chosen : Cond) ∈ cw_tb := List.mem_filter.mpr ⟨List.mem_of_getElem? (i := 1130) (by decide +kernel), rfl⟩
theorem tw_1131 : (.instanceMethod yX6_chosen : Cond) ∈ cw_tb := List.mem_filter.mpr ⟨List.mem_of_getElem? (i := 1131) (by decide +kernel), rfl⟩
theorem tw_1132 : (.selects RX6 yX6_chosen yX6_chosen : Cond) ∈ cw_tb := List.mem_filter.mpr ⟨List.mem_of_getElem? (i := 1132) (by decide +kernel), rfl⟩
theorem tw_1133 : (.code yX6_chosen cX6_chosen 6 (some (.object "ReasonDesk$Bits")) : Cond) ∈ cw_tb := List.mem_filter.mpr ⟨List.mem_of_getElem? (i := 1133) (by decide +kernel), rfl⟩
theorem tw_1134 : (.methodLink RX6 59 yX6_settle : Cond) ∈ cw_tb := List.mem_filter.mpr ⟨List.mem_of_getElem? (i := 1134) (by decide +kernel), rfl⟩
theorem tw_1135 : (.constant RX6 65 (2147483647) : Cond) ∈ cw_tb := List.mem_filter.mpr ⟨List.mem_of_getElem? (i := 1135) (by decide +kernel), rfl⟩
theorem tw_1136 : (.methodLink RX6 66 yX1_clear : Cond) ∈ cw_tb := List.mem_filter.mpr ⟨List.mem_of_getElem? (i := 1136) (by decide +kernel), rfl⟩
theorem tw_1137 : (.methodLink RX6 73 yX6_costOf : Cond) ∈ cw_tb := List.mem_filter.mpr ⟨List.mem_of_getElem? (i := 1137) (by decide +kernel), rfl⟩
theorem tw_1139 : (.instanceMethod yX6_costOf : Cond) ∈ cw_tb := List.mem_filter.mpr ⟨List.mem_of_getElem? (i := 1139) (by decide +kernel), rfl⟩
theorem tw_1140 : (.code yX6_costOf cX6_costOf 7 (some .int) : Cond) ∈ cw_tb := List.mem_filter.mpr ⟨List.mem_of_getElem? (i := 1140) (by decide +kernel), rfl⟩
theorem tw_1141 : (.methodLink RX6 80 yJ9_max_7cf53 : Cond) ∈ cw_tb := List.mem_filter.mpr ⟨List.mem_of_getElem? (i := 1141) (by decide +kernel), rfl⟩
theorem tw_1142 : (.methodLink RX6 77 yX1_add : Cond) ∈ cw_tb := List.mem_filter.mpr ⟨List.mem_of_getElem? (i := 1142) (by decide +kernel), rfl⟩
theorem tw_1155 : (.methodLink RX11 401 yX11_isHold : Cond) ∈ cw_tb := List.mem_filter.mpr ⟨List.mem_of_getElem? (i := 1155) (by decide +kernel), rfl⟩
theorem tw_1156 : (.static yX11_isHold : Cond) ∈ cw_tb := List.mem_filter.mpr ⟨List.mem_of_getElem? (i := 1156) (by decide +kernel), rfl⟩
theorem tw_1157 : (.code yX11_isHold cX11_isHold 1 (some .boolean) : Cond) ∈ cw_tb := List.mem_filter.mpr ⟨List.mem_of_getElem? (i := 1157) (by decide +kernel), rfl⟩
theorem tw_1166 : (.methodLink RX11 404 yX11_isOfKind : Cond) ∈ cw_tb := List.mem_filter.mpr ⟨List.mem_of_getElem? (i := 1166) (by decide +kernel), rfl⟩
theorem tw_1167 : (.static yX11_isOfKind : Cond) ∈ cw_tb := List.mem_filter.mpr ⟨List.mem_of_getElem? (i := 1167) (by decide +kernel), rfl⟩
theorem tw_1168 : (.code yX11_isOfKind cX11_isOfKind 2 (some .boolean) : Cond) ∈ cw_tb := List.mem_filter.mpr ⟨List.mem_of_getElem? (i := 1168) (by decide +kernel), rfl⟩
theorem tw_1173 : (.methodLink RX11 411 ⟨"ReasonDesk$Thing", "told", "([I)I"⟩ : Cond) ∈ cw_tb := List.mem_filter.mpr ⟨List.mem_of_getElem? (i := 1173) (by decide +kernel), rfl⟩
theorem tw_1175 : (.sameMethod "ReasonDesk$Thing" "ReasonDesk$Thing" "told" "([I)I" : Cond) ∈ cw_tb := List.mem_filter.mpr ⟨List.mem_of_getElem? (i := 1175) (by decide +kernel), rfl⟩
theorem tw_1176 : (.selects RX0 ⟨"ReasonDesk$Thing", "told", "([I)I"⟩ yX0_told : Cond) ∈ cw_tb := List.mem_filter.mpr ⟨List.mem_of_getElem? (i := 1176) (by decide +kernel), rfl⟩
theorem tw_1177 : (.instanceMethod yX0_told : Cond) ∈ cw_tb := List.mem_filter.mpr ⟨List.mem_of_getElem? (i := 1177) (by decide +kernel), rfl⟩
theorem tw_1178 : (.code yX0_told cX0_told 2 (some .int) : Cond) ∈ cw_tb := List.mem_filter.mpr ⟨List.mem_of_getElem? (i := 1178) (by decide +kernel), rfl⟩
theorem tw_1179 : (.methodLink RX0 7 ⟨"ReasonDesk$Barred", "mark", "([II)V"⟩ : Cond) ∈ cw_tb := List.mem_filter.mpr ⟨List.mem_of_getElem? (i := 1179) (by decide +kernel), rfl⟩
theorem tw_1180 : (.sameMethod "ReasonDesk$Barred" "ReasonDesk$Thing" "mark" "([II)V" : Cond) ∈ cw_tb := List.mem_filter.mpr ⟨List.mem_of_getElem? (i := 1180) (by decide +kernel), rfl⟩
theorem tw_1181 : (.static yX10_mark : Cond) ∈ cw_tb := List.mem_filter.mpr ⟨List.mem_of_getElem? (i := 1181) (by decide +kernel), rfl⟩
theorem tw_1182 : (.code yX10_mark cX10_mark 2 none : Cond) ∈ cw_tb := List.mem_filter.mpr ⟨List.mem_of_getElem? (i := 1182) (by decide +kernel), rfl⟩
theorem tw_1183 : (.methodLink RX0 13 ⟨"ReasonDesk$Barred", "plainly", "([I)I"⟩ : Cond) ∈ cw_tb := List.mem_filter.mpr ⟨List.mem_of_getElem? (i := 1183) (by decide +kernel), rfl⟩
theorem tw_1184 : (.sameMethod "ReasonDesk$Barred" "ReasonDesk$Rule" "plainly" "([I)I" : Cond) ∈ cw_tb := List.mem_filter.mpr ⟨List.mem_of_getElem? (i := 1184) (by decide +kernel), rfl⟩
theorem tw_1186 : (.selects RX0 ⟨"ReasonDesk$Barred", "plainly", "([I)I"⟩ yX8_plainly : Cond) ∈ cw_tb := List.mem_filter.mpr ⟨List.mem_of_getElem? (i := 1186) (by decide +kernel), rfl⟩
theorem tw_1188 : (.instanceMethod yX8_plainly : Cond) ∈ cw_tb := List.mem_filter.mpr ⟨List.mem_of_getElem? (i := 1188) (by decide +kernel), rfl⟩
theorem tw_1189 : (.code yX8_plainly cX8_plainly 2 (some .int) : Cond) ∈ cw_tb := List.mem_filter.mpr ⟨List.mem_of_getElem? (i := 1189) (by decide +kernel), rfl⟩
theorem tw_1190 : (.methodLink RX8 26 ⟨"ReasonDesk$Rule", "mark", "([II)V"⟩ : Cond) ∈ cw_tb := List.mem_filter.mpr ⟨List.mem_of_getElem? (i := 1190) (by decide +kernel), rfl⟩
theorem tw_1191 : (.sameMethod "ReasonDesk$Rule" "ReasonDesk$Thing" "mark" "([II)V" : Cond) ∈ cw_tb := List.mem_filter.mpr ⟨List.mem_of_getElem? (i := 1191) (by decide +kernel), rfl⟩
theorem tw_1192 : (.selects RX4 ⟨"ReasonDesk$Thing", "told", "([I)I"⟩ yX4_told : Cond) ∈ cw_tb := List.mem_filter.mpr ⟨List.mem_of_getElem? (i := 1192) (by decide +kernel), rfl⟩
theorem tw_1193 : (.instanceMethod yX4_told : Cond) ∈ cw_tb := List.mem_filter.mpr ⟨List.mem_of_getElem? (i := 1193) (by decide +kernel), rfl⟩
theorem tw_1194 : (.code yX4_told cX4_told 2 (some .int) : Cond) ∈ cw_tb := List.mem_filter.mpr ⟨List.mem_of_getElem? (i := 1194) (by decide +kernel), rfl⟩
theorem tw_1195 : (.methodLink RX4 30 ⟨"ReasonDesk$Entry", "mark", "([II)V"⟩ : Cond) ∈ cw_tb := List.mem_filter.mpr ⟨List.mem_of_getElem? (i := 1195) (by decide +kernel), rfl⟩
theorem tw_1196 : (.sameMethod "ReasonDesk$Entry" "ReasonDesk$Thing" "mark" "([II)V" : Cond) ∈ cw_tb := List.mem_filter.mpr ⟨List.mem_of_getElem? (i := 1196) (by decide +kernel), rfl⟩
theorem tw_1197 : (.selects RX5 ⟨"ReasonDesk$Thing", "told", "([I)I"⟩ yX5_told : Cond) ∈ cw_tb := List.mem_filter.mpr ⟨List.mem_of_getElem? (i := 1197) (by decide +kernel), rfl⟩
theorem tw_1198 : (.instanceMethod yX5_told : Cond) ∈ cw_tb := List.mem_filter.mpr ⟨List.mem_of_getElem? (i := 1198) (by decide +kernel), rfl⟩
theorem tw_1199 : (.code yX5_told cX5_told 2 (some .int) : Cond) ∈ cw_tb := List.mem_filter.mpr ⟨List.mem_of_getElem? (i := 1199) (by decide +kernel), rfl⟩
theorem tw_1200 : (.methodLink RX5 7 ⟨"ReasonDesk$Loose", "mark", "([II)V"⟩ : Cond) ∈ cw_tb := List.mem_filter.mpr ⟨List.mem_of_getElem? (i := 1200) (by decide +kernel), rfl⟩
theorem tw_1201 : (.sameMethod "ReasonDesk$Loose" "ReasonDesk$Thing" "mark" "([II)V" : Cond) ∈ cw_tb := List.mem_filter.mpr ⟨List.mem_of_getElem? (i := 1201) (by decide +kernel), rfl⟩
theorem tw_1202 : (.methodLink RX5 13 ⟨"ReasonDesk$Loose", "plainly", "([I)I"⟩ : Cond) ∈ cw_tb := List.mem_filter.mpr ⟨List.mem_of_getElem? (i := 1202) (by decide +kernel), rfl⟩
theorem tw_1203 : (.sameMethod "ReasonDesk$Loose" "ReasonDesk$Rule" "plainly" "([I)I" : Cond) ∈ cw_tb := List.mem_filter.mpr ⟨List.mem_of_getElem? (i := 1203) (by decide +kernel), rfl⟩
theorem tw_1204 : (.selects RX5 ⟨"ReasonDesk$Loose", "plainly", "([I)I"⟩ yX8_plainly : Cond) ∈ cw_tb := List.mem_filter.mpr ⟨List.mem_of_getElem? (i := 1204) (by decide +kernel), rfl⟩
theorem tw_1205 : (.selects RX8 ⟨"ReasonDesk$Thing", "told", "([I)I"⟩ yX8_told : Cond) ∈ cw_tb := List.mem_filter.mpr ⟨List.mem_of_getElem? (i := 1205) (by decide +kernel), rfl⟩
theorem tw_1206 : (.instanceMethod yX8_told : Cond) ∈ cw_tb := List.mem_filter.mpr ⟨List.mem_of_getElem? (i := 1206) (by decide +kernel), rfl⟩
theorem tw_1207 : (.code yX8_told cX8_told 2 (some .int) : Cond) ∈ cw_tb := List.mem_filter.mpr ⟨List.mem_of_getElem? (i := 1207) (by decide +kernel), rfl⟩
theorem tw_1208 : (.methodLink RX8 22 yX8_plainly : Cond) ∈ cw_tb := List.mem_filter.mpr ⟨List.mem_of_getElem? (i := 1208) (by decide +kernel), rfl⟩
theorem tw_1213 : (.methodLink RX11 415 yX8_shown : Cond) ∈ cw_tb := List.mem_filter.mpr ⟨List.mem_of_getElem? (i := 1213) (by decide +kernel), rfl⟩
theorem tw_1214 : (.instanceMethod yX8_shown : Cond) ∈ cw_tb := List.mem_filter.mpr ⟨List.mem_of_getElem? (i := 1214) (by decide +kernel), rfl⟩
theorem tw_1215 : (.selects RX8 yX8_shown yX8_shown : Cond) ∈ cw_tb := List.mem_filter.mpr ⟨List.mem_of_getElem? (i := 1215) (by decide +kernel), rfl⟩
theorem tw_1216 : (.sameMethod "ReasonDesk$Rule" "ReasonDesk$Rule" "shown" "([I)I" : Cond) ∈ cw_tb := List.mem_filter.mpr ⟨List.mem_of_getElem? (i := 1216) (by decide +kernel), rfl⟩
theorem tw_1217 : (.selects RX0 yX8_shown yX0_shown : Cond) ∈ cw_tb := List.mem_filter.mpr ⟨List.mem_of_getElem? (i := 1217) (by decide +kernel), rfl⟩
theorem tw_1218 : (.instanceMethod yX0_shown : Cond) ∈ cw_tb := List.mem_filter.mpr ⟨List.mem_of_getElem? (i := 1218) (by decide +kernel), rfl⟩
theorem tw_1219 : (.code yX0_shown cX0_shown 2 (some .int) : Cond) ∈ cw_tb := List.mem_filter.mpr ⟨List.mem_of_getElem? (i := 1219) (by decide +kernel), rfl⟩
theorem tw_1220 : (.methodLink RX0 21 yX8_shown : Cond) ∈ cw_tb := List.mem_filter.mpr ⟨List.mem_of_getElem? (i := 1220) (by decide +kernel), rfl⟩
theorem tw_1221 : (.selects RX5 yX8_shown yX5_shown : Cond) ∈ cw_tb := List.mem_filter.mpr ⟨List.mem_of_getElem? (i := 1221) (by decide +kernel), rfl⟩
theorem tw_1222 : (.instanceMethod yX5_shown : Cond) ∈ cw_tb := List.mem_filter.mpr ⟨List.mem_of_getElem? (i := 1222) (by decide +kernel), rfl⟩
theorem tw_1223 : (.code yX5_shown cX5_shown 2 (some .int) : Cond) ∈ cw_tb := List.mem_filter.mpr ⟨List.mem_of_getElem? (i := 1223) (by decide +kernel), rfl⟩
theorem tw_1224 : (.methodLink RX5 17 yX0_shown : Cond) ∈ cw_tb := List.mem_filter.mpr ⟨List.mem_of_getElem? (i := 1224) (by decide +kernel), rfl⟩
theorem tw_1225 : (.code yX8_shown cX8_shown 2 (some .int) : Cond) ∈ cw_tb := List.mem_filter.mpr ⟨List.mem_of_getElem? (i := 1225) (by decide +kernel), rfl⟩
theorem tw_1238 : (.methodLink RX11 418 yX11_cut : Cond) ∈ cw_tb := List.mem_filter.mpr ⟨List.mem_of_getElem? (i := 1238) (by decide +kernel), rfl⟩
theorem tw_1239 : (.static yX11_cut : Cond) ∈ cw_tb := List.mem_filter.mpr ⟨List.mem_of_getElem? (i := 1239) (by decide +kernel), rfl⟩
theorem tw_1240 : (.code yX11_cut cX11_cut 2 (some .int) : Cond) ∈ cw_tb := List.mem_filter.mpr ⟨List.mem_of_getElem? (i := 1240) (by decide +kernel), rfl⟩
theorem tw_1245 : (.constantLong RX11 422 (-9223372036854775808) : Cond) ∈ cw_tb := List.mem_filter.mpr ⟨List.mem_of_getElem? (i := 1245) (by decide +kernel), rfl⟩
theorem tw_1250 : (.methodLink RX11 424 arraycopyName : Cond) ∈ cw_tb := List.mem_filter.mpr ⟨List.mem_of_getElem? (i := 1250) (by decide +kernel), rfl⟩
theorem tw_1263 : (.methodLink RX11 431 yX11_together : Cond) ∈ cw_tb := List.mem_filter.mpr ⟨List.mem_of_getElem? (i := 1263) (by decide +kernel), rfl⟩
theorem tw_1270 : (.constant RX12 102 (49152) : Cond) ∈ cw_tb := List.mem_filter.mpr ⟨List.mem_of_getElem? (i := 1270) (by decide +kernel), rfl⟩
theorem tw_1271 : (.fieldLink RX12 142 "ReasonDeskModel" "fault" "I" : Cond) ∈ cw_tb := List.mem_filter.mpr ⟨List.mem_of_getElem? (i := 1271) (by decide +kernel), rfl⟩
theorem tw_1272 : (.fieldLink RX12 149 "ReasonDeskModel" "sentences" "I" : Cond) ∈ cw_tb := List.mem_filter.mpr ⟨List.mem_of_getElem? (i := 1272) (by decide +kernel), rfl⟩
theorem tw_1273 : (.fieldLink RX12 7 "ReasonDeskModel" "trueIn" "[J" : Cond) ∈ cw_tb := List.mem_filter.mpr ⟨List.mem_of_getElem? (i := 1273) (by decide +kernel), rfl⟩
theorem tw_1274 : (.fieldLink RX12 13 "ReasonDeskModel" "trusts" "[I" : Cond) ∈ cw_tb := List.mem_filter.mpr ⟨List.mem_of_getElem? (i := 1274) (by decide +kernel), rfl⟩
theorem tw_1275 : (.fieldLink RX12 17 "ReasonDeskModel" "values" "[J" : Cond) ∈ cw_tb := List.mem_filter.mpr ⟨List.mem_of_getElem? (i := 1275) (by decide +kernel), rfl⟩
theorem tw_1276 : (.fieldLink RX12 162 "ReasonDeskModel" "valueMany" "I" : Cond) ∈ cw_tb := List.mem_filter.mpr ⟨List.mem_of_getElem? (i := 1276) (by decide +kernel), rfl⟩
theorem tw_1277 : (.fieldLink RX12 20 "ReasonDeskModel" "signs" "[I" : Cond) ∈ cw_tb := List.mem_filter.mpr ⟨List.mem_of_getElem? (i := 1277) (by decide +kernel), rfl⟩
theorem tw_1278 : (.fieldLink RX12 167 "ReasonDeskModel" "signMany" "I" : Cond) ∈ cw_tb := List.mem_filter.mpr ⟨List.mem_of_getElem? (i := 1278) (by decide +kernel), rfl⟩
theorem tw_1279 : (.fieldLink RX12 263 "ReasonDeskModel" "entries" "I" : Cond) ∈ cw_tb := List.mem_filter.mpr ⟨List.mem_of_getElem? (i := 1279) (by decide +kernel), rfl⟩
theorem tw_1280 : (.fieldLink RX12 23 "ReasonDeskModel" "sentenceOf" "[I" : Cond) ∈ cw_tb := List.mem_filter.mpr ⟨List.mem_of_getElem? (i := 1280) (by decide +kernel), rfl⟩
theorem tw_1281 : (.fieldLink RX12 26 "ReasonDeskModel" "sourceOf" "[I" : Cond) ∈ cw_tb := List.mem_filter.mpr ⟨List.mem_of_getElem? (i := 1281) (by decide +kernel), rfl⟩
theorem tw_1282 : (.fieldLink RX12 29 "ReasonDeskModel" "from" "[I" : Cond) ∈ cw_tb := List.mem_filter.mpr ⟨List.mem_of_getElem? (i := 1282) (by decide +kernel), rfl⟩
theorem tw_1283 : (.fieldLink RX12 32 "ReasonDeskModel" "to" "[I" : Cond) ∈ cw_tb := List.mem_filter.mpr ⟨List.mem_of_getElem? (i := 1283) (by decide +kernel), rfl⟩
theorem tw_1284 : (.fieldLink RX12 35 "ReasonDeskModel" "known" "[I" : Cond) ∈ cw_tb := List.mem_filter.mpr ⟨List.mem_of_getElem? (i := 1284) (by decide +kernel), rfl⟩
theorem tw_1285 : (.fieldLink RX12 38 "ReasonDeskModel" "givenUp" "[I" : Cond) ∈ cw_tb := List.mem_filter.mpr ⟨List.mem_of_getElem? (i := 1285) (by decide +kernel), rfl⟩
theorem tw_1286 : (.fieldLink RX12 269 "ReasonDeskModel" "viewT" "I" : Cond) ∈ cw_tb := List.mem_filter.mpr ⟨List.mem_of_getElem? (i := 1286) (by decide +kernel), rfl⟩
theorem tw_1287 : (.fieldLink RX12 136 "ReasonDeskModel" "viewK" "I" : Cond) ∈ cw_tb := List.mem_filter.mpr ⟨List.mem_of_getElem? (i := 1287) (by decide +kernel), rfl⟩
theorem tw_1288 : (.fieldLink RX12 266 "ReasonDeskModel" "isLaid" "Z" : Cond) ∈ cw_tb := List.mem_filter.mpr ⟨List.mem_of_getElem? (i := 1288) (by decide +kernel), rfl⟩
theorem tw_1289 : (.fieldLink RX12 41 "ReasonDeskModel" "worldsOf" "[J" : Cond) ∈ cw_tb := List.mem_filter.mpr ⟨List.mem_of_getElem? (i := 1289) (by decide +kernel), rfl⟩
theorem tw_1290 : (.fieldLink RX12 254 "ReasonDeskModel" "isViewed" "Z" : Cond) ∈ cw_tb := List.mem_filter.mpr ⟨List.mem_of_getElem? (i := 1290) (by decide +kernel), rfl⟩
theorem tw_1291 : (.fieldLink RX12 275 "ReasonDeskModel" "view" "I" : Cond) ∈ cw_tb := List.mem_filter.mpr ⟨List.mem_of_getElem? (i := 1291) (by decide +kernel), rfl⟩
theorem tw_1292 : (.fieldLink RX12 284 "ReasonDeskModel" "harmonyMany" "I" : Cond) ∈ cw_tb := List.mem_filter.mpr ⟨List.mem_of_getElem? (i := 1292) (by decide +kernel), rfl⟩
theorem tw_1293 : (.fieldLink RX12 44 "ReasonDeskModel" "harmonySets" "[I" : Cond) ∈ cw_tb := List.mem_filter.mpr ⟨List.mem_of_getElem? (i := 1293) (by decide +kernel), rfl⟩
theorem tw_1294 : (.fieldLink RX12 287 "ReasonDeskModel" "bestMany" "I" : Cond) ∈ cw_tb := List.mem_filter.mpr ⟨List.mem_of_getElem? (i := 1294) (by decide +kernel), rfl⟩
theorem tw_1295 : (.fieldLink RX12 47 "ReasonDeskModel" "bestSets" "[I" : Cond) ∈ cw_tb := List.mem_filter.mpr ⟨List.mem_of_getElem? (i := 1295) (by decide +kernel), rfl⟩
theorem tw_1296 : (.fieldLink RX12 290 "ReasonDeskModel" "bestWeight" "I" : Cond) ∈ cw_tb := List.mem_filter.mpr ⟨List.mem_of_getElem? (i := 1296) (by decide +kernel), rfl⟩
theorem tw_1297 : (.fieldLink RX12 293 "ReasonDeskModel" "free" "I" : Cond) ∈ cw_tb := List.mem_filter.mpr ⟨List.mem_of_getElem? (i := 1297) (by decide +kernel), rfl⟩
theorem tw_1298 : (.fieldLink RX12 358 "ReasonDeskModel" "rules" "I" : Cond) ∈ cw_tb := List.mem_filter.mpr ⟨List.mem_of_getElem? (i := 1298) (by decide +kernel), rfl⟩
theorem tw_1299 : (.fieldLink RX12 50 "ReasonDeskModel" "ruleKind" "[I" : Cond) ∈ cw_tb := List.mem_filter.mpr ⟨List.mem_of_getElem? (i := 1299) (by decide +kernel), rfl⟩
theorem tw_1300 : (.fieldLink RX12 53 "ReasonDeskModel" "ifOf" "[I" : Cond) ∈ cw_tb := List.mem_filter.mpr ⟨List.mem_of_getElem? (i := 1300) (by decide +kernel), rfl⟩
theorem tw_1301 : (.fieldLink RX12 56 "ReasonDeskModel" "thenOf" "[I" : Cond) ∈ cw_tb := List.mem_filter.mpr ⟨List.mem_of_getElem? (i := 1301) (by decide +kernel), rfl⟩
theorem tw_1302 : (.fieldLink RX12 59 "ReasonDeskModel" "unlessOf" "[I" : Cond) ∈ cw_tb := List.mem_filter.mpr ⟨List.mem_of_getElem? (i := 1302) (by decide +kernel), rfl⟩
theorem tw_1303 : (.fieldLink RX12 62 "ReasonDeskModel" "rankOf" "[I" : Cond) ∈ cw_tb := List.mem_filter.mpr ⟨List.mem_of_getElem? (i := 1303) (by decide +kernel), rfl⟩
theorem tw_1304 : (.fieldLink RX12 257 "ReasonDeskModel" "isRuled" "Z" : Cond) ∈ cw_tb := List.mem_filter.mpr ⟨List.mem_of_getElem? (i := 1304) (by decide +kernel), rfl⟩
theorem tw_1305 : (.fieldLink RX12 65 "ReasonDeskModel" "e4" "[J" : Cond) ∈ cw_tb := List.mem_filter.mpr ⟨List.mem_of_getElem? (i := 1305) (by decide +kernel), rfl⟩
theorem tw_1306 : (.fieldLink RX12 373 "ReasonDeskModel" "extensionMany" "I" : Cond) ∈ cw_tb := List.mem_filter.mpr ⟨List.mem_of_getElem? (i := 1306) (by decide +kernel), rfl⟩
theorem tw_1307 : (.fieldLink RX12 68 "ReasonDeskModel" "extensionSets" "[I" : Cond) ∈ cw_tb := List.mem_filter.mpr ⟨List.mem_of_getElem? (i := 1307) (by decide +kernel), rfl⟩
theorem tw_1308 : (.fieldLink RX12 376 "ReasonDeskModel" "bestExtensionMany" "I" : Cond) ∈ cw_tb := List.mem_filter.mpr ⟨List.mem_of_getElem? (i := 1308) (by decide +kernel), rfl⟩
theorem tw_1309 : (.fieldLink RX12 71 "ReasonDeskModel" "bestExtensions" "[I" : Cond) ∈ cw_tb := List.mem_filter.mpr ⟨List.mem_of_getElem? (i := 1309) (by decide +kernel), rfl⟩
theorem tw_1310 : (.fieldLink RX12 74 "ReasonDeskModel" "bars" "[I" : Cond) ∈ cw_tb := List.mem_filter.mpr ⟨List.mem_of_getElem? (i := 1310) (by decide +kernel), rfl⟩
theorem tw_1311 : (.fieldLink RX12 401 "ReasonDeskModel" "claims" "I" : Cond) ∈ cw_tb := List.mem_filter.mpr ⟨List.mem_of_getElem? (i := 1311) (by decide +kernel), rfl⟩
theorem tw_1312 : (.fieldLink RX12 77 "ReasonDeskModel" "claimOf" "[I" : Cond) ∈ cw_tb := List.mem_filter.mpr ⟨List.mem_of_getElem? (i := 1312) (by decide +kernel), rfl⟩
theorem tw_1313 : (.fieldLink RX12 80 "ReasonDeskModel" "claimBy" "[I" : Cond) ∈ cw_tb := List.mem_filter.mpr ⟨List.mem_of_getElem? (i := 1313) (by decide +kernel), rfl⟩
theorem tw_1314 : (.fieldLink RX12 250 "ReasonDeskModel" "isClaimed" "Z" : Cond) ∈ cw_tb := List.mem_filter.mpr ⟨List.mem_of_getElem? (i := 1314) (by decide +kernel), rfl⟩
theorem tw_1315 : (.fieldLink RX12 83 "ReasonDeskModel" "struckBy" "[I" : Cond) ∈ cw_tb := List.mem_filter.mpr ⟨List.mem_of_getElem? (i := 1315) (by decide +kernel), rfl⟩
theorem tw_1316 : (.fieldLink RX12 86 "ReasonDeskModel" "strikesAll" "[I" : Cond) ∈ cw_tb := List.mem_filter.mpr ⟨List.mem_of_getElem? (i := 1316) (by decide +kernel), rfl⟩
theorem tw_1317 : (.fieldLink RX12 89 "ReasonDeskModel" "roundOf" "[I" : Cond) ∈ cw_tb := List.mem_filter.mpr ⟨List.mem_of_getElem? (i := 1317) (by decide +kernel), rfl⟩
theorem tw_1318 : (.fieldLink RX12 413 "ReasonDeskModel" "standing" "I" : Cond) ∈ cw_tb := List.mem_filter.mpr ⟨List.mem_of_getElem? (i := 1318) (by decide +kernel), rfl⟩
theorem tw_1319 : (.fieldLink RX12 419 "ReasonDeskModel" "soundMany" "I" : Cond) ∈ cw_tb := List.mem_filter.mpr ⟨List.mem_of_getElem? (i := 1319) (by decide +kernel), rfl⟩
theorem tw_1320 : (.fieldLink RX12 422 "ReasonDeskModel" "preferredMany" "I" : Cond) ∈ cw_tb := List.mem_filter.mpr ⟨List.mem_of_getElem? (i := 1320) (by decide +kernel), rfl⟩
theorem tw_1321 : (.fieldLink RX12 92 "ReasonDeskModel" "preferred" "[I" : Cond) ∈ cw_tb := List.mem_filter.mpr ⟨List.mem_of_getElem? (i := 1321) (by decide +kernel), rfl⟩
theorem tw_1322 : (.fieldLink RX12 425 "ReasonDeskModel" "stableMany" "I" : Cond) ∈ cw_tb := List.mem_filter.mpr ⟨List.mem_of_getElem? (i := 1322) (by decide +kernel), rfl⟩
theorem tw_1323 : (.fieldLink RX12 95 "ReasonDeskModel" "stable" "[I" : Cond) ∈ cw_tb := List.mem_filter.mpr ⟨List.mem_of_getElem? (i := 1323) (by decide +kernel), rfl⟩
theorem tw_1324 : (.fieldLink RX12 98 "ReasonDeskModel" "isSound" "[Z" : Cond) ∈ cw_tb := List.mem_filter.mpr ⟨List.mem_of_getElem? (i := 1324) (by decide +kernel), rfl⟩
theorem tw_1325 : (.fieldLink RX12 103 "ReasonDeskModel" "wins" "[Z" : Cond) ∈ cw_tb := List.mem_filter.mpr ⟨List.mem_of_getElem? (i := 1325) (by decide +kernel), rfl⟩
theorem tw_1326 : (.fieldLink RX12 260 "ReasonDeskModel" "isMerged" "Z" : Cond) ∈ cw_tb := List.mem_filter.mpr ⟨List.mem_of_getElem? (i := 1326) (by decide +kernel), rfl⟩
theorem tw_1327 : (.fieldLink RX12 452 "ReasonDeskModel" "taking" "I" : Cond) ∈ cw_tb := List.mem_filter.mpr ⟨List.mem_of_getElem? (i := 1327) (by decide +kernel), rfl⟩
theorem tw_1328 : (.fieldLink RX12 106 "ReasonDeskModel" "fars" "[I" : Cond) ∈ cw_tb := List.mem_filter.mpr ⟨List.mem_of_getElem? (i := 1328) (by decide +kernel), rfl⟩
theorem tw_1329 : (.fieldLink RX12 109 "ReasonDeskModel" "rows" "[I" : Cond) ∈ cw_tb := List.mem_filter.mpr ⟨List.mem_of_getElem? (i := 1329) (by decide +kernel), rfl⟩
theorem tw_1330 : (.fieldLink RX12 112 "ReasonDeskModel" "bestRow" "[I" : Cond) ∈ cw_tb := List.mem_filter.mpr ⟨List.mem_of_getElem? (i := 1330) (by decide +kernel), rfl⟩
theorem tw_1331 : (.fieldLink RX12 115 "ReasonDeskModel" "merged4" "[J" : Cond) ∈ cw_tb := List.mem_filter.mpr ⟨List.mem_of_getElem? (i := 1331) (by decide +kernel), rfl⟩
theorem tw_1332 : (.fieldLink RX12 118 "ReasonDeskModel" "heldWhat" "[I" : Cond) ∈ cw_tb := List.mem_filter.mpr ⟨List.mem_of_getElem? (i := 1332) (by decide +kernel), rfl⟩
theorem tw_1333 : (.fieldLink RX12 121 "ReasonDeskModel" "heldNumber" "[I" : Cond) ∈ cw_tb := List.mem_filter.mpr ⟨List.mem_of_getElem? (i := 1333) (by decide +kernel), rfl⟩
theorem tw_1334 : (.fieldLink RX12 477 "ReasonDeskModel" "trace" "I" : Cond) ∈ cw_tb := List.mem_filter.mpr ⟨List.mem_of_getElem? (i := 1334) (by decide +kernel), rfl⟩
theorem tw_1335 : (.fieldLink RX12 124 "ReasonDeskModel" "sheetSize" "[I" : Cond) ∈ cw_tb := List.mem_filter.mpr ⟨List.mem_of_getElem? (i := 1335) (by decide +kernel), rfl⟩
theorem tw_1336 : (.fieldLink RX12 127 "ReasonDeskModel" "sheetLane" "[I" : Cond) ∈ cw_tb := List.mem_filter.mpr ⟨List.mem_of_getElem? (i := 1336) (by decide +kernel), rfl⟩
theorem tw_1337 : (.fieldLink RX12 130 "ReasonDeskModel" "sheet" "[I" : Cond) ∈ cw_tb := List.mem_filter.mpr ⟨List.mem_of_getElem? (i := 1337) (by decide +kernel), rfl⟩
theorem tw_1338 : (.fieldLink RX12 133 "ReasonDeskModel" "hands" "[I" : Cond) ∈ cw_tb := List.mem_filter.mpr ⟨List.mem_of_getElem? (i := 1338) (by decide +kernel), rfl⟩
theorem tw_1481 : (.methodLink RX12 201 yX12_noSheet : Cond) ∈ cw_tb := List.mem_filter.mpr ⟨List.mem_of_getElem? (i := 1481) (by decide +kernel), rfl⟩
theorem tw_1482 : (.static yX12_noSheet : Cond) ∈ cw_tb := List.mem_filter.mpr ⟨List.mem_of_getElem? (i := 1482) (by decide +kernel), rfl⟩
theorem tw_1483 : (.code yX12_noSheet cX12_noSheet 1 (some .boolean) : Cond) ∈ cw_tb := List.mem_filter.mpr ⟨List.mem_of_getElem? (i := 1483) (by decide +kernel), rfl⟩
theorem tw_1484 : (.constantLong RX12 353 (3) : Cond) ∈ cw_tb := List.mem_filter.mpr ⟨List.mem_of_getElem? (i := 1484) (by decide +kernel), rfl⟩
theorem tw_1485 : (.methodLink RX12 152 yX12_in : Cond) ∈ cw_tb := List.mem_filter.mpr ⟨List.mem_of_getElem? (i := 1485) (by decide +kernel), rfl⟩
theorem tw_1486 : (.static yX12_in : Cond) ∈ cw_tb := List.mem_filter.mpr ⟨List.mem_of_getElem? (i := 1486) (by decide +kernel), rfl⟩
theorem tw_1487 : (.code yX12_in cX12_in 6 (some .boolean) : Cond) ∈ cw_tb := List.mem_filter.mpr ⟨List.mem_of_getElem? (i := 1487) (by decide +kernel), rfl⟩
theorem tw_1488 : (.methodLink RX12 205 yX12_refused : Cond) ∈ cw_tb := List.mem_filter.mpr ⟨List.mem_of_getElem? (i := 1488) (by decide +kernel), rfl⟩
theorem tw_1490 : (.instanceMethod yX12_refused : Cond) ∈ cw_tb := List.mem_filter.mpr ⟨List.mem_of_getElem? (i := 1490) (by decide +kernel), rfl⟩
theorem tw_1491 : (.code yX12_refused cX12_refused 2 (some .int) : Cond) ∈ cw_tb := List.mem_filter.mpr ⟨List.mem_of_getElem? (i := 1491) (by decide +kernel), rfl⟩
theorem tw_1492 : (.constantLong RX12 208 (2) : Cond) ∈ cw_tb := List.mem_filter.mpr ⟨List.mem_of_getElem? (i := 1492) (by decide +kernel), rfl⟩
theorem tw_1493 : (.methodLink RX12 210 yX12_failed : Cond) ∈ cw_tb := List.mem_filter.mpr ⟨List.mem_of_getElem? (i := 1493) (by decide +kernel), rfl⟩
theorem tw_1495 : (.instanceMethod yX12_failed : Cond) ∈ cw_tb := List.mem_filter.mpr ⟨List.mem_of_getElem? (i := 1495) (by decide +kernel), rfl⟩
theorem tw_1496 : (.code yX12_failed cX12_failed 2 (some .int) : Cond) ∈ cw_tb := List.mem_filter.mpr ⟨List.mem_of_getElem? (i := 1496) (by decide +kernel), rfl⟩
theorem tw_1497 : (.methodLink RX12 213 yX12_isBeyond : Cond) ∈ cw_tb := List.mem_filter.mpr ⟨List.mem_of_getElem? (i := 1497) (by decide +kernel), rfl⟩
theorem tw_1498 : (.static yX12_isBeyond : Cond) ∈ cw_tb := List.mem_filter.mpr ⟨List.mem_of_getElem? (i := 1498) (by decide +kernel), rfl⟩
theorem tw_1499 : (.code yX12_isBeyond cX12_isBeyond 4 (some .boolean) : Cond) ∈ cw_tb := List.mem_filter.mpr ⟨List.mem_of_getElem? (i := 1499) (by decide +kernel), rfl⟩
theorem tw_1500 : (.methodLink RX12 217 yX12_parse : Cond) ∈ cw_tb := List.mem_filter.mpr ⟨List.mem_of_getElem? (i := 1500) (by decide +kernel), rfl⟩
theorem tw_1502 : (.instanceMethod yX12_parse : Cond) ∈ cw_tb := List.mem_filter.mpr ⟨List.mem_of_getElem? (i := 1502) (by decide +kernel), rfl⟩
theorem tw_1503 : (.code yX12_parse cX12_parse 7 (some .int) : Cond) ∈ cw_tb := List.mem_filter.mpr ⟨List.mem_of_getElem? (i := 1503) (by decide +kernel), rfl⟩
theorem tw_1504 : (.constantLong RX12 191 (97) : Cond) ∈ cw_tb := List.mem_filter.mpr ⟨List.mem_of_getElem? (i := 1504) (by decide +kernel), rfl⟩
theorem tw_1505 : (.constantLong RX12 193 (104) : Cond) ∈ cw_tb := List.mem_filter.mpr ⟨List.mem_of_getElem? (i := 1505) (by decide +kernel), rfl⟩
theorem tw_1506 : (.methodLink RX12 195 yX12_operand : Cond) ∈ cw_tb := List.mem_filter.mpr ⟨List.mem_of_getElem? (i := 1506) (by decide +kernel), rfl⟩
theorem tw_1508 : (.instanceMethod yX12_operand : Cond) ∈ cw_tb := List.mem_filter.mpr ⟨List.mem_of_getElem? (i := 1508) (by decide +kernel), rfl⟩
theorem tw_1509 : (.code yX12_operand cX12_operand 2 none : Cond) ∈ cw_tb := List.mem_filter.mpr ⟨List.mem_of_getElem? (i := 1509) (by decide +kernel), rfl⟩
theorem tw_1510 : (.methodLink RX12 173 yX12_pushLetter : Cond) ∈ cw_tb := List.mem_filter.mpr ⟨List.mem_of_getElem? (i := 1510) (by decide +kernel), rfl⟩
theorem tw_1512 : (.instanceMethod yX12_pushLetter : Cond) ∈ cw_tb := List.mem_filter.mpr ⟨List.mem_of_getElem? (i := 1512) (by decide +kernel), rfl⟩
theorem tw_1513 : (.code yX12_pushLetter cX12_pushLetter 6 none : Cond) ∈ cw_tb := List.mem_filter.mpr ⟨List.mem_of_getElem? (i := 1513) (by decide +kernel), rfl⟩
theorem tw_1514 : (.methodLink RX12 158 yX12_hasBit : Cond) ∈ cw_tb := List.mem_filter.mpr ⟨List.mem_of_getElem? (i := 1514) (by decide +kernel), rfl⟩
theorem tw_1515 : (.static yX12_hasBit : Cond) ∈ cw_tb := List.mem_filter.mpr ⟨List.mem_of_getElem? (i := 1515) (by decide +kernel), rfl⟩
theorem tw_1516 : (.code yX12_hasBit cX12_hasBit 3 (some .boolean) : Cond) ∈ cw_tb := List.mem_filter.mpr ⟨List.mem_of_getElem? (i := 1516) (by decide +kernel), rfl⟩
theorem tw_1517 : (.methodLink RX12 177 yX12_pushAll : Cond) ∈ cw_tb := List.mem_filter.mpr ⟨List.mem_of_getElem? (i := 1517) (by decide +kernel), rfl⟩
theorem tw_1519 : (.instanceMethod yX12_pushAll : Cond) ∈ cw_tb := List.mem_filter.mpr ⟨List.mem_of_getElem? (i := 1519) (by decide +kernel), rfl⟩
theorem tw_1520 : (.code yX12_pushAll cX12_pushAll 3 none : Cond) ∈ cw_tb := List.mem_filter.mpr ⟨List.mem_of_getElem? (i := 1520) (by decide +kernel), rfl⟩
theorem tw_1521 : (.constantLong RX12 165 (-1) : Cond) ∈ cw_tb := List.mem_filter.mpr ⟨List.mem_of_getElem? (i := 1521) (by decide +kernel), rfl⟩
theorem tw_1522 : (.methodLink RX12 181 yX12_turned : Cond) ∈ cw_tb := List.mem_filter.mpr ⟨List.mem_of_getElem? (i := 1522) (by decide +kernel), rfl⟩
theorem tw_1524 : (.instanceMethod yX12_turned : Cond) ∈ cw_tb := List.mem_filter.mpr ⟨List.mem_of_getElem? (i := 1524) (by decide +kernel), rfl⟩
theorem tw_1525 : (.code yX12_turned cX12_turned 1 none : Cond) ∈ cw_tb := List.mem_filter.mpr ⟨List.mem_of_getElem? (i := 1525) (by decide +kernel), rfl⟩
theorem tw_1526 : (.methodLink RX12 170 yX12_turnTop : Cond) ∈ cw_tb := List.mem_filter.mpr ⟨List.mem_of_getElem? (i := 1526) (by decide +kernel), rfl⟩
theorem tw_1528 : (.instanceMethod yX12_turnTop : Cond) ∈ cw_tb := List.mem_filter.mpr ⟨List.mem_of_getElem? (i := 1528) (by decide +kernel), rfl⟩
theorem tw_1529 : (.code yX12_turnTop cX12_turnTop 2 none : Cond) ∈ cw_tb := List.mem_filter.mpr ⟨List.mem_of_getElem? (i := 1529) (by decide +kernel), rfl⟩
theorem tw_1530 : (.methodLink RX12 198 yX12_operator : Cond) ∈ cw_tb := List.mem_filter.mpr ⟨List.mem_of_getElem? (i := 1530) (by decide +kernel), rfl⟩
theorem tw_1532 : (.instanceMethod yX12_operator : Cond) ∈ cw_tb := List.mem_filter.mpr ⟨List.mem_of_getElem? (i := 1532) (by decide +kernel), rfl⟩
theorem tw_1533 : (.code yX12_operator cX12_operator 2 none : Cond) ∈ cw_tb := List.mem_filter.mpr ⟨List.mem_of_getElem? (i := 1533) (by decide +kernel), rfl⟩
theorem tw_1534 : (.methodLink RX12 184 yX12_tight : Cond) ∈ cw_tb := List.mem_filter.mpr ⟨List.mem_of_getElem? (i := 1534) (by decide +kernel), rfl⟩
theorem tw_1535 : (.static yX12_tight : Cond) ∈ cw_tb := List.mem_filter.mpr ⟨List.mem_of_getElem? (i := 1535) (by decide +kernel), rfl⟩
theorem tw_1536 : (.code yX12_tight cX12_tight 1 (some .int) : Cond) ∈ cw_tb := List.mem_filter.mpr ⟨List.mem_of_getElem? (i := 1536) (by decide +kernel), rfl⟩
theorem tw_1537 : (.methodLink RX12 188 yX12_reduce : Cond) ∈ cw_tb := List.mem_filter.mpr ⟨List.mem_of_getElem? (i := 1537) (by decide +kernel), rfl⟩
theorem tw_1539 : (.instanceMethod yX12_reduce : Cond) ∈ cw_tb := List.mem_filter.mpr ⟨List.mem_of_getElem? (i := 1539) (by decide +kernel), rfl⟩
theorem tw_1540 : (.code yX12_reduce cX12_reduce 7 none : Cond) ∈ cw_tb := List.mem_filter.mpr ⟨List.mem_of_getElem? (i := 1540) (by decide +kernel), rfl⟩
theorem tw_1545 : (.constantLong RX12 221 (4) : Cond) ∈ cw_tb := List.mem_filter.mpr ⟨List.mem_of_getElem? (i := 1545) (by decide +kernel), rfl⟩
theorem tw_1546 : (.methodLink RX12 223 yX12_noSentence : Cond) ∈ cw_tb := List.mem_filter.mpr ⟨List.mem_of_getElem? (i := 1546) (by decide +kernel), rfl⟩
theorem tw_1548 : (.instanceMethod yX12_noSentence : Cond) ∈ cw_tb := List.mem_filter.mpr ⟨List.mem_of_getElem? (i := 1548) (by decide +kernel), rfl⟩
theorem tw_1549 : (.code yX12_noSentence cX12_noSentence 2 (some .boolean) : Cond) ∈ cw_tb := List.mem_filter.mpr ⟨List.mem_of_getElem? (i := 1549) (by decide +kernel), rfl⟩
theorem tw_1554 : (.methodLink RX12 230 yX12_countAt : Cond) ∈ cw_tb := List.mem_filter.mpr ⟨List.mem_of_getElem? (i := 1554) (by decide +kernel), rfl⟩
theorem tw_1556 : (.instanceMethod yX12_countAt : Cond) ∈ cw_tb := List.mem_filter.mpr ⟨List.mem_of_getElem? (i := 1556) (by decide +kernel), rfl⟩
theorem tw_1557 : (.code yX12_countAt cX12_countAt 4 (some .int) : Cond) ∈ cw_tb := List.mem_filter.mpr ⟨List.mem_of_getElem? (i := 1557) (by decide +kernel), rfl⟩
theorem tw_1558 : (.methodLink RX12 226 yX12_countBits : Cond) ∈ cw_tb := List.mem_filter.mpr ⟨List.mem_of_getElem? (i := 1558) (by decide +kernel), rfl⟩
theorem tw_1559 : (.static yX12_countBits : Cond) ∈ cw_tb := List.mem_filter.mpr ⟨List.mem_of_getElem? (i := 1559) (by decide +kernel), rfl⟩
theorem tw_1560 : (.code yX12_countBits cX12_countBits 4 (some .int) : Cond) ∈ cw_tb := List.mem_filter.mpr ⟨List.mem_of_getElem? (i := 1560) (by decide +kernel), rfl⟩
theorem tw_1565 : (.constantLong RX12 233 (255) : Cond) ∈ cw_tb := List.mem_filter.mpr ⟨List.mem_of_getElem? (i := 1565) (by decide +kernel), rfl⟩
theorem tw_1570 : (.methodLink RX12 235 yX12_isWithin : Cond) ∈ cw_tb := List.mem_filter.mpr ⟨List.mem_of_getElem? (i := 1570) (by decide +kernel), rfl⟩
theorem tw_1572 : (.instanceMethod yX12_isWithin : Cond) ∈ cw_tb := List.mem_filter.mpr ⟨List.mem_of_getElem? (i := 1572) (by decide +kernel), rfl⟩
theorem tw_1573 : (.code yX12_isWithin cX12_isWithin 5 (some .boolean) : Cond) ∈ cw_tb := List.mem_filter.mpr ⟨List.mem_of_getElem? (i := 1573) (by decide +kernel), rfl⟩
theorem tw_1574 : (.methodLink RX12 239 yX12_areApart : Cond) ∈ cw_tb := List.mem_filter.mpr ⟨List.mem_of_getElem? (i := 1574) (by decide +kernel), rfl⟩
theorem tw_1576 : (.instanceMethod yX12_areApart : Cond) ∈ cw_tb := List.mem_filter.mpr ⟨List.mem_of_getElem? (i := 1576) (by decide +kernel), rfl⟩
theorem tw_1577 : (.code yX12_areApart cX12_areApart 5 (some .boolean) : Cond) ∈ cw_tb := List.mem_filter.mpr ⟨List.mem_of_getElem? (i := 1577) (by decide +kernel), rfl⟩
theorem tw_1582 : (.methodLink RX12 242 yX12_noSource : Cond) ∈ cw_tb := List.mem_filter.mpr ⟨List.mem_of_getElem? (i := 1582) (by decide +kernel), rfl⟩
theorem tw_1583 : (.static yX12_noSource : Cond) ∈ cw_tb := List.mem_filter.mpr ⟨List.mem_of_getElem? (i := 1583) (by decide +kernel), rfl⟩
theorem tw_1584 : (.code yX12_noSource cX12_noSource 1 (some .boolean) : Cond) ∈ cw_tb := List.mem_filter.mpr ⟨List.mem_of_getElem? (i := 1584) (by decide +kernel), rfl⟩
theorem tw_1585 : (.constantLong RX12 156 (5) : Cond) ∈ cw_tb := List.mem_filter.mpr ⟨List.mem_of_getElem? (i := 1585) (by decide +kernel), rfl⟩
theorem tw_1586 : (.constantLong RX12 245 (9) : Cond) ∈ cw_tb := List.mem_filter.mpr ⟨List.mem_of_getElem? (i := 1586) (by decide +kernel), rfl⟩
theorem tw_1587 : (.methodLink RX12 247 yX12_otherView : Cond) ∈ cw_tb := List.mem_filter.mpr ⟨List.mem_of_getElem? (i := 1587) (by decide +kernel), rfl⟩
theorem tw_1589 : (.instanceMethod yX12_otherView : Cond) ∈ cw_tb := List.mem_filter.mpr ⟨List.mem_of_getElem? (i := 1589) (by decide +kernel), rfl⟩
theorem tw_1590 : (.code yX12_otherView cX12_otherView 1 none : Cond) ∈ cw_tb := List.mem_filter.mpr ⟨List.mem_of_getElem? (i := 1590) (by decide +kernel), rfl⟩
theorem tw_1595 : (.constantLong RX12 302 (99) : Cond) ∈ cw_tb := List.mem_filter.mpr ⟨List.mem_of_getElem? (i := 1595) (by decide +kernel), rfl⟩
theorem tw_1596 : (.methodLink RX12 304 yX12_addEntry : Cond) ∈ cw_tb := List.mem_filter.mpr ⟨List.mem_of_getElem? (i := 1596) (by decide +kernel), rfl⟩
theorem tw_1598 : (.instanceMethod yX12_addEntry : Cond) ∈ cw_tb := List.mem_filter.mpr ⟨List.mem_of_getElem? (i := 1598) (by decide +kernel), rfl⟩
theorem tw_1599 : (.code yX12_addEntry cX12_addEntry 6 (some .int) : Cond) ∈ cw_tb := List.mem_filter.mpr ⟨List.mem_of_getElem? (i := 1599) (by decide +kernel), rfl⟩
theorem tw_1604 : (.methodLink RX12 308 yX12_lay : Cond) ∈ cw_tb := List.mem_filter.mpr ⟨List.mem_of_getElem? (i := 1604) (by decide +kernel), rfl⟩
theorem tw_1606 : (.instanceMethod yX12_lay : Cond) ∈ cw_tb := List.mem_filter.mpr ⟨List.mem_of_getElem? (i := 1606) (by decide +kernel), rfl⟩
theorem tw_1607 : (.code yX12_lay cX12_lay 3 none : Cond) ∈ cw_tb := List.mem_filter.mpr ⟨List.mem_of_getElem? (i := 1607) (by decide +kernel), rfl⟩
theorem tw_1608 : (.methodLink RX12 278 yX12_layWorlds : Cond) ∈ cw_tb := List.mem_filter.mpr ⟨List.mem_of_getElem? (i := 1608) (by decide +kernel), rfl⟩
theorem tw_1610 : (.instanceMethod yX12_layWorlds : Cond) ∈ cw_tb := List.mem_filter.mpr ⟨List.mem_of_getElem? (i := 1610) (by decide +kernel), rfl⟩
theorem tw_1611 : (.code yX12_layWorlds cX12_layWorlds 4 none : Cond) ∈ cw_tb := List.mem_filter.mpr ⟨List.mem_of_getElem? (i := 1611) (by decide +kernel), rfl⟩
theorem tw_1612 : (.methodLink RX12 281 yX12_isInView : Cond) ∈ cw_tb := List.mem_filter.mpr ⟨List.mem_of_getElem? (i := 1612) (by decide +kernel), rfl⟩
theorem tw_1614 : (.instanceMethod yX12_isInView : Cond) ∈ cw_tb := List.mem_filter.mpr ⟨List.mem_of_getElem? (i := 1614) (by decide +kernel), rfl⟩
theorem tw_1615 : (.code yX12_isInView cX12_isInView 2 (some .boolean) : Cond) ∈ cw_tb := List.mem_filter.mpr ⟨List.mem_of_getElem? (i := 1615) (by decide +kernel), rfl⟩
theorem tw_1616 : (.methodLink RX12 296 yX12_isHarmony : Cond) ∈ cw_tb := List.mem_filter.mpr ⟨List.mem_of_getElem? (i := 1616) (by decide +kernel), rfl⟩
theorem tw_1618 : (.instanceMethod yX12_isHarmony : Cond) ∈ cw_tb := List.mem_filter.mpr ⟨List.mem_of_getElem? (i := 1618) (by decide +kernel), rfl⟩
theorem tw_1619 : (.code yX12_isHarmony cX12_isHarmony 4 (some .boolean) : Cond) ∈ cw_tb := List.mem_filter.mpr ⟨List.mem_of_getElem? (i := 1619) (by decide +kernel), rfl⟩
theorem tw_1620 : (.methodLink RX12 272 yX12_hasWorld : Cond) ∈ cw_tb := List.mem_filter.mpr ⟨List.mem_of_getElem? (i := 1620) (by decide +kernel), rfl⟩
theorem tw_1622 : (.instanceMethod yX12_hasWorld : Cond) ∈ cw_tb := List.mem_filter.mpr ⟨List.mem_of_getElem? (i := 1622) (by decide +kernel), rfl⟩
theorem tw_1623 : (.code yX12_hasWorld cX12_hasWorld 4 (some .boolean) : Cond) ∈ cw_tb := List.mem_filter.mpr ⟨List.mem_of_getElem? (i := 1623) (by decide +kernel), rfl⟩
theorem tw_1624 : (.methodLink RX12 299 yX12_weightOf : Cond) ∈ cw_tb := List.mem_filter.mpr ⟨List.mem_of_getElem? (i := 1624) (by decide +kernel), rfl⟩
theorem tw_1626 : (.instanceMethod yX12_weightOf : Cond) ∈ cw_tb := List.mem_filter.mpr ⟨List.mem_of_getElem? (i := 1626) (by decide +kernel), rfl⟩
theorem tw_1627 : (.code yX12_weightOf cX12_weightOf 4 (some .int) : Cond) ∈ cw_tb := List.mem_filter.mpr ⟨List.mem_of_getElem? (i := 1627) (by decide +kernel), rfl⟩
theorem tw_1632 : (.methodLink RX12 311 yX12_noEntry : Cond) ∈ cw_tb := List.mem_filter.mpr ⟨List.mem_of_getElem? (i := 1632) (by decide +kernel), rfl⟩
theorem tw_1634 : (.instanceMethod yX12_noEntry : Cond) ∈ cw_tb := List.mem_filter.mpr ⟨List.mem_of_getElem? (i := 1634) (by decide +kernel), rfl⟩
theorem tw_1635 : (.code yX12_noEntry cX12_noEntry 2 (some .boolean) : Cond) ∈ cw_tb := List.mem_filter.mpr ⟨List.mem_of_getElem? (i := 1635) (by decide +kernel), rfl⟩
theorem tw_1636 : (.methodLink RX12 314 yX12_harmoniesWith : Cond) ∈ cw_tb := List.mem_filter.mpr ⟨List.mem_of_getElem? (i := 1636) (by decide +kernel), rfl⟩
theorem tw_1638 : (.instanceMethod yX12_harmoniesWith : Cond) ∈ cw_tb := List.mem_filter.mpr ⟨List.mem_of_getElem? (i := 1638) (by decide +kernel), rfl⟩
theorem tw_1639 : (.code yX12_harmoniesWith cX12_harmoniesWith 4 (some .int) : Cond) ∈ cw_tb := List.mem_filter.mpr ⟨List.mem_of_getElem? (i := 1639) (by decide +kernel), rfl⟩
theorem tw_1648 : (.methodLink RX12 317 yX12_isEntrySet : Cond) ∈ cw_tb := List.mem_filter.mpr ⟨List.mem_of_getElem? (i := 1648) (by decide +kernel), rfl⟩
theorem tw_1650 : (.instanceMethod yX12_isEntrySet : Cond) ∈ cw_tb := List.mem_filter.mpr ⟨List.mem_of_getElem? (i := 1650) (by decide +kernel), rfl⟩
theorem tw_1651 : (.code yX12_isEntrySet cX12_isEntrySet 2 (some .boolean) : Cond) ∈ cw_tb := List.mem_filter.mpr ⟨List.mem_of_getElem? (i := 1651) (by decide +kernel), rfl⟩
theorem tw_1656 : (.methodLink RX12 320 yX12_countWorlds : Cond) ∈ cw_tb := List.mem_filter.mpr ⟨List.mem_of_getElem? (i := 1656) (by decide +kernel), rfl⟩
theorem tw_1658 : (.instanceMethod yX12_countWorlds : Cond) ∈ cw_tb := List.mem_filter.mpr ⟨List.mem_of_getElem? (i := 1658) (by decide +kernel), rfl⟩
theorem tw_1659 : (.code yX12_countWorlds cX12_countWorlds 4 (some .int) : Cond) ∈ cw_tb := List.mem_filter.mpr ⟨List.mem_of_getElem? (i := 1659) (by decide +kernel), rfl⟩
theorem tw_1664 : (.methodLink RX12 330 yX12_reasonAt : Cond) ∈ cw_tb := List.mem_filter.mpr ⟨List.mem_of_getElem? (i := 1664) (by decide +kernel), rfl⟩
theorem tw_1666 : (.instanceMethod yX12_reasonAt : Cond) ∈ cw_tb := List.mem_filter.mpr ⟨List.mem_of_getElem? (i := 1666) (by decide +kernel), rfl⟩
theorem tw_1667 : (.code yX12_reasonAt cX12_reasonAt 6 (some .int) : Cond) ∈ cw_tb := List.mem_filter.mpr ⟨List.mem_of_getElem? (i := 1667) (by decide +kernel), rfl⟩
theorem tw_1668 : (.methodLink RX12 327 yX12_isReason : Cond) ∈ cw_tb := List.mem_filter.mpr ⟨List.mem_of_getElem? (i := 1668) (by decide +kernel), rfl⟩
theorem tw_1670 : (.instanceMethod yX12_isReason : Cond) ∈ cw_tb := List.mem_filter.mpr ⟨List.mem_of_getElem? (i := 1670) (by decide +kernel), rfl⟩
theorem tw_1671 : (.code yX12_isReason cX12_isReason 6 (some .boolean) : Cond) ∈ cw_tb := List.mem_filter.mpr ⟨List.mem_of_getElem? (i := 1671) (by decide +kernel), rfl⟩
theorem tw_1672 : (.methodLink RX12 323 yX12_follows : Cond) ∈ cw_tb := List.mem_filter.mpr ⟨List.mem_of_getElem? (i := 1672) (by decide +kernel), rfl⟩
theorem tw_1674 : (.instanceMethod yX12_follows : Cond) ∈ cw_tb := List.mem_filter.mpr ⟨List.mem_of_getElem? (i := 1674) (by decide +kernel), rfl⟩
theorem tw_1675 : (.code yX12_follows cX12_follows 8 (some .boolean) : Cond) ∈ cw_tb := List.mem_filter.mpr ⟨List.mem_of_getElem? (i := 1675) (by decide +kernel), rfl⟩
theorem tw_1692 : (.methodLink RX12 334 yX12_followers : Cond) ∈ cw_tb := List.mem_filter.mpr ⟨List.mem_of_getElem? (i := 1692) (by decide +kernel), rfl⟩
theorem tw_1694 : (.instanceMethod yX12_followers : Cond) ∈ cw_tb := List.mem_filter.mpr ⟨List.mem_of_getElem? (i := 1694) (by decide +kernel), rfl⟩
theorem tw_1695 : (.code yX12_followers cX12_followers 5 (some .int) : Cond) ∈ cw_tb := List.mem_filter.mpr ⟨List.mem_of_getElem? (i := 1695) (by decide +kernel), rfl⟩
theorem tw_1700 : (.methodLink RX12 341 yX12_cutAt : Cond) ∈ cw_tb := List.mem_filter.mpr ⟨List.mem_of_getElem? (i := 1700) (by decide +kernel), rfl⟩
theorem tw_1702 : (.instanceMethod yX12_cutAt : Cond) ∈ cw_tb := List.mem_filter.mpr ⟨List.mem_of_getElem? (i := 1702) (by decide +kernel), rfl⟩
theorem tw_1703 : (.code yX12_cutAt cX12_cutAt 5 (some .int) : Cond) ∈ cw_tb := List.mem_filter.mpr ⟨List.mem_of_getElem? (i := 1703) (by decide +kernel), rfl⟩
theorem tw_1704 : (.methodLink RX12 338 yX12_isCut : Cond) ∈ cw_tb := List.mem_filter.mpr ⟨List.mem_of_getElem? (i := 1704) (by decide +kernel), rfl⟩
theorem tw_1706 : (.instanceMethod yX12_isCut : Cond) ∈ cw_tb := List.mem_filter.mpr ⟨List.mem_of_getElem? (i := 1706) (by decide +kernel), rfl⟩
theorem tw_1707 : (.code yX12_isCut cX12_isCut 6 (some .boolean) : Cond) ∈ cw_tb := List.mem_filter.mpr ⟨List.mem_of_getElem? (i := 1707) (by decide +kernel), rfl⟩
theorem tw_1713 : (.instanceMethod yX12_least : Cond) ∈ cw_tb := List.mem_filter.mpr ⟨List.mem_of_getElem? (i := 1713) (by decide +kernel), rfl⟩
theorem tw_1714 : (.selects RX12 yX12_least yX12_least : Cond) ∈ cw_tb := List.mem_filter.mpr ⟨List.mem_of_getElem? (i := 1714) (by decide +kernel), rfl⟩
theorem tw_1715 : (.code yX12_least cX12_least 2 (some .int) : Cond) ∈ cw_tb := List.mem_filter.mpr ⟨List.mem_of_getElem? (i := 1715) (by decide +kernel), rfl⟩
theorem tw_1716 : (.methodLink RX12 344 yX12_leastCut : Cond) ∈ cw_tb := List.mem_filter.mpr ⟨List.mem_of_getElem? (i := 1716) (by decide +kernel), rfl⟩
theorem tw_1718 : (.instanceMethod yX12_leastCut : Cond) ∈ cw_tb := List.mem_filter.mpr ⟨List.mem_of_getElem? (i := 1718) (by decide +kernel), rfl⟩
theorem tw_1719 : (.code yX12_leastCut cX12_leastCut 6 (some .int) : Cond) ∈ cw_tb := List.mem_filter.mpr ⟨List.mem_of_getElem? (i := 1719) (by decide +kernel), rfl⟩
theorem tw_1724 : (.methodLink RX12 347 yX12_least : Cond) ∈ cw_tb := List.mem_filter.mpr ⟨List.mem_of_getElem? (i := 1724) (by decide +kernel), rfl⟩
theorem tw_1725 : (.methodLink RX12 350 yX12_giveAll : Cond) ∈ cw_tb := List.mem_filter.mpr ⟨List.mem_of_getElem? (i := 1725) (by decide +kernel), rfl⟩
theorem tw_1727 : (.instanceMethod yX12_giveAll : Cond) ∈ cw_tb := List.mem_filter.mpr ⟨List.mem_of_getElem? (i := 1727) (by decide +kernel), rfl⟩
theorem tw_1728 : (.code yX12_giveAll cX12_giveAll 3 none : Cond) ∈ cw_tb := List.mem_filter.mpr ⟨List.mem_of_getElem? (i := 1728) (by decide +kernel), rfl⟩
theorem tw_1737 : (.methodLink RX12 355 yX12_isOfReason : Cond) ∈ cw_tb := List.mem_filter.mpr ⟨List.mem_of_getElem? (i := 1737) (by decide +kernel), rfl⟩
theorem tw_1739 : (.instanceMethod yX12_isOfReason : Cond) ∈ cw_tb := List.mem_filter.mpr ⟨List.mem_of_getElem? (i := 1739) (by decide +kernel), rfl⟩
theorem tw_1740 : (.code yX12_isOfReason cX12_isOfReason 5 (some .boolean) : Cond) ∈ cw_tb := List.mem_filter.mpr ⟨List.mem_of_getElem? (i := 1740) (by decide +kernel), rfl⟩
theorem tw_1749 : (.methodLink RX12 385 yX12_noRule : Cond) ∈ cw_tb := List.mem_filter.mpr ⟨List.mem_of_getElem? (i := 1749) (by decide +kernel), rfl⟩
theorem tw_1751 : (.instanceMethod yX12_noRule : Cond) ∈ cw_tb := List.mem_filter.mpr ⟨List.mem_of_getElem? (i := 1751) (by decide +kernel), rfl⟩
theorem tw_1752 : (.code yX12_noRule cX12_noRule 2 (some .boolean) : Cond) ∈ cw_tb := List.mem_filter.mpr ⟨List.mem_of_getElem? (i := 1752) (by decide +kernel), rfl⟩
theorem tw_1753 : (.methodLink RX12 388 yX12_layRules : Cond) ∈ cw_tb := List.mem_filter.mpr ⟨List.mem_of_getElem? (i := 1753) (by decide +kernel), rfl⟩
theorem tw_1755 : (.instanceMethod yX12_layRules : Cond) ∈ cw_tb := List.mem_filter.mpr ⟨List.mem_of_getElem? (i := 1755) (by decide +kernel), rfl⟩
theorem tw_1756 : (.code yX12_layRules cX12_layRules 4 none : Cond) ∈ cw_tb := List.mem_filter.mpr ⟨List.mem_of_getElem? (i := 1756) (by decide +kernel), rfl⟩
theorem tw_1757 : (.methodLink RX12 379 yX12_isExtension : Cond) ∈ cw_tb := List.mem_filter.mpr ⟨List.mem_of_getElem? (i := 1757) (by decide +kernel), rfl⟩
theorem tw_1759 : (.instanceMethod yX12_isExtension : Cond) ∈ cw_tb := List.mem_filter.mpr ⟨List.mem_of_getElem? (i := 1759) (by decide +kernel), rfl⟩
theorem tw_1760 : (.code yX12_isExtension cX12_isExtension 4 (some .boolean) : Cond) ∈ cw_tb := List.mem_filter.mpr ⟨List.mem_of_getElem? (i := 1760) (by decide +kernel), rfl⟩
theorem tw_1761 : (.methodLink RX12 364 yX12_layE : Cond) ∈ cw_tb := List.mem_filter.mpr ⟨List.mem_of_getElem? (i := 1761) (by decide +kernel), rfl⟩
theorem tw_1763 : (.instanceMethod yX12_layE : Cond) ∈ cw_tb := List.mem_filter.mpr ⟨List.mem_of_getElem? (i := 1763) (by decide +kernel), rfl⟩
theorem tw_1764 : (.code yX12_layE cX12_layE 6 none : Cond) ∈ cw_tb := List.mem_filter.mpr ⟨List.mem_of_getElem? (i := 1764) (by decide +kernel), rfl⟩
theorem tw_1765 : (.methodLink RX12 367 yX12_goes : Cond) ∈ cw_tb := List.mem_filter.mpr ⟨List.mem_of_getElem? (i := 1765) (by decide +kernel), rfl⟩
theorem tw_1767 : (.instanceMethod yX12_goes : Cond) ∈ cw_tb := List.mem_filter.mpr ⟨List.mem_of_getElem? (i := 1767) (by decide +kernel), rfl⟩
theorem tw_1768 : (.code yX12_goes cX12_goes 4 (some .boolean) : Cond) ∈ cw_tb := List.mem_filter.mpr ⟨List.mem_of_getElem? (i := 1768) (by decide +kernel), rfl⟩
theorem tw_1769 : (.methodLink RX12 361 yX12_followsE : Cond) ∈ cw_tb := List.mem_filter.mpr ⟨List.mem_of_getElem? (i := 1769) (by decide +kernel), rfl⟩
theorem tw_1771 : (.instanceMethod yX12_followsE : Cond) ∈ cw_tb := List.mem_filter.mpr ⟨List.mem_of_getElem? (i := 1771) (by decide +kernel), rfl⟩
theorem tw_1772 : (.code yX12_followsE cX12_followsE 4 (some .boolean) : Cond) ∈ cw_tb := List.mem_filter.mpr ⟨List.mem_of_getElem? (i := 1772) (by decide +kernel), rfl⟩
theorem tw_1773 : (.methodLink RX12 370 yX12_isGrounded : Cond) ∈ cw_tb := List.mem_filter.mpr ⟨List.mem_of_getElem? (i := 1773) (by decide +kernel), rfl⟩
theorem tw_1775 : (.instanceMethod yX12_isGrounded : Cond) ∈ cw_tb := List.mem_filter.mpr ⟨List.mem_of_getElem? (i := 1775) (by decide +kernel), rfl⟩
theorem tw_1776 : (.code yX12_isGrounded cX12_isGrounded 6 (some .boolean) : Cond) ∈ cw_tb := List.mem_filter.mpr ⟨List.mem_of_getElem? (i := 1776) (by decide +kernel), rfl⟩
theorem tw_1777 : (.methodLink RX12 382 yX12_compareRanks : Cond) ∈ cw_tb := List.mem_filter.mpr ⟨List.mem_of_getElem? (i := 1777) (by decide +kernel), rfl⟩
theorem tw_1779 : (.instanceMethod yX12_compareRanks : Cond) ∈ cw_tb := List.mem_filter.mpr ⟨List.mem_of_getElem? (i := 1779) (by decide +kernel), rfl⟩
theorem tw_1780 : (.code yX12_compareRanks cX12_compareRanks 6 (some .int) : Cond) ∈ cw_tb := List.mem_filter.mpr ⟨List.mem_of_getElem? (i := 1780) (by decide +kernel), rfl⟩
theorem tw_1781 : (.methodLink RX12 391 yX12_extensionsWith : Cond) ∈ cw_tb := List.mem_filter.mpr ⟨List.mem_of_getElem? (i := 1781) (by decide +kernel), rfl⟩
theorem tw_1783 : (.instanceMethod yX12_extensionsWith : Cond) ∈ cw_tb := List.mem_filter.mpr ⟨List.mem_of_getElem? (i := 1783) (by decide +kernel), rfl⟩
theorem tw_1784 : (.code yX12_extensionsWith cX12_extensionsWith 4 (some .int) : Cond) ∈ cw_tb := List.mem_filter.mpr ⟨List.mem_of_getElem? (i := 1784) (by decide +kernel), rfl⟩
theorem tw_1785 : (.methodLink RX12 394 yX12_circleOf : Cond) ∈ cw_tb := List.mem_filter.mpr ⟨List.mem_of_getElem? (i := 1785) (by decide +kernel), rfl⟩
theorem tw_1787 : (.instanceMethod yX12_circleOf : Cond) ∈ cw_tb := List.mem_filter.mpr ⟨List.mem_of_getElem? (i := 1787) (by decide +kernel), rfl⟩
theorem tw_1788 : (.code yX12_circleOf cX12_circleOf 6 (some .int) : Cond) ∈ cw_tb := List.mem_filter.mpr ⟨List.mem_of_getElem? (i := 1788) (by decide +kernel), rfl⟩
theorem tw_1797 : (.methodLink RX12 397 yX12_countE : Cond) ∈ cw_tb := List.mem_filter.mpr ⟨List.mem_of_getElem? (i := 1797) (by decide +kernel), rfl⟩
theorem tw_1799 : (.instanceMethod yX12_countE : Cond) ∈ cw_tb := List.mem_filter.mpr ⟨List.mem_of_getElem? (i := 1799) (by decide +kernel), rfl⟩
theorem tw_1800 : (.code yX12_countE cX12_countE 3 (some .int) : Cond) ∈ cw_tb := List.mem_filter.mpr ⟨List.mem_of_getElem? (i := 1800) (by decide +kernel), rfl⟩
theorem tw_1813 : (.methodLink RX12 404 yX12_noClaim : Cond) ∈ cw_tb := List.mem_filter.mpr ⟨List.mem_of_getElem? (i := 1813) (by decide +kernel), rfl⟩
theorem tw_1815 : (.instanceMethod yX12_noClaim : Cond) ∈ cw_tb := List.mem_filter.mpr ⟨List.mem_of_getElem? (i := 1815) (by decide +kernel), rfl⟩
theorem tw_1816 : (.code yX12_noClaim cX12_noClaim 2 (some .boolean) : Cond) ∈ cw_tb := List.mem_filter.mpr ⟨List.mem_of_getElem? (i := 1816) (by decide +kernel), rfl⟩
theorem tw_1817 : (.methodLink RX12 407 yX12_doesStrike : Cond) ∈ cw_tb := List.mem_filter.mpr ⟨List.mem_of_getElem? (i := 1817) (by decide +kernel), rfl⟩
theorem tw_1819 : (.instanceMethod yX12_doesStrike : Cond) ∈ cw_tb := List.mem_filter.mpr ⟨List.mem_of_getElem? (i := 1819) (by decide +kernel), rfl⟩
theorem tw_1820 : (.code yX12_doesStrike cX12_doesStrike 3 (some .boolean) : Cond) ∈ cw_tb := List.mem_filter.mpr ⟨List.mem_of_getElem? (i := 1820) (by decide +kernel), rfl⟩
theorem tw_1825 : (.methodLink RX12 443 yX12_layClaims : Cond) ∈ cw_tb := List.mem_filter.mpr ⟨List.mem_of_getElem? (i := 1825) (by decide +kernel), rfl⟩
theorem tw_1827 : (.instanceMethod yX12_layClaims : Cond) ∈ cw_tb := List.mem_filter.mpr ⟨List.mem_of_getElem? (i := 1827) (by decide +kernel), rfl⟩
theorem tw_1828 : (.code yX12_layClaims cX12_layClaims 3 none : Cond) ∈ cw_tb := List.mem_filter.mpr ⟨List.mem_of_getElem? (i := 1828) (by decide +kernel), rfl⟩
theorem tw_1829 : (.methodLink RX12 434 yX12_findStanding : Cond) ∈ cw_tb := List.mem_filter.mpr ⟨List.mem_of_getElem? (i := 1829) (by decide +kernel), rfl⟩
theorem tw_1831 : (.instanceMethod yX12_findStanding : Cond) ∈ cw_tb := List.mem_filter.mpr ⟨List.mem_of_getElem? (i := 1831) (by decide +kernel), rfl⟩
theorem tw_1832 : (.code yX12_findStanding cX12_findStanding 5 none : Cond) ∈ cw_tb := List.mem_filter.mpr ⟨List.mem_of_getElem? (i := 1832) (by decide +kernel), rfl⟩
theorem tw_1833 : (.methodLink RX12 416 yX12_defends : Cond) ∈ cw_tb := List.mem_filter.mpr ⟨List.mem_of_getElem? (i := 1833) (by decide +kernel), rfl⟩
theorem tw_1835 : (.instanceMethod yX12_defends : Cond) ∈ cw_tb := List.mem_filter.mpr ⟨List.mem_of_getElem? (i := 1835) (by decide +kernel), rfl⟩
theorem tw_1836 : (.code yX12_defends cX12_defends 3 (some .boolean) : Cond) ∈ cw_tb := List.mem_filter.mpr ⟨List.mem_of_getElem? (i := 1836) (by decide +kernel), rfl⟩
theorem tw_1837 : (.methodLink RX12 410 yX12_struckOf : Cond) ∈ cw_tb := List.mem_filter.mpr ⟨List.mem_of_getElem? (i := 1837) (by decide +kernel), rfl⟩
theorem tw_1839 : (.instanceMethod yX12_struckOf : Cond) ∈ cw_tb := List.mem_filter.mpr ⟨List.mem_of_getElem? (i := 1839) (by decide +kernel), rfl⟩
theorem tw_1840 : (.code yX12_struckOf cX12_struckOf 4 (some .int) : Cond) ∈ cw_tb := List.mem_filter.mpr ⟨List.mem_of_getElem? (i := 1840) (by decide +kernel), rfl⟩
theorem tw_1841 : (.methodLink RX12 437 yX12_findSets : Cond) ∈ cw_tb := List.mem_filter.mpr ⟨List.mem_of_getElem? (i := 1841) (by decide +kernel), rfl⟩
theorem tw_1843 : (.instanceMethod yX12_findSets : Cond) ∈ cw_tb := List.mem_filter.mpr ⟨List.mem_of_getElem? (i := 1843) (by decide +kernel), rfl⟩
theorem tw_1844 : (.code yX12_findSets cX12_findSets 5 none : Cond) ∈ cw_tb := List.mem_filter.mpr ⟨List.mem_of_getElem? (i := 1844) (by decide +kernel), rfl⟩
theorem tw_1845 : (.methodLink RX12 428 yX12_isSoundSet : Cond) ∈ cw_tb := List.mem_filter.mpr ⟨List.mem_of_getElem? (i := 1845) (by decide +kernel), rfl⟩
theorem tw_1847 : (.instanceMethod yX12_isSoundSet : Cond) ∈ cw_tb := List.mem_filter.mpr ⟨List.mem_of_getElem? (i := 1847) (by decide +kernel), rfl⟩
theorem tw_1848 : (.code yX12_isSoundSet cX12_isSoundSet 4 (some .boolean) : Cond) ∈ cw_tb := List.mem_filter.mpr ⟨List.mem_of_getElem? (i := 1848) (by decide +kernel), rfl⟩
theorem tw_1849 : (.methodLink RX12 440 yX12_findWins : Cond) ∈ cw_tb := List.mem_filter.mpr ⟨List.mem_of_getElem? (i := 1849) (by decide +kernel), rfl⟩
theorem tw_1851 : (.instanceMethod yX12_findWins : Cond) ∈ cw_tb := List.mem_filter.mpr ⟨List.mem_of_getElem? (i := 1851) (by decide +kernel), rfl⟩
theorem tw_1852 : (.code yX12_findWins cX12_findWins 3 none : Cond) ∈ cw_tb := List.mem_filter.mpr ⟨List.mem_of_getElem? (i := 1852) (by decide +kernel), rfl⟩
theorem tw_1853 : (.methodLink RX12 431 yX12_doesWin : Cond) ∈ cw_tb := List.mem_filter.mpr ⟨List.mem_of_getElem? (i := 1853) (by decide +kernel), rfl⟩
theorem tw_1855 : (.instanceMethod yX12_doesWin : Cond) ∈ cw_tb := List.mem_filter.mpr ⟨List.mem_of_getElem? (i := 1855) (by decide +kernel), rfl⟩
theorem tw_1856 : (.code yX12_doesWin cX12_doesWin 7 (some .boolean) : Cond) ∈ cw_tb := List.mem_filter.mpr ⟨List.mem_of_getElem? (i := 1856) (by decide +kernel), rfl⟩
theorem tw_1857 : (.methodLink RX12 446 yX12_among : Cond) ∈ cw_tb := List.mem_filter.mpr ⟨List.mem_of_getElem? (i := 1857) (by decide +kernel), rfl⟩
theorem tw_1859 : (.instanceMethod yX12_among : Cond) ∈ cw_tb := List.mem_filter.mpr ⟨List.mem_of_getElem? (i := 1859) (by decide +kernel), rfl⟩
theorem tw_1860 : (.code yX12_among cX12_among 5 (some .int) : Cond) ∈ cw_tb := List.mem_filter.mpr ⟨List.mem_of_getElem? (i := 1860) (by decide +kernel), rfl⟩
theorem tw_1861 : (.methodLink RX12 449 yX12_answerTo : Cond) ∈ cw_tb := List.mem_filter.mpr ⟨List.mem_of_getElem? (i := 1861) (by decide +kernel), rfl⟩
theorem tw_1863 : (.instanceMethod yX12_answerTo : Cond) ∈ cw_tb := List.mem_filter.mpr ⟨List.mem_of_getElem? (i := 1863) (by decide +kernel), rfl⟩
theorem tw_1864 : (.code yX12_answerTo cX12_answerTo 5 (some .int) : Cond) ∈ cw_tb := List.mem_filter.mpr ⟨List.mem_of_getElem? (i := 1864) (by decide +kernel), rfl⟩
theorem tw_1877 : (.methodLink RX12 462 yX12_layMerge : Cond) ∈ cw_tb := List.mem_filter.mpr ⟨List.mem_of_getElem? (i := 1877) (by decide +kernel), rfl⟩
theorem tw_1879 : (.instanceMethod yX12_layMerge : Cond) ∈ cw_tb := List.mem_filter.mpr ⟨List.mem_of_getElem? (i := 1879) (by decide +kernel), rfl⟩
theorem tw_1880 : (.code yX12_layMerge cX12_layMerge 3 none : Cond) ∈ cw_tb := List.mem_filter.mpr ⟨List.mem_of_getElem? (i := 1880) (by decide +kernel), rfl⟩
theorem tw_1881 : (.methodLink RX12 455 yX12_bookOf : Cond) ∈ cw_tb := List.mem_filter.mpr ⟨List.mem_of_getElem? (i := 1881) (by decide +kernel), rfl⟩
theorem tw_1883 : (.instanceMethod yX12_bookOf : Cond) ∈ cw_tb := List.mem_filter.mpr ⟨List.mem_of_getElem? (i := 1883) (by decide +kernel), rfl⟩
theorem tw_1884 : (.code yX12_bookOf cX12_bookOf 4 (some .int) : Cond) ∈ cw_tb := List.mem_filter.mpr ⟨List.mem_of_getElem? (i := 1884) (by decide +kernel), rfl⟩
theorem tw_1885 : (.methodLink RX12 458 yX12_layFars : Cond) ∈ cw_tb := List.mem_filter.mpr ⟨List.mem_of_getElem? (i := 1885) (by decide +kernel), rfl⟩
theorem tw_1887 : (.instanceMethod yX12_layFars : Cond) ∈ cw_tb := List.mem_filter.mpr ⟨List.mem_of_getElem? (i := 1887) (by decide +kernel), rfl⟩
theorem tw_1888 : (.code yX12_layFars cX12_layFars 9 none : Cond) ∈ cw_tb := List.mem_filter.mpr ⟨List.mem_of_getElem? (i := 1888) (by decide +kernel), rfl⟩
theorem tw_1897 : (.methodLink RX12 471 yX12_merge : Cond) ∈ cw_tb := List.mem_filter.mpr ⟨List.mem_of_getElem? (i := 1897) (by decide +kernel), rfl⟩
theorem tw_1899 : (.instanceMethod yX12_merge : Cond) ∈ cw_tb := List.mem_filter.mpr ⟨List.mem_of_getElem? (i := 1899) (by decide +kernel), rfl⟩
theorem tw_1900 : (.code yX12_merge cX12_merge 5 none : Cond) ∈ cw_tb := List.mem_filter.mpr ⟨List.mem_of_getElem? (i := 1900) (by decide +kernel), rfl⟩
theorem tw_1901 : (.methodLink RX12 465 yX12_layRow : Cond) ∈ cw_tb := List.mem_filter.mpr ⟨List.mem_of_getElem? (i := 1901) (by decide +kernel), rfl⟩
theorem tw_1903 : (.instanceMethod yX12_layRow : Cond) ∈ cw_tb := List.mem_filter.mpr ⟨List.mem_of_getElem? (i := 1903) (by decide +kernel), rfl⟩
theorem tw_1904 : (.code yX12_layRow cX12_layRow 7 none : Cond) ∈ cw_tb := List.mem_filter.mpr ⟨List.mem_of_getElem? (i := 1904) (by decide +kernel), rfl⟩
theorem tw_1905 : (.methodLink RX12 468 yX12_compareRows : Cond) ∈ cw_tb := List.mem_filter.mpr ⟨List.mem_of_getElem? (i := 1905) (by decide +kernel), rfl⟩
theorem tw_1907 : (.instanceMethod yX12_compareRows : Cond) ∈ cw_tb := List.mem_filter.mpr ⟨List.mem_of_getElem? (i := 1907) (by decide +kernel), rfl⟩
theorem tw_1908 : (.code yX12_compareRows cX12_compareRows 2 (some .int) : Cond) ∈ cw_tb := List.mem_filter.mpr ⟨List.mem_of_getElem? (i := 1908) (by decide +kernel), rfl⟩
theorem tw_1921 : (.methodLink RX12 474 yX12_noHold : Cond) ∈ cw_tb := List.mem_filter.mpr ⟨List.mem_of_getElem? (i := 1921) (by decide +kernel), rfl⟩
theorem tw_1922 : (.static yX12_noHold : Cond) ∈ cw_tb := List.mem_filter.mpr ⟨List.mem_of_getElem? (i := 1922) (by decide +kernel), rfl⟩
theorem tw_1923 : (.code yX12_noHold cX12_noHold 1 (some .boolean) : Cond) ∈ cw_tb := List.mem_filter.mpr ⟨List.mem_of_getElem? (i := 1923) (by decide +kernel), rfl⟩
theorem tw_1936 : (.methodLink RX12 480 yX12_traced : Cond) ∈ cw_tb := List.mem_filter.mpr ⟨List.mem_of_getElem? (i := 1936) (by decide +kernel), rfl⟩
theorem tw_1938 : (.instanceMethod yX12_traced : Cond) ∈ cw_tb := List.mem_filter.mpr ⟨List.mem_of_getElem? (i := 1938) (by decide +kernel), rfl⟩
theorem tw_1939 : (.code yX12_traced cX12_traced 2 none : Cond) ∈ cw_tb := List.mem_filter.mpr ⟨List.mem_of_getElem? (i := 1939) (by decide +kernel), rfl⟩
theorem tw_1956 : (.methodLink RX12 483 yX12_noCell : Cond) ∈ cw_tb := List.mem_filter.mpr ⟨List.mem_of_getElem? (i := 1956) (by decide +kernel), rfl⟩
theorem tw_1958 : (.instanceMethod yX12_noCell : Cond) ∈ cw_tb := List.mem_filter.mpr ⟨List.mem_of_getElem? (i := 1958) (by decide +kernel), rfl⟩
theorem tw_1959 : (.code yX12_noCell cX12_noCell 3 (some .int) : Cond) ∈ cw_tb := List.mem_filter.mpr ⟨List.mem_of_getElem? (i := 1959) (by decide +kernel), rfl⟩
theorem tw_1964 : (.methodLink RX12 145 yX12_lost : Cond) ∈ cw_tb := List.mem_filter.mpr ⟨List.mem_of_getElem? (i := 1964) (by decide +kernel), rfl⟩
theorem tw_1965 : (.static yX12_lost : Cond) ∈ cw_tb := List.mem_filter.mpr ⟨List.mem_of_getElem? (i := 1965) (by decide +kernel), rfl⟩
theorem tw_1966 : (.code yX12_lost cX12_lost 0 (some .long) : Cond) ∈ cw_tb := List.mem_filter.mpr ⟨List.mem_of_getElem? (i := 1966) (by decide +kernel), rfl⟩
theorem tw_1967 : (.constantLong RX12 140 (-9223372036854775808) : Cond) ∈ cw_tb := List.mem_filter.mpr ⟨List.mem_of_getElem? (i := 1967) (by decide +kernel), rfl⟩
theorem tw_1968 : (.methodLink RX12 486 yX12_failedLong : Cond) ∈ cw_tb := List.mem_filter.mpr ⟨List.mem_of_getElem? (i := 1968) (by decide +kernel), rfl⟩
theorem tw_1970 : (.instanceMethod yX12_failedLong : Cond) ∈ cw_tb := List.mem_filter.mpr ⟨List.mem_of_getElem? (i := 1970) (by decide +kernel), rfl⟩
theorem tw_1971 : (.code yX12_failedLong cX12_failedLong 2 (some .long) : Cond) ∈ cw_tb := List.mem_filter.mpr ⟨List.mem_of_getElem? (i := 1971) (by decide +kernel), rfl⟩
theorem tw_1991 : (.selects RX8 yX8_plainly yX8_plainly : Cond) ∈ cw_tb := List.mem_filter.mpr ⟨List.mem_of_getElem? (i := 1991) (by decide +kernel), rfl⟩
theorem tw_1992 : (.sameMethod "ReasonDesk$Barred" "ReasonDesk$Barred" "shown" "([I)I" : Cond) ∈ cw_tb := List.mem_filter.mpr ⟨List.mem_of_getElem? (i := 1992) (by decide +kernel), rfl⟩
