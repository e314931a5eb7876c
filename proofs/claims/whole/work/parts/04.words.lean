theorem q0 : Cond.selects "NineLands" yX3_refuse yX3_refuse ∈ tW := List.mem_filter.mpr ⟨List.mem_of_getElem? (i := 0) (by decide +kernel), by decide +kernel⟩
theorem q1 : Cond.selects "NineLands$Tape" yX2_readInto yX2_readInto ∈ tW := List.mem_filter.mpr ⟨List.mem_of_getElem? (i := 1) (by decide +kernel), by decide +kernel⟩
theorem q2 : Cond.selects "NineLands$Tape" yX2_readChoice yX2_readChoice ∈ tW := List.mem_filter.mpr ⟨List.mem_of_getElem? (i := 2) (by decide +kernel), by decide +kernel⟩
theorem q3 : Cond.selects "NineLands$Tape" yX2_readNumber yX2_readNumber ∈ tW := List.mem_filter.mpr ⟨List.mem_of_getElem? (i := 3) (by decide +kernel), by decide +kernel⟩
theorem q4 : Cond.selects "NineLands$Tape" yX2_readSign yX2_readSign ∈ tW := List.mem_filter.mpr ⟨List.mem_of_getElem? (i := 4) (by decide +kernel), by decide +kernel⟩
theorem q5 : Cond.selects "NineLands$Tape" yX2_readTill yX2_readTill ∈ tW := List.mem_filter.mpr ⟨List.mem_of_getElem? (i := 5) (by decide +kernel), by decide +kernel⟩
theorem q6 : Cond.selects "NineLands" yX3_isSpell yX3_isSpell ∈ tW := List.mem_filter.mpr ⟨List.mem_of_getElem? (i := 6) (by decide +kernel), by decide +kernel⟩
theorem q7 : Cond.selects "NineLands$Sums" yX1_reckon yX1_reckon ∈ tW := List.mem_filter.mpr ⟨List.mem_of_getElem? (i := 7) (by decide +kernel), by decide +kernel⟩
theorem q8 : Cond.selects "NineLands$Sums" yX1_clear yX1_clear ∈ tW := List.mem_filter.mpr ⟨List.mem_of_getElem? (i := 8) (by decide +kernel), by decide +kernel⟩
theorem q9 : Cond.selects "NineLands$Book" yX0_nextChange yX0_nextChange ∈ tW := List.mem_filter.mpr ⟨List.mem_of_getElem? (i := 9) (by decide +kernel), by decide +kernel⟩
theorem q10 : Cond.selects "NineLands$Sums" yX1_addStretch yX1_addStretch ∈ tW := List.mem_filter.mpr ⟨List.mem_of_getElem? (i := 10) (by decide +kernel), by decide +kernel⟩
theorem q11 : Cond.selects "NineLands$Book" yX0_payAt yX0_payAt ∈ tW := List.mem_filter.mpr ⟨List.mem_of_getElem? (i := 11) (by decide +kernel), by decide +kernel⟩
theorem q12 : Cond.selects "NineLands$Book" yX0_workCounts yX0_workCounts ∈ tW := List.mem_filter.mpr ⟨List.mem_of_getElem? (i := 12) (by decide +kernel), by decide +kernel⟩
theorem q13 : Cond.selects "NineLands$Book" yX0_isHeld yX0_isHeld ∈ tW := List.mem_filter.mpr ⟨List.mem_of_getElem? (i := 13) (by decide +kernel), by decide +kernel⟩
theorem q14 : Cond.selects "NineLands$Sums" yX1_addOwn yX1_addOwn ∈ tW := List.mem_filter.mpr ⟨List.mem_of_getElem? (i := 14) (by decide +kernel), by decide +kernel⟩
theorem q15 : Cond.selects "NineLands$Sums" yX1_addPut yX1_addPut ∈ tW := List.mem_filter.mpr ⟨List.mem_of_getElem? (i := 15) (by decide +kernel), by decide +kernel⟩
theorem q16 : Cond.selects "NineLands$Sums" yX1_payPut yX1_payPut ∈ tW := List.mem_filter.mpr ⟨List.mem_of_getElem? (i := 16) (by decide +kernel), by decide +kernel⟩
theorem q17 : Cond.selects "NineLands$Book" yX0_holders yX0_holders ∈ tW := List.mem_filter.mpr ⟨List.mem_of_getElem? (i := 17) (by decide +kernel), by decide +kernel⟩
theorem q18 : Cond.selects "NineLands$Sums" yX1_dueBy yX1_dueBy ∈ tW := List.mem_filter.mpr ⟨List.mem_of_getElem? (i := 18) (by decide +kernel), by decide +kernel⟩
theorem q19 : Cond.selects "NineLands$Sums" yX1_dueWhole yX1_dueWhole ∈ tW := List.mem_filter.mpr ⟨List.mem_of_getElem? (i := 19) (by decide +kernel), by decide +kernel⟩
theorem q20 : Cond.selects "NineLands$Sums" yX1_duePut yX1_duePut ∈ tW := List.mem_filter.mpr ⟨List.mem_of_getElem? (i := 20) (by decide +kernel), by decide +kernel⟩
theorem q21 : Cond.selects "NineLands" yX3_owedByAll yX3_owedByAll ∈ tW := List.mem_filter.mpr ⟨List.mem_of_getElem? (i := 21) (by decide +kernel), by decide +kernel⟩
theorem q22 : Cond.selects "NineLands$Sums" yX1_settle yX1_settle ∈ tW := List.mem_filter.mpr ⟨List.mem_of_getElem? (i := 22) (by decide +kernel), by decide +kernel⟩
theorem q23 : Cond.selects "NineLands$Sums" yX1_changesInTurn yX1_changesInTurn ∈ tW := List.mem_filter.mpr ⟨List.mem_of_getElem? (i := 23) (by decide +kernel), by decide +kernel⟩
theorem q24 : Cond.selects "NineLands" yX3_paidFrom yX3_paidFrom ∈ tW := List.mem_filter.mpr ⟨List.mem_of_getElem? (i := 24) (by decide +kernel), by decide +kernel⟩
theorem q25 : Cond.selects "NineLands" yX3_paidLivingIn yX3_paidLivingIn ∈ tW := List.mem_filter.mpr ⟨List.mem_of_getElem? (i := 25) (by decide +kernel), by decide +kernel⟩
theorem q26 : Cond.selects "NineLands$Book" yX0_behind yX0_behind ∈ tW := List.mem_filter.mpr ⟨List.mem_of_getElem? (i := 26) (by decide +kernel), by decide +kernel⟩
theorem q27 : Cond.selects "NineLands$Sums" yX1_addBench yX1_addBench ∈ tW := List.mem_filter.mpr ⟨List.mem_of_getElem? (i := 27) (by decide +kernel), by decide +kernel⟩
theorem q28 : Cond.selects "NineLands" yX3_owedByAllIf yX3_owedByAllIf ∈ tW := List.mem_filter.mpr ⟨List.mem_of_getElem? (i := 28) (by decide +kernel), by decide +kernel⟩
theorem q29 : Cond.selects "NineLands" yX3_refuseSum yX3_refuseSum ∈ tW := List.mem_filter.mpr ⟨List.mem_of_getElem? (i := 29) (by decide +kernel), by decide +kernel⟩
theorem q30 : Cond.selects "NineLands" yX3_owedByAllWithYear yX3_owedByAllWithYear ∈ tW := List.mem_filter.mpr ⟨List.mem_of_getElem? (i := 30) (by decide +kernel), by decide +kernel⟩
theorem q31 : Cond.selects "NineLands$Book" yX0_copyFrom yX0_copyFrom ∈ tW := List.mem_filter.mpr ⟨List.mem_of_getElem? (i := 31) (by decide +kernel), by decide +kernel⟩
theorem q32 : Cond.selects "NineLands$Book" yX0_shownSpells yX0_shownSpells ∈ tW := List.mem_filter.mpr ⟨List.mem_of_getElem? (i := 32) (by decide +kernel), by decide +kernel⟩
theorem q33 : Cond.selects "NineLands$Book" yX0_madePacts yX0_madePacts ∈ tW := List.mem_filter.mpr ⟨List.mem_of_getElem? (i := 33) (by decide +kernel), by decide +kernel⟩
theorem q34 : Cond.selects "NineLandsModel" yX4_no yX4_no ∈ tW := List.mem_filter.mpr ⟨List.mem_of_getElem? (i := 34) (by decide +kernel), by decide +kernel⟩
theorem q35 : Cond.selects "NineLandsModel" yX4_reads yX4_reads ∈ tW := List.mem_filter.mpr ⟨List.mem_of_getElem? (i := 35) (by decide +kernel), by decide +kernel⟩
theorem q36 : Cond.selects "NineLandsModel" yX4_sign yX4_sign ∈ tW := List.mem_filter.mpr ⟨List.mem_of_getElem? (i := 36) (by decide +kernel), by decide +kernel⟩
theorem q37 : Cond.selects "NineLandsModel" yX4_number yX4_number ∈ tW := List.mem_filter.mpr ⟨List.mem_of_getElem? (i := 37) (by decide +kernel), by decide +kernel⟩
theorem q38 : Cond.selects "NineLandsModel" yX4_takes yX4_takes ∈ tW := List.mem_filter.mpr ⟨List.mem_of_getElem? (i := 38) (by decide +kernel), by decide +kernel⟩
theorem q39 : Cond.selects "NineLandsModel" yX4_isSpell yX4_isSpell ∈ tW := List.mem_filter.mpr ⟨List.mem_of_getElem? (i := 39) (by decide +kernel), by decide +kernel⟩
theorem q40 : Cond.selects "NineLandsModel" yX4_findMonths yX4_findMonths ∈ tW := List.mem_filter.mpr ⟨List.mem_of_getElem? (i := 40) (by decide +kernel), by decide +kernel⟩
theorem q41 : Cond.selects "NineLandsModel" yX4_lawOf yX4_lawOf ∈ tW := List.mem_filter.mpr ⟨List.mem_of_getElem? (i := 41) (by decide +kernel), by decide +kernel⟩
theorem q42 : Cond.selects "NineLandsModel" yX4_sums yX4_sums ∈ tW := List.mem_filter.mpr ⟨List.mem_of_getElem? (i := 42) (by decide +kernel), by decide +kernel⟩
theorem q43 : Cond.selects "NineLandsModel" yX4_putPay yX4_putPay ∈ tW := List.mem_filter.mpr ⟨List.mem_of_getElem? (i := 43) (by decide +kernel), by decide +kernel⟩
theorem q44 : Cond.selects "NineLandsModel" yX4_says yX4_says ∈ tW := List.mem_filter.mpr ⟨List.mem_of_getElem? (i := 44) (by decide +kernel), by decide +kernel⟩
theorem q45 : Cond.selects "NineLandsModel" yX4_isRight yX4_isRight ∈ tW := List.mem_filter.mpr ⟨List.mem_of_getElem? (i := 45) (by decide +kernel), by decide +kernel⟩
theorem q46 : Cond.selects "NineLandsModel" yX4_byRate yX4_byRate ∈ tW := List.mem_filter.mpr ⟨List.mem_of_getElem? (i := 46) (by decide +kernel), by decide +kernel⟩
theorem q47 : Cond.selects "NineLandsModel" yX4_leastOf yX4_leastOf ∈ tW := List.mem_filter.mpr ⟨List.mem_of_getElem? (i := 47) (by decide +kernel), by decide +kernel⟩
theorem q48 : Cond.selects "NineLandsModel" yX4_putOf yX4_putOf ∈ tW := List.mem_filter.mpr ⟨List.mem_of_getElem? (i := 48) (by decide +kernel), by decide +kernel⟩
theorem q49 : Cond.selects "NineLandsModel" yX4_finds yX4_finds ∈ tW := List.mem_filter.mpr ⟨List.mem_of_getElem? (i := 49) (by decide +kernel), by decide +kernel⟩
theorem q50 : Cond.selects "NineLandsModel" yX4_sumOf yX4_sumOf ∈ tW := List.mem_filter.mpr ⟨List.mem_of_getElem? (i := 50) (by decide +kernel), by decide +kernel⟩
theorem q51 : Cond.selects "NineLandsModel" yX4_paid yX4_paid ∈ tW := List.mem_filter.mpr ⟨List.mem_of_getElem? (i := 51) (by decide +kernel), by decide +kernel⟩
theorem q52 : Cond.selects "NineLandsModel" yX4_livingIn yX4_livingIn ∈ tW := List.mem_filter.mpr ⟨List.mem_of_getElem? (i := 52) (by decide +kernel), by decide +kernel⟩
theorem q53 : Cond.selects "NineLandsModel" yX4_behind yX4_behind ∈ tW := List.mem_filter.mpr ⟨List.mem_of_getElem? (i := 53) (by decide +kernel), by decide +kernel⟩
theorem q54 : Cond.selects "NineLandsModel" yX4_findsWith yX4_findsWith ∈ tW := List.mem_filter.mpr ⟨List.mem_of_getElem? (i := 54) (by decide +kernel), by decide +kernel⟩
theorem q55 : Cond.selects "NineLandsModel" yX4_less yX4_less ∈ tW := List.mem_filter.mpr ⟨List.mem_of_getElem? (i := 55) (by decide +kernel), by decide +kernel⟩
theorem q56 : Cond.selects "NineLandsModel" yX4_passesAll yX4_passesAll ∈ tW := List.mem_filter.mpr ⟨List.mem_of_getElem? (i := 56) (by decide +kernel), by decide +kernel⟩
theorem q57 : Cond.selects "NineLandsModel" yX4_passes yX4_passes ∈ tW := List.mem_filter.mpr ⟨List.mem_of_getElem? (i := 57) (by decide +kernel), by decide +kernel⟩
theorem q59 : Cond.initialized "NineLands" ∈ tW := List.mem_filter.mpr ⟨List.mem_of_getElem? (i := 59) (by decide +kernel), by decide +kernel⟩
theorem q60 : Cond.initialized "NineLands$Tape" ∈ tW := List.mem_filter.mpr ⟨List.mem_of_getElem? (i := 60) (by decide +kernel), by decide +kernel⟩
theorem q61 : Cond.initialized "NineLands$Book" ∈ tW := List.mem_filter.mpr ⟨List.mem_of_getElem? (i := 61) (by decide +kernel), by decide +kernel⟩
theorem q62 : Cond.initialized "java/lang/System" ∈ tW := List.mem_filter.mpr ⟨List.mem_of_getElem? (i := 62) (by decide +kernel), by decide +kernel⟩
theorem q63 : Cond.initialized "NineLands$Sums" ∈ tW := List.mem_filter.mpr ⟨List.mem_of_getElem? (i := 63) (by decide +kernel), by decide +kernel⟩
theorem q64 : Cond.initialized "NineLandsModel" ∈ tW := List.mem_filter.mpr ⟨List.mem_of_getElem? (i := 64) (by decide +kernel), by decide +kernel⟩
theorem q65 : Cond.initialized "java/lang/String" ∈ tW := List.mem_filter.mpr ⟨List.mem_of_getElem? (i := 65) (by decide +kernel), by decide +kernel⟩
theorem q66 : Cond.initialized "java/lang/StringLatin1" ∈ tW := List.mem_filter.mpr ⟨List.mem_of_getElem? (i := 66) (by decide +kernel), by decide +kernel⟩
theorem q67 : Cond.initialized "java/lang/Math" ∈ tW := List.mem_filter.mpr ⟨List.mem_of_getElem? (i := 67) (by decide +kernel), by decide +kernel⟩
theorem q71 : Cond.initialized "java/util/Arrays" ∈ tW := List.mem_filter.mpr ⟨List.mem_of_getElem? (i := 71) (by decide +kernel), by decide +kernel⟩
theorem q86 : Cond.fieldLink "NineLands$Tape" 9 "NineLands$Tape" "bytes" "[I" ∈ tW := List.mem_filter.mpr ⟨List.mem_of_getElem? (i := 86) (by decide +kernel), by decide +kernel⟩
theorem q87 : Cond.fieldLinkNest "NineLands" 55 "NineLands$Tape" "bytes" "[I" "NineLands" ∈ nW := List.mem_filter.mpr ⟨List.mem_of_getElem? (i := 87) (by decide +kernel), by decide +kernel⟩
theorem q88 : Cond.fieldLink "NineLands$Tape" 15 "NineLands$Tape" "length" "I" ∈ tW := List.mem_filter.mpr ⟨List.mem_of_getElem? (i := 88) (by decide +kernel), by decide +kernel⟩
theorem q89 : Cond.fieldLinkNest "NineLands" 52 "NineLands$Tape" "length" "I" "NineLands" ∈ nW := List.mem_filter.mpr ⟨List.mem_of_getElem? (i := 89) (by decide +kernel), by decide +kernel⟩
theorem q90 : Cond.fieldLink "NineLands$Tape" 19 "NineLands$Tape" "place" "I" ∈ tW := List.mem_filter.mpr ⟨List.mem_of_getElem? (i := 90) (by decide +kernel), by decide +kernel⟩
theorem q91 : Cond.fieldLinkNest "NineLands" 71 "NineLands$Tape" "place" "I" "NineLands" ∈ nW := List.mem_filter.mpr ⟨List.mem_of_getElem? (i := 91) (by decide +kernel), by decide +kernel⟩
theorem q110 : Cond.methodLink "NineLands$Book" 33 arraycopyName ∈ tW := List.mem_filter.mpr ⟨List.mem_of_getElem? (i := 110) (by decide +kernel), by decide +kernel⟩
theorem q111 : Cond.static arraycopyName ∈ tW := List.mem_filter.mpr ⟨List.mem_of_getElem? (i := 111) (by decide +kernel), by decide +kernel⟩
theorem q112 : Cond.native arraycopyName ∈ tW := List.mem_filter.mpr ⟨List.mem_of_getElem? (i := 112) (by decide +kernel), by decide +kernel⟩
theorem q113 : Cond.fieldLink "NineLands$Book" 11 "NineLands$Book" "spells" "[[I" ∈ tW := List.mem_filter.mpr ⟨List.mem_of_getElem? (i := 113) (by decide +kernel), by decide +kernel⟩
theorem q114 : Cond.fieldLinkNest "NineLands" 63 "NineLands$Book" "spells" "[[I" "NineLands" ∈ nW := List.mem_filter.mpr ⟨List.mem_of_getElem? (i := 114) (by decide +kernel), by decide +kernel⟩
theorem q115 : Cond.fieldLink "NineLands$Book" 16 "NineLands$Book" "laws" "[[I" ∈ tW := List.mem_filter.mpr ⟨List.mem_of_getElem? (i := 115) (by decide +kernel), by decide +kernel⟩
theorem q116 : Cond.fieldLinkNest "NineLands" 84 "NineLands$Book" "laws" "[[I" "NineLands" ∈ nW := List.mem_filter.mpr ⟨List.mem_of_getElem? (i := 116) (by decide +kernel), by decide +kernel⟩
theorem q117 : Cond.fieldLinkNest "NineLands$Sums" 89 "NineLands$Book" "laws" "[[I" "NineLands" ∈ nW := List.mem_filter.mpr ⟨List.mem_of_getElem? (i := 117) (by decide +kernel), by decide +kernel⟩
theorem q118 : Cond.fieldLink "NineLands$Book" 19 "NineLands$Book" "kinds" "[I" ∈ tW := List.mem_filter.mpr ⟨List.mem_of_getElem? (i := 118) (by decide +kernel), by decide +kernel⟩
theorem q119 : Cond.fieldLinkNest "NineLands" 90 "NineLands$Book" "kinds" "[I" "NineLands" ∈ nW := List.mem_filter.mpr ⟨List.mem_of_getElem? (i := 119) (by decide +kernel), by decide +kernel⟩
theorem q120 : Cond.fieldLinkNest "NineLands$Sums" 92 "NineLands$Book" "kinds" "[I" "NineLands" ∈ nW := List.mem_filter.mpr ⟨List.mem_of_getElem? (i := 120) (by decide +kernel), by decide +kernel⟩
theorem q121 : Cond.fieldLink "NineLands$Book" 23 "NineLands$Book" "pacts" "[[I" ∈ tW := List.mem_filter.mpr ⟨List.mem_of_getElem? (i := 121) (by decide +kernel), by decide +kernel⟩
theorem q122 : Cond.fieldLinkNest "NineLands$Sums" 81 "NineLands$Book" "pacts" "[[I" "NineLands" ∈ nW := List.mem_filter.mpr ⟨List.mem_of_getElem? (i := 122) (by decide +kernel), by decide +kernel⟩
theorem q123 : Cond.fieldLinkNest "NineLands" 93 "NineLands$Book" "pacts" "[[I" "NineLands" ∈ nW := List.mem_filter.mpr ⟨List.mem_of_getElem? (i := 123) (by decide +kernel), by decide +kernel⟩
theorem q124 : Cond.fieldLink "NineLands$Book" 26 "NineLands$Book" "written" "I" ∈ tW := List.mem_filter.mpr ⟨List.mem_of_getElem? (i := 124) (by decide +kernel), by decide +kernel⟩
theorem q125 : Cond.fieldLinkNest "NineLands" 60 "NineLands$Book" "written" "I" "NineLands" ∈ nW := List.mem_filter.mpr ⟨List.mem_of_getElem? (i := 125) (by decide +kernel), by decide +kernel⟩
theorem q143 : Cond.fieldLink "NineLands$Sums" 9 "NineLands$Sums" "payHere" "[I" ∈ tW := List.mem_filter.mpr ⟨List.mem_of_getElem? (i := 143) (by decide +kernel), by decide +kernel⟩
theorem q144 : Cond.fieldLink "NineLands$Sums" 15 "NineLands$Sums" "months" "[I" ∈ tW := List.mem_filter.mpr ⟨List.mem_of_getElem? (i := 144) (by decide +kernel), by decide +kernel⟩
theorem q145 : Cond.fieldLinkNest "NineLands" 100 "NineLands$Sums" "months" "[I" "NineLands" ∈ nW := List.mem_filter.mpr ⟨List.mem_of_getElem? (i := 145) (by decide +kernel), by decide +kernel⟩
theorem q146 : Cond.fieldLink "NineLands$Sums" 18 "NineLands$Sums" "pays" "[I" ∈ tW := List.mem_filter.mpr ⟨List.mem_of_getElem? (i := 146) (by decide +kernel), by decide +kernel⟩
theorem q147 : Cond.fieldLinkNest "NineLands" 103 "NineLands$Sums" "pays" "[I" "NineLands" ∈ nW := List.mem_filter.mpr ⟨List.mem_of_getElem? (i := 147) (by decide +kernel), by decide +kernel⟩
theorem q148 : Cond.fieldLink "NineLands$Sums" 21 "NineLands$Sums" "putMonths" "[I" ∈ tW := List.mem_filter.mpr ⟨List.mem_of_getElem? (i := 148) (by decide +kernel), by decide +kernel⟩
theorem q149 : Cond.fieldLinkNest "NineLands" 106 "NineLands$Sums" "putMonths" "[I" "NineLands" ∈ nW := List.mem_filter.mpr ⟨List.mem_of_getElem? (i := 149) (by decide +kernel), by decide +kernel⟩
theorem q150 : Cond.fieldLink "NineLands$Sums" 24 "NineLands$Sums" "putPays" "[I" ∈ tW := List.mem_filter.mpr ⟨List.mem_of_getElem? (i := 150) (by decide +kernel), by decide +kernel⟩
theorem q151 : Cond.fieldLinkNest "NineLands" 109 "NineLands$Sums" "putPays" "[I" "NineLands" ∈ nW := List.mem_filter.mpr ⟨List.mem_of_getElem? (i := 151) (by decide +kernel), by decide +kernel⟩
theorem q152 : Cond.fieldLink "NineLands$Sums" 27 "NineLands$Sums" "whole" "[I" ∈ tW := List.mem_filter.mpr ⟨List.mem_of_getElem? (i := 152) (by decide +kernel), by decide +kernel⟩
theorem q153 : Cond.fieldLink "NineLands$Sums" 30 "NineLands$Sums" "owes" "[I" ∈ tW := List.mem_filter.mpr ⟨List.mem_of_getElem? (i := 153) (by decide +kernel), by decide +kernel⟩
theorem q154 : Cond.fieldLinkNest "NineLands" 135 "NineLands$Sums" "owes" "[I" "NineLands" ∈ nW := List.mem_filter.mpr ⟨List.mem_of_getElem? (i := 154) (by decide +kernel), by decide +kernel⟩
theorem q155 : Cond.fieldLink "NineLands$Sums" 33 "NineLands$Sums" "overMonths" "I" ∈ tW := List.mem_filter.mpr ⟨List.mem_of_getElem? (i := 155) (by decide +kernel), by decide +kernel⟩
theorem q156 : Cond.fieldLinkNest "NineLands" 116 "NineLands$Sums" "overMonths" "I" "NineLands" ∈ nW := List.mem_filter.mpr ⟨List.mem_of_getElem? (i := 156) (by decide +kernel), by decide +kernel⟩
theorem q157 : Cond.fieldLink "NineLands$Sums" 37 "NineLands$Sums" "firstOver" "I" ∈ tW := List.mem_filter.mpr ⟨List.mem_of_getElem? (i := 157) (by decide +kernel), by decide +kernel⟩
theorem q158 : Cond.fieldLinkNest "NineLands" 119 "NineLands$Sums" "firstOver" "I" "NineLands" ∈ nW := List.mem_filter.mpr ⟨List.mem_of_getElem? (i := 158) (by decide +kernel), by decide +kernel⟩
theorem q159 : Cond.fieldLink "NineLands$Sums" 40 "NineLands$Sums" "isAtRest" "Z" ∈ tW := List.mem_filter.mpr ⟨List.mem_of_getElem? (i := 159) (by decide +kernel), by decide +kernel⟩
theorem q160 : Cond.fieldLinkNest "NineLands" 138 "NineLands$Sums" "isAtRest" "Z" "NineLands" ∈ nW := List.mem_filter.mpr ⟨List.mem_of_getElem? (i := 160) (by decide +kernel), by decide +kernel⟩
theorem q182 : Cond.fieldLink "NineLands" 10 "NineLands" "tape" "LNineLands$Tape;" ∈ tW := List.mem_filter.mpr ⟨List.mem_of_getElem? (i := 182) (by decide +kernel), by decide +kernel⟩
theorem q183 : Cond.fieldLink "NineLands" 19 "NineLands" "book" "LNineLands$Book;" ∈ tW := List.mem_filter.mpr ⟨List.mem_of_getElem? (i := 183) (by decide +kernel), by decide +kernel⟩
theorem q184 : Cond.fieldLink "NineLands" 23 "NineLands" "kept" "LNineLands$Book;" ∈ tW := List.mem_filter.mpr ⟨List.mem_of_getElem? (i := 184) (by decide +kernel), by decide +kernel⟩
theorem q185 : Cond.fieldLink "NineLands" 29 "NineLands" "sums" "LNineLands$Sums;" ∈ tW := List.mem_filter.mpr ⟨List.mem_of_getElem? (i := 185) (by decide +kernel), by decide +kernel⟩
theorem q186 : Cond.fieldLink "NineLands" 33 "NineLands" "row" "[I" ∈ tW := List.mem_filter.mpr ⟨List.mem_of_getElem? (i := 186) (by decide +kernel), by decide +kernel⟩
theorem q187 : Cond.fieldLink "NineLands" 37 "NineLands" "refused" "[I" ∈ tW := List.mem_filter.mpr ⟨List.mem_of_getElem? (i := 187) (by decide +kernel), by decide +kernel⟩
theorem q188 : Cond.fieldLink "NineLands" 40 "NineLands" "rowLength" "I" ∈ tW := List.mem_filter.mpr ⟨List.mem_of_getElem? (i := 188) (by decide +kernel), by decide +kernel⟩
theorem q189 : Cond.fieldLink "NineLands" 44 "NineLands" "hasKept" "Z" ∈ tW := List.mem_filter.mpr ⟨List.mem_of_getElem? (i := 189) (by decide +kernel), by decide +kernel⟩
theorem q207 : Cond.methodLink "NineLandsLaw" 15 yX3_feed ∈ tW := List.mem_filter.mpr ⟨List.mem_of_getElem? (i := 207) (by decide +kernel), by decide +kernel⟩
theorem q208 : Cond.instanceMethod yX3_feed ∈ tW := List.mem_filter.mpr ⟨List.mem_of_getElem? (i := 208) (by decide +kernel), by decide +kernel⟩
theorem q209 : Cond.selects "NineLands" yX3_feed yX3_feed ∈ tW := List.mem_filter.mpr ⟨List.mem_of_getElem? (i := 209) (by decide +kernel), by decide +kernel⟩
theorem q210 : Cond.code yX3_feed cX3_feed 5 (some .int) ∈ tW := List.mem_filter.mpr ⟨List.mem_of_getElem? (i := 210) (by decide +kernel), by decide +kernel⟩
theorem q211 : Cond.methodLink "NineLands" 48 yX3_refuse ∈ tW := List.mem_filter.mpr ⟨List.mem_of_getElem? (i := 211) (by decide +kernel), by decide +kernel⟩
theorem q213 : Cond.instanceMethod yX3_refuse ∈ tW := List.mem_filter.mpr ⟨List.mem_of_getElem? (i := 213) (by decide +kernel), by decide +kernel⟩
theorem q214 : Cond.code yX3_refuse cX3_refuse 2 (some .int) ∈ tW := List.mem_filter.mpr ⟨List.mem_of_getElem? (i := 214) (by decide +kernel), by decide +kernel⟩
theorem q215 : Cond.constantLong "NineLands" 58 (255) ∈ tW := List.mem_filter.mpr ⟨List.mem_of_getElem? (i := 215) (by decide +kernel), by decide +kernel⟩
theorem q216 : Cond.methodLink "NineLandsLaw" 20 yX3_spell ∈ tW := List.mem_filter.mpr ⟨List.mem_of_getElem? (i := 216) (by decide +kernel), by decide +kernel⟩
theorem q217 : Cond.instanceMethod yX3_spell ∈ tW := List.mem_filter.mpr ⟨List.mem_of_getElem? (i := 217) (by decide +kernel), by decide +kernel⟩
theorem q218 : Cond.selects "NineLands" yX3_spell yX3_spell ∈ tW := List.mem_filter.mpr ⟨List.mem_of_getElem? (i := 218) (by decide +kernel), by decide +kernel⟩
theorem q219 : Cond.code yX3_spell cX3_spell 2 (some .int) ∈ tW := List.mem_filter.mpr ⟨List.mem_of_getElem? (i := 219) (by decide +kernel), by decide +kernel⟩
theorem q220 : Cond.methodLinkNest "NineLands" 67 yX2_readInto "NineLands" ∈ nW := List.mem_filter.mpr ⟨List.mem_of_getElem? (i := 220) (by decide +kernel), by decide +kernel⟩
theorem q222 : Cond.instanceMethod yX2_readInto ∈ tW := List.mem_filter.mpr ⟨List.mem_of_getElem? (i := 222) (by decide +kernel), by decide +kernel⟩
theorem q223 : Cond.code yX2_readInto cX2_readInto 3 (some .boolean) ∈ tW := List.mem_filter.mpr ⟨List.mem_of_getElem? (i := 223) (by decide +kernel), by decide +kernel⟩
theorem q225 : Cond.methodLink "NineLands$Tape" 24 yX2_readChoice ∈ tW := List.mem_filter.mpr ⟨List.mem_of_getElem? (i := 225) (by decide +kernel), by decide +kernel⟩
theorem q227 : Cond.instanceMethod yX2_readChoice ∈ tW := List.mem_filter.mpr ⟨List.mem_of_getElem? (i := 227) (by decide +kernel), by decide +kernel⟩
theorem q228 : Cond.code yX2_readChoice cX2_readChoice 5 (some .boolean) ∈ tW := List.mem_filter.mpr ⟨List.mem_of_getElem? (i := 228) (by decide +kernel), by decide +kernel⟩
theorem q229 : Cond.methodLink "NineLands$Tape" 42 yJ0_indexOf_0f7a4 ∈ tW := List.mem_filter.mpr ⟨List.mem_of_getElem? (i := 229) (by decide +kernel), by decide +kernel⟩
theorem q230 : Cond.instanceMethod yJ0_indexOf_0f7a4 ∈ tW := List.mem_filter.mpr ⟨List.mem_of_getElem? (i := 230) (by decide +kernel), by decide +kernel⟩
theorem q231 : Cond.selects "java/lang/String" yJ0_indexOf_0f7a4 yJ0_indexOf_0f7a4 ∈ tW := List.mem_filter.mpr ⟨List.mem_of_getElem? (i := 231) (by decide +kernel), by decide +kernel⟩
theorem q232 : Cond.code yJ0_indexOf_0f7a4 cJ0_indexOf_0f7a4 2 (some .int) ∈ tW := List.mem_filter.mpr ⟨List.mem_of_getElem? (i := 232) (by decide +kernel), by decide +kernel⟩
theorem q233 : Cond.methodLink "java/lang/String" 633 yJ0_indexOf_7cf53 ∈ tW := List.mem_filter.mpr ⟨List.mem_of_getElem? (i := 233) (by decide +kernel), by decide +kernel⟩
theorem q234 : Cond.instanceMethod yJ0_indexOf_7cf53 ∈ tW := List.mem_filter.mpr ⟨List.mem_of_getElem? (i := 234) (by decide +kernel), by decide +kernel⟩
theorem q235 : Cond.selects "java/lang/String" yJ0_indexOf_7cf53 yJ0_indexOf_7cf53 ∈ tW := List.mem_filter.mpr ⟨List.mem_of_getElem? (i := 235) (by decide +kernel), by decide +kernel⟩
theorem q236 : Cond.code yJ0_indexOf_7cf53 cJ0_indexOf_7cf53 3 (some .int) ∈ tW := List.mem_filter.mpr ⟨List.mem_of_getElem? (i := 236) (by decide +kernel), by decide +kernel⟩
theorem q237 : Cond.methodLink "java/lang/String" 492 yJ0_isLatin1_aae02 ∈ tW := List.mem_filter.mpr ⟨List.mem_of_getElem? (i := 237) (by decide +kernel), by decide +kernel⟩
theorem q238 : Cond.instanceMethod yJ0_isLatin1_aae02 ∈ tW := List.mem_filter.mpr ⟨List.mem_of_getElem? (i := 238) (by decide +kernel), by decide +kernel⟩
theorem q239 : Cond.selects "java/lang/String" yJ0_isLatin1_aae02 yJ0_isLatin1_aae02 ∈ tW := List.mem_filter.mpr ⟨List.mem_of_getElem? (i := 239) (by decide +kernel), by decide +kernel⟩
theorem q240 : Cond.code yJ0_isLatin1_aae02 cJ0_isLatin1_aae02 1 (some .boolean) ∈ tW := List.mem_filter.mpr ⟨List.mem_of_getElem? (i := 240) (by decide +kernel), by decide +kernel⟩
theorem q241 : Cond.fieldLink "java/lang/String" 38 "java/lang/String" "COMPACT_STRINGS" "Z" ∈ tW := List.mem_filter.mpr ⟨List.mem_of_getElem? (i := 241) (by decide +kernel), by decide +kernel⟩
theorem q243 : Cond.methodLink "java/lang/String" 505 yJ0_length_8abf5 ∈ tW := List.mem_filter.mpr ⟨List.mem_of_getElem? (i := 243) (by decide +kernel), by decide +kernel⟩
theorem q244 : Cond.instanceMethod yJ0_length_8abf5 ∈ tW := List.mem_filter.mpr ⟨List.mem_of_getElem? (i := 244) (by decide +kernel), by decide +kernel⟩
theorem q245 : Cond.selects "java/lang/String" yJ0_length_8abf5 yJ0_length_8abf5 ∈ tW := List.mem_filter.mpr ⟨List.mem_of_getElem? (i := 245) (by decide +kernel), by decide +kernel⟩
theorem q246 : Cond.code yJ0_length_8abf5 cJ0_length_8abf5 1 (some .int) ∈ tW := List.mem_filter.mpr ⟨List.mem_of_getElem? (i := 246) (by decide +kernel), by decide +kernel⟩
theorem q247 : Cond.methodLink "java/lang/String" 335 yJ0_coder_7d493 ∈ tW := List.mem_filter.mpr ⟨List.mem_of_getElem? (i := 247) (by decide +kernel), by decide +kernel⟩
theorem q248 : Cond.instanceMethod yJ0_coder_7d493 ∈ tW := List.mem_filter.mpr ⟨List.mem_of_getElem? (i := 248) (by decide +kernel), by decide +kernel⟩
theorem q249 : Cond.selects "java/lang/String" yJ0_coder_7d493 yJ0_coder_7d493 ∈ tW := List.mem_filter.mpr ⟨List.mem_of_getElem? (i := 249) (by decide +kernel), by decide +kernel⟩
theorem q250 : Cond.code yJ0_coder_7d493 cJ0_coder_7d493 1 (some .byte) ∈ tW := List.mem_filter.mpr ⟨List.mem_of_getElem? (i := 250) (by decide +kernel), by decide +kernel⟩
theorem q251 : Cond.methodLink "java/lang/String" 637 yJ1_indexOf_4cfef ∈ tW := List.mem_filter.mpr ⟨List.mem_of_getElem? (i := 251) (by decide +kernel), by decide +kernel⟩
theorem q252 : Cond.static yJ1_indexOf_4cfef ∈ tW := List.mem_filter.mpr ⟨List.mem_of_getElem? (i := 252) (by decide +kernel), by decide +kernel⟩
theorem q253 : Cond.code yJ1_indexOf_4cfef cJ1_indexOf_4cfef 4 (some .int) ∈ tW := List.mem_filter.mpr ⟨List.mem_of_getElem? (i := 253) (by decide +kernel), by decide +kernel⟩
theorem q254 : Cond.methodLink "java/lang/StringLatin1" 88 yJ1_canEncode_9a6ad ∈ tW := List.mem_filter.mpr ⟨List.mem_of_getElem? (i := 254) (by decide +kernel), by decide +kernel⟩
theorem q255 : Cond.static yJ1_canEncode_9a6ad ∈ tW := List.mem_filter.mpr ⟨List.mem_of_getElem? (i := 255) (by decide +kernel), by decide +kernel⟩
theorem q256 : Cond.code yJ1_canEncode_9a6ad cJ1_canEncode_9a6ad 1 (some .boolean) ∈ tW := List.mem_filter.mpr ⟨List.mem_of_getElem? (i := 256) (by decide +kernel), by decide +kernel⟩
theorem q257 : Cond.methodLink "java/lang/StringLatin1" 92 Lib.Math.max.name ∈ tW := List.mem_filter.mpr ⟨List.mem_of_getElem? (i := 257) (by decide +kernel), by decide +kernel⟩
theorem q258 : Cond.static Lib.Math.max.name ∈ tW := List.mem_filter.mpr ⟨List.mem_of_getElem? (i := 258) (by decide +kernel), by decide +kernel⟩
theorem q259 : Cond.code Lib.Math.max.name Lib.Math.max.code 2 (some .int) ∈ tW := List.mem_filter.mpr ⟨List.mem_of_getElem? (i := 259) (by decide +kernel), by decide +kernel⟩
theorem q260 : Cond.methodLink "java/lang/StringLatin1" 38 Lib.Math.min.name ∈ tW := List.mem_filter.mpr ⟨List.mem_of_getElem? (i := 260) (by decide +kernel), by decide +kernel⟩
theorem q261 : Cond.static Lib.Math.min.name ∈ tW := List.mem_filter.mpr ⟨List.mem_of_getElem? (i := 261) (by decide +kernel), by decide +kernel⟩
theorem q262 : Cond.code Lib.Math.min.name Lib.Math.min.code 2 (some .int) ∈ tW := List.mem_filter.mpr ⟨List.mem_of_getElem? (i := 262) (by decide +kernel), by decide +kernel⟩
theorem q263 : Cond.methodLink "java/lang/StringLatin1" 95 yJ1_indexOfChar_4cfef ∈ tW := List.mem_filter.mpr ⟨List.mem_of_getElem? (i := 263) (by decide +kernel), by decide +kernel⟩
theorem q264 : Cond.static yJ1_indexOfChar_4cfef ∈ tW := List.mem_filter.mpr ⟨List.mem_of_getElem? (i := 264) (by decide +kernel), by decide +kernel⟩
theorem q265 : Cond.code yJ1_indexOfChar_4cfef cJ1_indexOfChar_4cfef 6 (some .int) ∈ tW := List.mem_filter.mpr ⟨List.mem_of_getElem? (i := 265) (by decide +kernel), by decide +kernel⟩
theorem q316 : Cond.methodLink "NineLands$Tape" 30 yX2_readNumber ∈ tW := List.mem_filter.mpr ⟨List.mem_of_getElem? (i := 316) (by decide +kernel), by decide +kernel⟩
theorem q318 : Cond.instanceMethod yX2_readNumber ∈ tW := List.mem_filter.mpr ⟨List.mem_of_getElem? (i := 318) (by decide +kernel), by decide +kernel⟩
theorem q319 : Cond.code yX2_readNumber cX2_readNumber 5 (some .boolean) ∈ tW := List.mem_filter.mpr ⟨List.mem_of_getElem? (i := 319) (by decide +kernel), by decide +kernel⟩
theorem q320 : Cond.methodLink "NineLands$Tape" 34 yX2_readSign ∈ tW := List.mem_filter.mpr ⟨List.mem_of_getElem? (i := 320) (by decide +kernel), by decide +kernel⟩
theorem q322 : Cond.instanceMethod yX2_readSign ∈ tW := List.mem_filter.mpr ⟨List.mem_of_getElem? (i := 322) (by decide +kernel), by decide +kernel⟩
theorem q323 : Cond.code yX2_readSign cX2_readSign 2 (some .boolean) ∈ tW := List.mem_filter.mpr ⟨List.mem_of_getElem? (i := 323) (by decide +kernel), by decide +kernel⟩
theorem q324 : Cond.methodLink "NineLands$Tape" 38 yX2_readTill ∈ tW := List.mem_filter.mpr ⟨List.mem_of_getElem? (i := 324) (by decide +kernel), by decide +kernel⟩
theorem q326 : Cond.instanceMethod yX2_readTill ∈ tW := List.mem_filter.mpr ⟨List.mem_of_getElem? (i := 326) (by decide +kernel), by decide +kernel⟩
theorem q327 : Cond.code yX2_readTill cX2_readTill 3 (some .boolean) ∈ tW := List.mem_filter.mpr ⟨List.mem_of_getElem? (i := 327) (by decide +kernel), by decide +kernel⟩
theorem q329 : Cond.methodLink "NineLandsLaw" 25 yX3_spellOf ∈ tW := List.mem_filter.mpr ⟨List.mem_of_getElem? (i := 329) (by decide +kernel), by decide +kernel⟩
theorem q330 : Cond.instanceMethod yX3_spellOf ∈ tW := List.mem_filter.mpr ⟨List.mem_of_getElem? (i := 330) (by decide +kernel), by decide +kernel⟩
theorem q331 : Cond.selects "NineLands" yX3_spellOf yX3_spellOf ∈ tW := List.mem_filter.mpr ⟨List.mem_of_getElem? (i := 331) (by decide +kernel), by decide +kernel⟩
theorem q332 : Cond.code yX3_spellOf cX3_spellOf 3 (some .int) ∈ tW := List.mem_filter.mpr ⟨List.mem_of_getElem? (i := 332) (by decide +kernel), by decide +kernel⟩
theorem q333 : Cond.methodLink "NineLands" 74 yX3_isSpell ∈ tW := List.mem_filter.mpr ⟨List.mem_of_getElem? (i := 333) (by decide +kernel), by decide +kernel⟩
theorem q335 : Cond.instanceMethod yX3_isSpell ∈ tW := List.mem_filter.mpr ⟨List.mem_of_getElem? (i := 335) (by decide +kernel), by decide +kernel⟩
theorem q336 : Cond.code yX3_isSpell cX3_isSpell 2 (some .boolean) ∈ tW := List.mem_filter.mpr ⟨List.mem_of_getElem? (i := 336) (by decide +kernel), by decide +kernel⟩
theorem q337 : Cond.methodLink "NineLandsLaw" 30 yX3_show ∈ tW := List.mem_filter.mpr ⟨List.mem_of_getElem? (i := 337) (by decide +kernel), by decide +kernel⟩
theorem q338 : Cond.instanceMethod yX3_show ∈ tW := List.mem_filter.mpr ⟨List.mem_of_getElem? (i := 338) (by decide +kernel), by decide +kernel⟩
theorem q339 : Cond.selects "NineLands" yX3_show yX3_show ∈ tW := List.mem_filter.mpr ⟨List.mem_of_getElem? (i := 339) (by decide +kernel), by decide +kernel⟩
theorem q340 : Cond.code yX3_show cX3_show 4 (some .int) ∈ tW := List.mem_filter.mpr ⟨List.mem_of_getElem? (i := 340) (by decide +kernel), by decide +kernel⟩
theorem q341 : Cond.methodLink "NineLandsLaw" 35 yX3_law ∈ tW := List.mem_filter.mpr ⟨List.mem_of_getElem? (i := 341) (by decide +kernel), by decide +kernel⟩
theorem q342 : Cond.instanceMethod yX3_law ∈ tW := List.mem_filter.mpr ⟨List.mem_of_getElem? (i := 342) (by decide +kernel), by decide +kernel⟩
theorem q343 : Cond.selects "NineLands" yX3_law yX3_law ∈ tW := List.mem_filter.mpr ⟨List.mem_of_getElem? (i := 343) (by decide +kernel), by decide +kernel⟩
theorem q344 : Cond.code yX3_law cX3_law 5 (some .int) ∈ tW := List.mem_filter.mpr ⟨List.mem_of_getElem? (i := 344) (by decide +kernel), by decide +kernel⟩
theorem q345 : Cond.methodLink "NineLands" 78 yX3_isLand ∈ tW := List.mem_filter.mpr ⟨List.mem_of_getElem? (i := 345) (by decide +kernel), by decide +kernel⟩
theorem q346 : Cond.static yX3_isLand ∈ tW := List.mem_filter.mpr ⟨List.mem_of_getElem? (i := 346) (by decide +kernel), by decide +kernel⟩
theorem q347 : Cond.code yX3_isLand cX3_isLand 1 (some .boolean) ∈ tW := List.mem_filter.mpr ⟨List.mem_of_getElem? (i := 347) (by decide +kernel), by decide +kernel⟩
theorem q348 : Cond.fieldLink "NineLands" 81 "NineLands" "LAW_AT_MOST" "[I" ∈ tW := List.mem_filter.mpr ⟨List.mem_of_getElem? (i := 348) (by decide +kernel), by decide +kernel⟩
theorem q350 : Cond.methodLink "NineLandsLaw" 40 yX3_kind ∈ tW := List.mem_filter.mpr ⟨List.mem_of_getElem? (i := 350) (by decide +kernel), by decide +kernel⟩
theorem q351 : Cond.instanceMethod yX3_kind ∈ tW := List.mem_filter.mpr ⟨List.mem_of_getElem? (i := 351) (by decide +kernel), by decide +kernel⟩
theorem q352 : Cond.selects "NineLands" yX3_kind yX3_kind ∈ tW := List.mem_filter.mpr ⟨List.mem_of_getElem? (i := 352) (by decide +kernel), by decide +kernel⟩
theorem q353 : Cond.code yX3_kind cX3_kind 4 (some .int) ∈ tW := List.mem_filter.mpr ⟨List.mem_of_getElem? (i := 353) (by decide +kernel), by decide +kernel⟩
theorem q354 : Cond.methodLink "NineLands" 87 yX3_isKind ∈ tW := List.mem_filter.mpr ⟨List.mem_of_getElem? (i := 354) (by decide +kernel), by decide +kernel⟩
theorem q355 : Cond.static yX3_isKind ∈ tW := List.mem_filter.mpr ⟨List.mem_of_getElem? (i := 355) (by decide +kernel), by decide +kernel⟩
theorem q356 : Cond.code yX3_isKind cX3_isKind 1 (some .boolean) ∈ tW := List.mem_filter.mpr ⟨List.mem_of_getElem? (i := 356) (by decide +kernel), by decide +kernel⟩
theorem q357 : Cond.methodLink "NineLandsLaw" 44 yX3_pact ∈ tW := List.mem_filter.mpr ⟨List.mem_of_getElem? (i := 357) (by decide +kernel), by decide +kernel⟩
theorem q358 : Cond.instanceMethod yX3_pact ∈ tW := List.mem_filter.mpr ⟨List.mem_of_getElem? (i := 358) (by decide +kernel), by decide +kernel⟩
theorem q359 : Cond.selects "NineLands" yX3_pact yX3_pact ∈ tW := List.mem_filter.mpr ⟨List.mem_of_getElem? (i := 359) (by decide +kernel), by decide +kernel⟩
theorem q360 : Cond.code yX3_pact cX3_pact 5 (some .int) ∈ tW := List.mem_filter.mpr ⟨List.mem_of_getElem? (i := 360) (by decide +kernel), by decide +kernel⟩
theorem q361 : Cond.methodLink "NineLandsLaw" 49 yX3_counts ∈ tW := List.mem_filter.mpr ⟨List.mem_of_getElem? (i := 361) (by decide +kernel), by decide +kernel⟩
theorem q362 : Cond.instanceMethod yX3_counts ∈ tW := List.mem_filter.mpr ⟨List.mem_of_getElem? (i := 362) (by decide +kernel), by decide +kernel⟩
theorem q363 : Cond.selects "NineLands" yX3_counts yX3_counts ∈ tW := List.mem_filter.mpr ⟨List.mem_of_getElem? (i := 363) (by decide +kernel), by decide +kernel⟩
theorem q364 : Cond.code yX3_counts cX3_counts 3 (some .int) ∈ tW := List.mem_filter.mpr ⟨List.mem_of_getElem? (i := 364) (by decide +kernel), by decide +kernel⟩
theorem q365 : Cond.methodLinkNest "NineLands" 96 yX1_reckon "NineLands" ∈ nW := List.mem_filter.mpr ⟨List.mem_of_getElem? (i := 365) (by decide +kernel), by decide +kernel⟩
theorem q367 : Cond.instanceMethod yX1_reckon ∈ tW := List.mem_filter.mpr ⟨List.mem_of_getElem? (i := 367) (by decide +kernel), by decide +kernel⟩
theorem q368 : Cond.code yX1_reckon cX1_reckon 5 none ∈ tW := List.mem_filter.mpr ⟨List.mem_of_getElem? (i := 368) (by decide +kernel), by decide +kernel⟩
theorem q369 : Cond.methodLink "NineLands$Sums" 44 yX1_clear ∈ tW := List.mem_filter.mpr ⟨List.mem_of_getElem? (i := 369) (by decide +kernel), by decide +kernel⟩
theorem q371 : Cond.instanceMethod yX1_clear ∈ tW := List.mem_filter.mpr ⟨List.mem_of_getElem? (i := 371) (by decide +kernel), by decide +kernel⟩
theorem q372 : Cond.code yX1_clear cX1_clear 1 none ∈ tW := List.mem_filter.mpr ⟨List.mem_of_getElem? (i := 372) (by decide +kernel), by decide +kernel⟩
theorem q373 : Cond.methodLink "NineLands$Sums" 57 yJ7_fill_53178 ∈ tW := List.mem_filter.mpr ⟨List.mem_of_getElem? (i := 373) (by decide +kernel), by decide +kernel⟩
theorem q374 : Cond.static yJ7_fill_53178 ∈ tW := List.mem_filter.mpr ⟨List.mem_of_getElem? (i := 374) (by decide +kernel), by decide +kernel⟩
theorem q375 : Cond.code yJ7_fill_53178 cJ7_fill_53178 4 none ∈ tW := List.mem_filter.mpr ⟨List.mem_of_getElem? (i := 375) (by decide +kernel), by decide +kernel⟩
theorem q376 : Cond.methodLinkNest "NineLands$Sums" 47 yX0_nextChange "NineLands" ∈ nW := List.mem_filter.mpr ⟨List.mem_of_getElem? (i := 376) (by decide +kernel), by decide +kernel⟩
theorem q378 : Cond.instanceMethod yX0_nextChange ∈ tW := List.mem_filter.mpr ⟨List.mem_of_getElem? (i := 378) (by decide +kernel), by decide +kernel⟩
theorem q379 : Cond.code yX0_nextChange cX0_nextChange 5 (some .int) ∈ tW := List.mem_filter.mpr ⟨List.mem_of_getElem? (i := 379) (by decide +kernel), by decide +kernel⟩
theorem q380 : Cond.methodLink "NineLands$Book" 45 Lib.Math.min.name ∈ tW := List.mem_filter.mpr ⟨List.mem_of_getElem? (i := 380) (by decide +kernel), by decide +kernel⟩
theorem q381 : Cond.methodLink "NineLands$Sums" 53 yX1_addStretch ∈ tW := List.mem_filter.mpr ⟨List.mem_of_getElem? (i := 381) (by decide +kernel), by decide +kernel⟩
theorem q383 : Cond.instanceMethod yX1_addStretch ∈ tW := List.mem_filter.mpr ⟨List.mem_of_getElem? (i := 383) (by decide +kernel), by decide +kernel⟩
theorem q384 : Cond.code yX1_addStretch cX1_addStretch 5 none ∈ tW := List.mem_filter.mpr ⟨List.mem_of_getElem? (i := 384) (by decide +kernel), by decide +kernel⟩
theorem q385 : Cond.methodLinkNest "NineLands$Sums" 63 yX0_payAt "NineLands" ∈ nW := List.mem_filter.mpr ⟨List.mem_of_getElem? (i := 385) (by decide +kernel), by decide +kernel⟩
theorem q387 : Cond.instanceMethod yX0_payAt ∈ tW := List.mem_filter.mpr ⟨List.mem_of_getElem? (i := 387) (by decide +kernel), by decide +kernel⟩
theorem q388 : Cond.code yX0_payAt cX0_payAt 7 (some .int) ∈ tW := List.mem_filter.mpr ⟨List.mem_of_getElem? (i := 388) (by decide +kernel), by decide +kernel⟩
theorem q389 : Cond.methodLink "NineLands$Book" 52 yX0_workCounts ∈ tW := List.mem_filter.mpr ⟨List.mem_of_getElem? (i := 389) (by decide +kernel), by decide +kernel⟩
theorem q391 : Cond.instanceMethod yX0_workCounts ∈ tW := List.mem_filter.mpr ⟨List.mem_of_getElem? (i := 391) (by decide +kernel), by decide +kernel⟩
theorem q392 : Cond.code yX0_workCounts cX0_workCounts 3 (some .boolean) ∈ tW := List.mem_filter.mpr ⟨List.mem_of_getElem? (i := 392) (by decide +kernel), by decide +kernel⟩
theorem q393 : Cond.methodLink "NineLands$Book" 48 yX0_isHeld ∈ tW := List.mem_filter.mpr ⟨List.mem_of_getElem? (i := 393) (by decide +kernel), by decide +kernel⟩
theorem q395 : Cond.instanceMethod yX0_isHeld ∈ tW := List.mem_filter.mpr ⟨List.mem_of_getElem? (i := 395) (by decide +kernel), by decide +kernel⟩
theorem q396 : Cond.code yX0_isHeld cX0_isHeld 4 (some .boolean) ∈ tW := List.mem_filter.mpr ⟨List.mem_of_getElem? (i := 396) (by decide +kernel), by decide +kernel⟩
theorem q397 : Cond.methodLink "NineLands$Book" 39 Lib.Math.max.name ∈ tW := List.mem_filter.mpr ⟨List.mem_of_getElem? (i := 397) (by decide +kernel), by decide +kernel⟩
theorem q398 : Cond.methodLink "NineLands$Sums" 67 yX1_addOwn ∈ tW := List.mem_filter.mpr ⟨List.mem_of_getElem? (i := 398) (by decide +kernel), by decide +kernel⟩
theorem q400 : Cond.instanceMethod yX1_addOwn ∈ tW := List.mem_filter.mpr ⟨List.mem_of_getElem? (i := 400) (by decide +kernel), by decide +kernel⟩
theorem q401 : Cond.code yX1_addOwn cX1_addOwn 3 none ∈ tW := List.mem_filter.mpr ⟨List.mem_of_getElem? (i := 401) (by decide +kernel), by decide +kernel⟩
theorem q402 : Cond.methodLink "NineLands$Sums" 71 yX1_addPut ∈ tW := List.mem_filter.mpr ⟨List.mem_of_getElem? (i := 402) (by decide +kernel), by decide +kernel⟩
theorem q404 : Cond.instanceMethod yX1_addPut ∈ tW := List.mem_filter.mpr ⟨List.mem_of_getElem? (i := 404) (by decide +kernel), by decide +kernel⟩
theorem q405 : Cond.code yX1_addPut cX1_addPut 5 none ∈ tW := List.mem_filter.mpr ⟨List.mem_of_getElem? (i := 405) (by decide +kernel), by decide +kernel⟩
theorem q406 : Cond.methodLink "NineLands$Sums" 77 yX1_payPut ∈ tW := List.mem_filter.mpr ⟨List.mem_of_getElem? (i := 406) (by decide +kernel), by decide +kernel⟩
theorem q408 : Cond.instanceMethod yX1_payPut ∈ tW := List.mem_filter.mpr ⟨List.mem_of_getElem? (i := 408) (by decide +kernel), by decide +kernel⟩
theorem q409 : Cond.code yX1_payPut cX1_payPut 4 (some .int) ∈ tW := List.mem_filter.mpr ⟨List.mem_of_getElem? (i := 409) (by decide +kernel), by decide +kernel⟩
theorem q410 : Cond.methodLinkNest "NineLands$Sums" 74 yX0_holders "NineLands" ∈ nW := List.mem_filter.mpr ⟨List.mem_of_getElem? (i := 410) (by decide +kernel), by decide +kernel⟩
theorem q412 : Cond.instanceMethod yX0_holders ∈ tW := List.mem_filter.mpr ⟨List.mem_of_getElem? (i := 412) (by decide +kernel), by decide +kernel⟩
theorem q413 : Cond.code yX0_holders cX0_holders 4 (some .int) ∈ tW := List.mem_filter.mpr ⟨List.mem_of_getElem? (i := 413) (by decide +kernel), by decide +kernel⟩
theorem q414 : Cond.methodLink "NineLandsLaw" 53 yX3_month ∈ tW := List.mem_filter.mpr ⟨List.mem_of_getElem? (i := 414) (by decide +kernel), by decide +kernel⟩
theorem q415 : Cond.instanceMethod yX3_month ∈ tW := List.mem_filter.mpr ⟨List.mem_of_getElem? (i := 415) (by decide +kernel), by decide +kernel⟩
theorem q416 : Cond.selects "NineLands" yX3_month yX3_month ∈ tW := List.mem_filter.mpr ⟨List.mem_of_getElem? (i := 416) (by decide +kernel), by decide +kernel⟩
theorem q417 : Cond.code yX3_month cX3_month 3 (some .int) ∈ tW := List.mem_filter.mpr ⟨List.mem_of_getElem? (i := 417) (by decide +kernel), by decide +kernel⟩
theorem q418 : Cond.methodLinkNest "NineLands" 112 yX0_payAt "NineLands" ∈ nW := List.mem_filter.mpr ⟨List.mem_of_getElem? (i := 418) (by decide +kernel), by decide +kernel⟩
theorem q419 : Cond.methodLink "NineLandsLaw" 57 yX3_over ∈ tW := List.mem_filter.mpr ⟨List.mem_of_getElem? (i := 419) (by decide +kernel), by decide +kernel⟩
theorem q420 : Cond.instanceMethod yX3_over ∈ tW := List.mem_filter.mpr ⟨List.mem_of_getElem? (i := 420) (by decide +kernel), by decide +kernel⟩
theorem q421 : Cond.selects "NineLands" yX3_over yX3_over ∈ tW := List.mem_filter.mpr ⟨List.mem_of_getElem? (i := 421) (by decide +kernel), by decide +kernel⟩
theorem q422 : Cond.code yX3_over cX3_over 2 (some .int) ∈ tW := List.mem_filter.mpr ⟨List.mem_of_getElem? (i := 422) (by decide +kernel), by decide +kernel⟩
theorem q423 : Cond.methodLink "NineLandsLaw" 62 yX3_alone ∈ tW := List.mem_filter.mpr ⟨List.mem_of_getElem? (i := 423) (by decide +kernel), by decide +kernel⟩
theorem q424 : Cond.instanceMethod yX3_alone ∈ tW := List.mem_filter.mpr ⟨List.mem_of_getElem? (i := 424) (by decide +kernel), by decide +kernel⟩
theorem q425 : Cond.selects "NineLands" yX3_alone yX3_alone ∈ tW := List.mem_filter.mpr ⟨List.mem_of_getElem? (i := 425) (by decide +kernel), by decide +kernel⟩
theorem q426 : Cond.code yX3_alone cX3_alone 3 (some .int) ∈ tW := List.mem_filter.mpr ⟨List.mem_of_getElem? (i := 426) (by decide +kernel), by decide +kernel⟩
theorem q427 : Cond.methodLinkNest "NineLands" 122 yX1_dueBy "NineLands" ∈ nW := List.mem_filter.mpr ⟨List.mem_of_getElem? (i := 427) (by decide +kernel), by decide +kernel⟩
theorem q429 : Cond.instanceMethod yX1_dueBy ∈ tW := List.mem_filter.mpr ⟨List.mem_of_getElem? (i := 429) (by decide +kernel), by decide +kernel⟩
theorem q430 : Cond.code yX1_dueBy cX1_dueBy 6 (some .int) ∈ tW := List.mem_filter.mpr ⟨List.mem_of_getElem? (i := 430) (by decide +kernel), by decide +kernel⟩
theorem q431 : Cond.methodLink "NineLands$Sums" 95 yX1_dueWhole ∈ tW := List.mem_filter.mpr ⟨List.mem_of_getElem? (i := 431) (by decide +kernel), by decide +kernel⟩
theorem q433 : Cond.instanceMethod yX1_dueWhole ∈ tW := List.mem_filter.mpr ⟨List.mem_of_getElem? (i := 433) (by decide +kernel), by decide +kernel⟩
theorem q434 : Cond.code yX1_dueWhole cX1_dueWhole 7 (some .int) ∈ tW := List.mem_filter.mpr ⟨List.mem_of_getElem? (i := 434) (by decide +kernel), by decide +kernel⟩
theorem q435 : Cond.methodLink "NineLands$Sums" 111 yX1_hasRight ∈ tW := List.mem_filter.mpr ⟨List.mem_of_getElem? (i := 435) (by decide +kernel), by decide +kernel⟩
theorem q436 : Cond.static yX1_hasRight ∈ tW := List.mem_filter.mpr ⟨List.mem_of_getElem? (i := 436) (by decide +kernel), by decide +kernel⟩
theorem q437 : Cond.code yX1_hasRight cX1_hasRight 2 (some .boolean) ∈ tW := List.mem_filter.mpr ⟨List.mem_of_getElem? (i := 437) (by decide +kernel), by decide +kernel⟩
theorem q438 : Cond.methodLink "NineLands$Sums" 115 yX1_byRate ∈ tW := List.mem_filter.mpr ⟨List.mem_of_getElem? (i := 438) (by decide +kernel), by decide +kernel⟩
theorem q439 : Cond.static yX1_byRate ∈ tW := List.mem_filter.mpr ⟨List.mem_of_getElem? (i := 439) (by decide +kernel), by decide +kernel⟩
theorem q440 : Cond.code yX1_byRate cX1_byRate 2 (some .int) ∈ tW := List.mem_filter.mpr ⟨List.mem_of_getElem? (i := 440) (by decide +kernel), by decide +kernel⟩
theorem q441 : Cond.methodLink "NineLands$Sums" 127 Lib.Math.min.name ∈ tW := List.mem_filter.mpr ⟨List.mem_of_getElem? (i := 441) (by decide +kernel), by decide +kernel⟩
theorem q442 : Cond.methodLink "NineLands$Sums" 119 Lib.Math.max.name ∈ tW := List.mem_filter.mpr ⟨List.mem_of_getElem? (i := 442) (by decide +kernel), by decide +kernel⟩
theorem q443 : Cond.methodLink "NineLands$Sums" 124 yX1_duePut ∈ tW := List.mem_filter.mpr ⟨List.mem_of_getElem? (i := 443) (by decide +kernel), by decide +kernel⟩
theorem q445 : Cond.instanceMethod yX1_duePut ∈ tW := List.mem_filter.mpr ⟨List.mem_of_getElem? (i := 445) (by decide +kernel), by decide +kernel⟩
theorem q446 : Cond.code yX1_duePut cX1_duePut 4 (some .int) ∈ tW := List.mem_filter.mpr ⟨List.mem_of_getElem? (i := 446) (by decide +kernel), by decide +kernel⟩
theorem q447 : Cond.methodLink "NineLands$Sums" 107 yX1_lessOthers ∈ tW := List.mem_filter.mpr ⟨List.mem_of_getElem? (i := 447) (by decide +kernel), by decide +kernel⟩
theorem q448 : Cond.static yX1_lessOthers ∈ tW := List.mem_filter.mpr ⟨List.mem_of_getElem? (i := 448) (by decide +kernel), by decide +kernel⟩
theorem q449 : Cond.code yX1_lessOthers cX1_lessOthers 5 (some .int) ∈ tW := List.mem_filter.mpr ⟨List.mem_of_getElem? (i := 449) (by decide +kernel), by decide +kernel⟩
theorem q450 : Cond.methodLink "NineLandsLaw" 66 yX3_lacks ∈ tW := List.mem_filter.mpr ⟨List.mem_of_getElem? (i := 450) (by decide +kernel), by decide +kernel⟩
theorem q451 : Cond.instanceMethod yX3_lacks ∈ tW := List.mem_filter.mpr ⟨List.mem_of_getElem? (i := 451) (by decide +kernel), by decide +kernel⟩
theorem q452 : Cond.selects "NineLands" yX3_lacks yX3_lacks ∈ tW := List.mem_filter.mpr ⟨List.mem_of_getElem? (i := 452) (by decide +kernel), by decide +kernel⟩
theorem q453 : Cond.code yX3_lacks cX3_lacks 4 (some .int) ∈ tW := List.mem_filter.mpr ⟨List.mem_of_getElem? (i := 453) (by decide +kernel), by decide +kernel⟩
theorem q454 : Cond.methodLink "NineLands" 126 Lib.Math.max.name ∈ tW := List.mem_filter.mpr ⟨List.mem_of_getElem? (i := 454) (by decide +kernel), by decide +kernel⟩
theorem q455 : Cond.methodLink "NineLandsLaw" 70 yX3_owed ∈ tW := List.mem_filter.mpr ⟨List.mem_of_getElem? (i := 455) (by decide +kernel), by decide +kernel⟩
theorem q456 : Cond.instanceMethod yX3_owed ∈ tW := List.mem_filter.mpr ⟨List.mem_of_getElem? (i := 456) (by decide +kernel), by decide +kernel⟩
theorem q457 : Cond.selects "NineLands" yX3_owed yX3_owed ∈ tW := List.mem_filter.mpr ⟨List.mem_of_getElem? (i := 457) (by decide +kernel), by decide +kernel⟩
theorem q458 : Cond.code yX3_owed cX3_owed 2 (some .int) ∈ tW := List.mem_filter.mpr ⟨List.mem_of_getElem? (i := 458) (by decide +kernel), by decide +kernel⟩
theorem q459 : Cond.methodLink "NineLands" 131 yX3_owedByAll ∈ tW := List.mem_filter.mpr ⟨List.mem_of_getElem? (i := 459) (by decide +kernel), by decide +kernel⟩
theorem q461 : Cond.instanceMethod yX3_owedByAll ∈ tW := List.mem_filter.mpr ⟨List.mem_of_getElem? (i := 461) (by decide +kernel), by decide +kernel⟩
theorem q462 : Cond.code yX3_owedByAll cX3_owedByAll 1 (some .int) ∈ tW := List.mem_filter.mpr ⟨List.mem_of_getElem? (i := 462) (by decide +kernel), by decide +kernel⟩
theorem q463 : Cond.methodLinkNest "NineLands" 158 yX1_settle "NineLands" ∈ nW := List.mem_filter.mpr ⟨List.mem_of_getElem? (i := 463) (by decide +kernel), by decide +kernel⟩
theorem q465 : Cond.instanceMethod yX1_settle ∈ tW := List.mem_filter.mpr ⟨List.mem_of_getElem? (i := 465) (by decide +kernel), by decide +kernel⟩
theorem q466 : Cond.code yX1_settle cX1_settle 3 (some .int) ∈ tW := List.mem_filter.mpr ⟨List.mem_of_getElem? (i := 466) (by decide +kernel), by decide +kernel⟩
theorem q467 : Cond.methodLink "NineLands$Sums" 99 yX1_changesInTurn ∈ tW := List.mem_filter.mpr ⟨List.mem_of_getElem? (i := 467) (by decide +kernel), by decide +kernel⟩
theorem q469 : Cond.instanceMethod yX1_changesInTurn ∈ tW := List.mem_filter.mpr ⟨List.mem_of_getElem? (i := 469) (by decide +kernel), by decide +kernel⟩
theorem q470 : Cond.code yX1_changesInTurn cX1_changesInTurn 7 (some .boolean) ∈ tW := List.mem_filter.mpr ⟨List.mem_of_getElem? (i := 470) (by decide +kernel), by decide +kernel⟩
theorem q471 : Cond.methodLinkNest "NineLands$Sums" 103 yX3_sumOf "NineLands" ∈ nW := List.mem_filter.mpr ⟨List.mem_of_getElem? (i := 471) (by decide +kernel), by decide +kernel⟩
theorem q472 : Cond.static yX3_sumOf ∈ tW := List.mem_filter.mpr ⟨List.mem_of_getElem? (i := 472) (by decide +kernel), by decide +kernel⟩
theorem q473 : Cond.code yX3_sumOf cX3_sumOf 6 (some .int) ∈ tW := List.mem_filter.mpr ⟨List.mem_of_getElem? (i := 473) (by decide +kernel), by decide +kernel⟩
theorem q474 : Cond.methodLink "NineLandsLaw" 74 yX3_rests ∈ tW := List.mem_filter.mpr ⟨List.mem_of_getElem? (i := 474) (by decide +kernel), by decide +kernel⟩
theorem q475 : Cond.instanceMethod yX3_rests ∈ tW := List.mem_filter.mpr ⟨List.mem_of_getElem? (i := 475) (by decide +kernel), by decide +kernel⟩
theorem q476 : Cond.selects "NineLands" yX3_rests yX3_rests ∈ tW := List.mem_filter.mpr ⟨List.mem_of_getElem? (i := 476) (by decide +kernel), by decide +kernel⟩
theorem q477 : Cond.code yX3_rests cX3_rests 1 (some .int) ∈ tW := List.mem_filter.mpr ⟨List.mem_of_getElem? (i := 477) (by decide +kernel), by decide +kernel⟩
theorem q478 : Cond.methodLink "NineLandsLaw" 78 yX3_all ∈ tW := List.mem_filter.mpr ⟨List.mem_of_getElem? (i := 478) (by decide +kernel), by decide +kernel⟩
theorem q479 : Cond.instanceMethod yX3_all ∈ tW := List.mem_filter.mpr ⟨List.mem_of_getElem? (i := 479) (by decide +kernel), by decide +kernel⟩
theorem q480 : Cond.selects "NineLands" yX3_all yX3_all ∈ tW := List.mem_filter.mpr ⟨List.mem_of_getElem? (i := 480) (by decide +kernel), by decide +kernel⟩
theorem q481 : Cond.code yX3_all cX3_all 1 (some .int) ∈ tW := List.mem_filter.mpr ⟨List.mem_of_getElem? (i := 481) (by decide +kernel), by decide +kernel⟩
theorem q482 : Cond.methodLink "NineLandsLaw" 82 yX3_asks ∈ tW := List.mem_filter.mpr ⟨List.mem_of_getElem? (i := 482) (by decide +kernel), by decide +kernel⟩
theorem q483 : Cond.instanceMethod yX3_asks ∈ tW := List.mem_filter.mpr ⟨List.mem_of_getElem? (i := 483) (by decide +kernel), by decide +kernel⟩
theorem q484 : Cond.selects "NineLands" yX3_asks yX3_asks ∈ tW := List.mem_filter.mpr ⟨List.mem_of_getElem? (i := 484) (by decide +kernel), by decide +kernel⟩
theorem q485 : Cond.code yX3_asks cX3_asks 4 (some .int) ∈ tW := List.mem_filter.mpr ⟨List.mem_of_getElem? (i := 485) (by decide +kernel), by decide +kernel⟩
theorem q486 : Cond.methodLink "NineLands" 141 yX3_paidFrom ∈ tW := List.mem_filter.mpr ⟨List.mem_of_getElem? (i := 486) (by decide +kernel), by decide +kernel⟩
theorem q488 : Cond.instanceMethod yX3_paidFrom ∈ tW := List.mem_filter.mpr ⟨List.mem_of_getElem? (i := 488) (by decide +kernel), by decide +kernel⟩
theorem q489 : Cond.code yX3_paidFrom cX3_paidFrom 7 (some .int) ∈ tW := List.mem_filter.mpr ⟨List.mem_of_getElem? (i := 489) (by decide +kernel), by decide +kernel⟩
theorem q490 : Cond.methodLink "NineLandsLaw" 86 yX3_when ∈ tW := List.mem_filter.mpr ⟨List.mem_of_getElem? (i := 490) (by decide +kernel), by decide +kernel⟩
theorem q491 : Cond.instanceMethod yX3_when ∈ tW := List.mem_filter.mpr ⟨List.mem_of_getElem? (i := 491) (by decide +kernel), by decide +kernel⟩
theorem q492 : Cond.selects "NineLands" yX3_when yX3_when ∈ tW := List.mem_filter.mpr ⟨List.mem_of_getElem? (i := 492) (by decide +kernel), by decide +kernel⟩
theorem q493 : Cond.code yX3_when cX3_when 8 (some .int) ∈ tW := List.mem_filter.mpr ⟨List.mem_of_getElem? (i := 493) (by decide +kernel), by decide +kernel⟩
theorem q494 : Cond.methodLink "NineLandsLaw" 90 yX3_lives ∈ tW := List.mem_filter.mpr ⟨List.mem_of_getElem? (i := 494) (by decide +kernel), by decide +kernel⟩
theorem q495 : Cond.instanceMethod yX3_lives ∈ tW := List.mem_filter.mpr ⟨List.mem_of_getElem? (i := 495) (by decide +kernel), by decide +kernel⟩
theorem q496 : Cond.selects "NineLands" yX3_lives yX3_lives ∈ tW := List.mem_filter.mpr ⟨List.mem_of_getElem? (i := 496) (by decide +kernel), by decide +kernel⟩
theorem q497 : Cond.code yX3_lives cX3_lives 2 (some .int) ∈ tW := List.mem_filter.mpr ⟨List.mem_of_getElem? (i := 497) (by decide +kernel), by decide +kernel⟩
theorem q498 : Cond.methodLink "NineLands" 145 yX3_paidLivingIn ∈ tW := List.mem_filter.mpr ⟨List.mem_of_getElem? (i := 498) (by decide +kernel), by decide +kernel⟩
theorem q500 : Cond.instanceMethod yX3_paidLivingIn ∈ tW := List.mem_filter.mpr ⟨List.mem_of_getElem? (i := 500) (by decide +kernel), by decide +kernel⟩
theorem q501 : Cond.code yX3_paidLivingIn cX3_paidLivingIn 6 (some .int) ∈ tW := List.mem_filter.mpr ⟨List.mem_of_getElem? (i := 501) (by decide +kernel), by decide +kernel⟩
theorem q502 : Cond.methodLink "NineLandsLaw" 94 yX3_where ∈ tW := List.mem_filter.mpr ⟨List.mem_of_getElem? (i := 502) (by decide +kernel), by decide +kernel⟩
theorem q503 : Cond.instanceMethod yX3_where ∈ tW := List.mem_filter.mpr ⟨List.mem_of_getElem? (i := 503) (by decide +kernel), by decide +kernel⟩
theorem q504 : Cond.selects "NineLands" yX3_where yX3_where ∈ tW := List.mem_filter.mpr ⟨List.mem_of_getElem? (i := 504) (by decide +kernel), by decide +kernel⟩
theorem q505 : Cond.code yX3_where cX3_where 3 (some .int) ∈ tW := List.mem_filter.mpr ⟨List.mem_of_getElem? (i := 505) (by decide +kernel), by decide +kernel⟩
theorem q506 : Cond.methodLink "NineLandsLaw" 98 yX3_edge ∈ tW := List.mem_filter.mpr ⟨List.mem_of_getElem? (i := 506) (by decide +kernel), by decide +kernel⟩
theorem q507 : Cond.instanceMethod yX3_edge ∈ tW := List.mem_filter.mpr ⟨List.mem_of_getElem? (i := 507) (by decide +kernel), by decide +kernel⟩
theorem q508 : Cond.selects "NineLands" yX3_edge yX3_edge ∈ tW := List.mem_filter.mpr ⟨List.mem_of_getElem? (i := 508) (by decide +kernel), by decide +kernel⟩
theorem q509 : Cond.code yX3_edge cX3_edge 6 (some .int) ∈ tW := List.mem_filter.mpr ⟨List.mem_of_getElem? (i := 509) (by decide +kernel), by decide +kernel⟩
theorem q510 : Cond.methodLinkNest "NineLands" 148 yX0_behind "NineLands" ∈ nW := List.mem_filter.mpr ⟨List.mem_of_getElem? (i := 510) (by decide +kernel), by decide +kernel⟩
theorem q512 : Cond.instanceMethod yX0_behind ∈ tW := List.mem_filter.mpr ⟨List.mem_of_getElem? (i := 512) (by decide +kernel), by decide +kernel⟩
theorem q513 : Cond.code yX0_behind cX0_behind 3 (some .int) ∈ tW := List.mem_filter.mpr ⟨List.mem_of_getElem? (i := 513) (by decide +kernel), by decide +kernel⟩
theorem q514 : Cond.methodLink "NineLands" 151 Lib.Math.min.name ∈ tW := List.mem_filter.mpr ⟨List.mem_of_getElem? (i := 514) (by decide +kernel), by decide +kernel⟩
theorem q515 : Cond.methodLinkNest "NineLands" 154 yX1_addBench "NineLands" ∈ nW := List.mem_filter.mpr ⟨List.mem_of_getElem? (i := 515) (by decide +kernel), by decide +kernel⟩
theorem q517 : Cond.instanceMethod yX1_addBench ∈ tW := List.mem_filter.mpr ⟨List.mem_of_getElem? (i := 517) (by decide +kernel), by decide +kernel⟩
theorem q518 : Cond.code yX1_addBench cX1_addBench 6 none ∈ tW := List.mem_filter.mpr ⟨List.mem_of_getElem? (i := 518) (by decide +kernel), by decide +kernel⟩
theorem q519 : Cond.methodLinkNest "NineLands$Sums" 85 yX0_workCounts "NineLands" ∈ nW := List.mem_filter.mpr ⟨List.mem_of_getElem? (i := 519) (by decide +kernel), by decide +kernel⟩
theorem q520 : Cond.methodLink "NineLandsLaw" 102 yX3_hangs ∈ tW := List.mem_filter.mpr ⟨List.mem_of_getElem? (i := 520) (by decide +kernel), by decide +kernel⟩
theorem q521 : Cond.instanceMethod yX3_hangs ∈ tW := List.mem_filter.mpr ⟨List.mem_of_getElem? (i := 521) (by decide +kernel), by decide +kernel⟩
theorem q522 : Cond.selects "NineLands" yX3_hangs yX3_hangs ∈ tW := List.mem_filter.mpr ⟨List.mem_of_getElem? (i := 522) (by decide +kernel), by decide +kernel⟩
theorem q523 : Cond.code yX3_hangs cX3_hangs 5 (some .int) ∈ tW := List.mem_filter.mpr ⟨List.mem_of_getElem? (i := 523) (by decide +kernel), by decide +kernel⟩
theorem q524 : Cond.methodLink "NineLands" 162 yX3_owedByAllIf ∈ tW := List.mem_filter.mpr ⟨List.mem_of_getElem? (i := 524) (by decide +kernel), by decide +kernel⟩
theorem q526 : Cond.instanceMethod yX3_owedByAllIf ∈ tW := List.mem_filter.mpr ⟨List.mem_of_getElem? (i := 526) (by decide +kernel), by decide +kernel⟩
theorem q527 : Cond.code yX3_owedByAllIf cX3_owedByAllIf 5 (some .int) ∈ tW := List.mem_filter.mpr ⟨List.mem_of_getElem? (i := 527) (by decide +kernel), by decide +kernel⟩
theorem q528 : Cond.methodLink "NineLandsLaw" 106 yX3_year ∈ tW := List.mem_filter.mpr ⟨List.mem_of_getElem? (i := 528) (by decide +kernel), by decide +kernel⟩
theorem q529 : Cond.instanceMethod yX3_year ∈ tW := List.mem_filter.mpr ⟨List.mem_of_getElem? (i := 529) (by decide +kernel), by decide +kernel⟩
theorem q530 : Cond.selects "NineLands" yX3_year yX3_year ∈ tW := List.mem_filter.mpr ⟨List.mem_of_getElem? (i := 530) (by decide +kernel), by decide +kernel⟩
theorem q531 : Cond.code yX3_year cX3_year 8 (some .int) ∈ tW := List.mem_filter.mpr ⟨List.mem_of_getElem? (i := 531) (by decide +kernel), by decide +kernel⟩
theorem q532 : Cond.methodLink "NineLands" 165 yX3_refuseSum ∈ tW := List.mem_filter.mpr ⟨List.mem_of_getElem? (i := 532) (by decide +kernel), by decide +kernel⟩
theorem q534 : Cond.instanceMethod yX3_refuseSum ∈ tW := List.mem_filter.mpr ⟨List.mem_of_getElem? (i := 534) (by decide +kernel), by decide +kernel⟩
theorem q535 : Cond.code yX3_refuseSum cX3_refuseSum 2 (some .int) ∈ tW := List.mem_filter.mpr ⟨List.mem_of_getElem? (i := 535) (by decide +kernel), by decide +kernel⟩
theorem q536 : Cond.constant "NineLands" 190 (1000000000) ∈ tW := List.mem_filter.mpr ⟨List.mem_of_getElem? (i := 536) (by decide +kernel), by decide +kernel⟩
theorem q537 : Cond.methodLink "NineLands" 168 yX3_owedByAllWithYear ∈ tW := List.mem_filter.mpr ⟨List.mem_of_getElem? (i := 537) (by decide +kernel), by decide +kernel⟩
theorem q539 : Cond.instanceMethod yX3_owedByAllWithYear ∈ tW := List.mem_filter.mpr ⟨List.mem_of_getElem? (i := 539) (by decide +kernel), by decide +kernel⟩
theorem q540 : Cond.code yX3_owedByAllWithYear cX3_owedByAllWithYear 3 (some .int) ∈ tW := List.mem_filter.mpr ⟨List.mem_of_getElem? (i := 540) (by decide +kernel), by decide +kernel⟩
theorem q541 : Cond.methodLink "NineLandsLaw" 110 yX3_proof ∈ tW := List.mem_filter.mpr ⟨List.mem_of_getElem? (i := 541) (by decide +kernel), by decide +kernel⟩
theorem q542 : Cond.instanceMethod yX3_proof ∈ tW := List.mem_filter.mpr ⟨List.mem_of_getElem? (i := 542) (by decide +kernel), by decide +kernel⟩
theorem q543 : Cond.selects "NineLands" yX3_proof yX3_proof ∈ tW := List.mem_filter.mpr ⟨List.mem_of_getElem? (i := 543) (by decide +kernel), by decide +kernel⟩
theorem q544 : Cond.code yX3_proof cX3_proof 3 (some .int) ∈ tW := List.mem_filter.mpr ⟨List.mem_of_getElem? (i := 544) (by decide +kernel), by decide +kernel⟩
theorem q545 : Cond.methodLink "NineLandsLaw" 114 yX3_put ∈ tW := List.mem_filter.mpr ⟨List.mem_of_getElem? (i := 545) (by decide +kernel), by decide +kernel⟩
theorem q546 : Cond.instanceMethod yX3_put ∈ tW := List.mem_filter.mpr ⟨List.mem_of_getElem? (i := 546) (by decide +kernel), by decide +kernel⟩
theorem q547 : Cond.selects "NineLands" yX3_put yX3_put ∈ tW := List.mem_filter.mpr ⟨List.mem_of_getElem? (i := 547) (by decide +kernel), by decide +kernel⟩
theorem q548 : Cond.code yX3_put cX3_put 2 (some .int) ∈ tW := List.mem_filter.mpr ⟨List.mem_of_getElem? (i := 548) (by decide +kernel), by decide +kernel⟩
theorem q549 : Cond.methodLink "NineLandsLaw" 118 yX3_judge ∈ tW := List.mem_filter.mpr ⟨List.mem_of_getElem? (i := 549) (by decide +kernel), by decide +kernel⟩
theorem q550 : Cond.instanceMethod yX3_judge ∈ tW := List.mem_filter.mpr ⟨List.mem_of_getElem? (i := 550) (by decide +kernel), by decide +kernel⟩
theorem q551 : Cond.selects "NineLands" yX3_judge yX3_judge ∈ tW := List.mem_filter.mpr ⟨List.mem_of_getElem? (i := 551) (by decide +kernel), by decide +kernel⟩
theorem q552 : Cond.code yX3_judge cX3_judge 4 (some .int) ∈ tW := List.mem_filter.mpr ⟨List.mem_of_getElem? (i := 552) (by decide +kernel), by decide +kernel⟩
theorem q553 : Cond.methodLink "NineLands" 171 yJ7_fill_fda19 ∈ tW := List.mem_filter.mpr ⟨List.mem_of_getElem? (i := 553) (by decide +kernel), by decide +kernel⟩
theorem q554 : Cond.static yJ7_fill_fda19 ∈ tW := List.mem_filter.mpr ⟨List.mem_of_getElem? (i := 554) (by decide +kernel), by decide +kernel⟩
theorem q555 : Cond.code yJ7_fill_fda19 cJ7_fill_fda19 5 none ∈ tW := List.mem_filter.mpr ⟨List.mem_of_getElem? (i := 555) (by decide +kernel), by decide +kernel⟩
theorem q556 : Cond.methodLink "java/util/Arrays" 13 yJ7_rangeCheck_23922 ∈ tW := List.mem_filter.mpr ⟨List.mem_of_getElem? (i := 556) (by decide +kernel), by decide +kernel⟩
theorem q557 : Cond.static yJ7_rangeCheck_23922 ∈ tW := List.mem_filter.mpr ⟨List.mem_of_getElem? (i := 557) (by decide +kernel), by decide +kernel⟩
theorem q558 : Cond.code yJ7_rangeCheck_23922 cJ7_rangeCheck_23922 3 none ∈ tW := List.mem_filter.mpr ⟨List.mem_of_getElem? (i := 558) (by decide +kernel), by decide +kernel⟩
theorem q559 : Cond.methodLink "NineLands" 177 yX3_sumOf ∈ tW := List.mem_filter.mpr ⟨List.mem_of_getElem? (i := 559) (by decide +kernel), by decide +kernel⟩
theorem q560 : Cond.methodLink "NineLandsLaw" 122 yX3_image ∈ tW := List.mem_filter.mpr ⟨List.mem_of_getElem? (i := 560) (by decide +kernel), by decide +kernel⟩
theorem q561 : Cond.instanceMethod yX3_image ∈ tW := List.mem_filter.mpr ⟨List.mem_of_getElem? (i := 561) (by decide +kernel), by decide +kernel⟩
theorem q562 : Cond.selects "NineLands" yX3_image yX3_image ∈ tW := List.mem_filter.mpr ⟨List.mem_of_getElem? (i := 562) (by decide +kernel), by decide +kernel⟩
theorem q563 : Cond.code yX3_image cX3_image 1 (some .int) ∈ tW := List.mem_filter.mpr ⟨List.mem_of_getElem? (i := 563) (by decide +kernel), by decide +kernel⟩
theorem q564 : Cond.methodLinkNest "NineLands" 181 yX0_copyFrom "NineLands" ∈ nW := List.mem_filter.mpr ⟨List.mem_of_getElem? (i := 564) (by decide +kernel), by decide +kernel⟩
theorem q566 : Cond.instanceMethod yX0_copyFrom ∈ tW := List.mem_filter.mpr ⟨List.mem_of_getElem? (i := 566) (by decide +kernel), by decide +kernel⟩
theorem q567 : Cond.code yX0_copyFrom cX0_copyFrom 3 none ∈ tW := List.mem_filter.mpr ⟨List.mem_of_getElem? (i := 567) (by decide +kernel), by decide +kernel⟩
theorem q568 : Cond.methodLink "NineLandsLaw" 126 yX3_on ∈ tW := List.mem_filter.mpr ⟨List.mem_of_getElem? (i := 568) (by decide +kernel), by decide +kernel⟩
theorem q569 : Cond.instanceMethod yX3_on ∈ tW := List.mem_filter.mpr ⟨List.mem_of_getElem? (i := 569) (by decide +kernel), by decide +kernel⟩
theorem q570 : Cond.selects "NineLands" yX3_on yX3_on ∈ tW := List.mem_filter.mpr ⟨List.mem_of_getElem? (i := 570) (by decide +kernel), by decide +kernel⟩
theorem q571 : Cond.code yX3_on cX3_on 1 (some .int) ∈ tW := List.mem_filter.mpr ⟨List.mem_of_getElem? (i := 571) (by decide +kernel), by decide +kernel⟩
theorem q572 : Cond.methodLink "NineLandsLaw" 130 yX3_count ∈ tW := List.mem_filter.mpr ⟨List.mem_of_getElem? (i := 572) (by decide +kernel), by decide +kernel⟩
theorem q573 : Cond.instanceMethod yX3_count ∈ tW := List.mem_filter.mpr ⟨List.mem_of_getElem? (i := 573) (by decide +kernel), by decide +kernel⟩
theorem q574 : Cond.selects "NineLands" yX3_count yX3_count ∈ tW := List.mem_filter.mpr ⟨List.mem_of_getElem? (i := 574) (by decide +kernel), by decide +kernel⟩
theorem q575 : Cond.code yX3_count cX3_count 2 (some .int) ∈ tW := List.mem_filter.mpr ⟨List.mem_of_getElem? (i := 575) (by decide +kernel), by decide +kernel⟩
theorem q576 : Cond.methodLinkNest "NineLands" 184 yX0_shownSpells "NineLands" ∈ nW := List.mem_filter.mpr ⟨List.mem_of_getElem? (i := 576) (by decide +kernel), by decide +kernel⟩
theorem q578 : Cond.instanceMethod yX0_shownSpells ∈ tW := List.mem_filter.mpr ⟨List.mem_of_getElem? (i := 578) (by decide +kernel), by decide +kernel⟩
theorem q579 : Cond.code yX0_shownSpells cX0_shownSpells 3 (some .int) ∈ tW := List.mem_filter.mpr ⟨List.mem_of_getElem? (i := 579) (by decide +kernel), by decide +kernel⟩
theorem q580 : Cond.methodLinkNest "NineLands" 187 yX0_madePacts "NineLands" ∈ nW := List.mem_filter.mpr ⟨List.mem_of_getElem? (i := 580) (by decide +kernel), by decide +kernel⟩
theorem q582 : Cond.instanceMethod yX0_madePacts ∈ tW := List.mem_filter.mpr ⟨List.mem_of_getElem? (i := 582) (by decide +kernel), by decide +kernel⟩
theorem q583 : Cond.code yX0_madePacts cX0_madePacts 4 (some .int) ∈ tW := List.mem_filter.mpr ⟨List.mem_of_getElem? (i := 583) (by decide +kernel), by decide +kernel⟩
theorem q590 : Cond.fieldLink "NineLandsModel" 7 "NineLandsModel" "refused" "[I" ∈ tW := List.mem_filter.mpr ⟨List.mem_of_getElem? (i := 590) (by decide +kernel), by decide +kernel⟩
theorem q591 : Cond.fieldLink "NineLandsModel" 13 "NineLandsModel" "tape" "[I" ∈ tW := List.mem_filter.mpr ⟨List.mem_of_getElem? (i := 591) (by decide +kernel), by decide +kernel⟩
theorem q592 : Cond.fieldLink "NineLandsModel" 16 "NineLandsModel" "landOf" "[I" ∈ tW := List.mem_filter.mpr ⟨List.mem_of_getElem? (i := 592) (by decide +kernel), by decide +kernel⟩
theorem q593 : Cond.fieldLink "NineLandsModel" 19 "NineLandsModel" "work" "[I" ∈ tW := List.mem_filter.mpr ⟨List.mem_of_getElem? (i := 593) (by decide +kernel), by decide +kernel⟩
theorem q594 : Cond.fieldLink "NineLandsModel" 22 "NineLandsModel" "from" "[I" ∈ tW := List.mem_filter.mpr ⟨List.mem_of_getElem? (i := 594) (by decide +kernel), by decide +kernel⟩
theorem q595 : Cond.fieldLink "NineLandsModel" 25 "NineLandsModel" "till" "[I" ∈ tW := List.mem_filter.mpr ⟨List.mem_of_getElem? (i := 595) (by decide +kernel), by decide +kernel⟩
theorem q596 : Cond.fieldLink "NineLandsModel" 28 "NineLandsModel" "pay" "[I" ∈ tW := List.mem_filter.mpr ⟨List.mem_of_getElem? (i := 596) (by decide +kernel), by decide +kernel⟩
theorem q597 : Cond.fieldLink "NineLandsModel" 31 "NineLandsModel" "paidIn" "[I" ∈ tW := List.mem_filter.mpr ⟨List.mem_of_getElem? (i := 597) (by decide +kernel), by decide +kernel⟩
theorem q598 : Cond.fieldLink "NineLandsModel" 34 "NineLandsModel" "shown" "[I" ∈ tW := List.mem_filter.mpr ⟨List.mem_of_getElem? (i := 598) (by decide +kernel), by decide +kernel⟩
theorem q599 : Cond.fieldLink "NineLandsModel" 37 "NineLandsModel" "law" "[I" ∈ tW := List.mem_filter.mpr ⟨List.mem_of_getElem? (i := 599) (by decide +kernel), by decide +kernel⟩
theorem q600 : Cond.fieldLink "NineLandsModel" 40 "NineLandsModel" "kind" "[I" ∈ tW := List.mem_filter.mpr ⟨List.mem_of_getElem? (i := 600) (by decide +kernel), by decide +kernel⟩
theorem q601 : Cond.fieldLink "NineLandsModel" 43 "NineLandsModel" "pact" "[I" ∈ tW := List.mem_filter.mpr ⟨List.mem_of_getElem? (i := 601) (by decide +kernel), by decide +kernel⟩
theorem q602 : Cond.fieldLink "NineLandsModel" 46 "NineLandsModel" "top" "[I" ∈ tW := List.mem_filter.mpr ⟨List.mem_of_getElem? (i := 602) (by decide +kernel), by decide +kernel⟩
theorem q603 : Cond.fieldLink "NineLandsModel" 82 "NineLandsModel" "taped" "I" ∈ tW := List.mem_filter.mpr ⟨List.mem_of_getElem? (i := 603) (by decide +kernel), by decide +kernel⟩
theorem q604 : Cond.fieldLink "NineLandsModel" 91 "NineLandsModel" "at" "I" ∈ tW := List.mem_filter.mpr ⟨List.mem_of_getElem? (i := 604) (by decide +kernel), by decide +kernel⟩
theorem q605 : Cond.fieldLink "NineLandsModel" 102 "NineLandsModel" "spells" "I" ∈ tW := List.mem_filter.mpr ⟨List.mem_of_getElem? (i := 605) (by decide +kernel), by decide +kernel⟩
theorem q606 : Cond.fieldLink "NineLandsModel" 49 "NineLandsModel" "without" "I" ∈ tW := List.mem_filter.mpr ⟨List.mem_of_getElem? (i := 606) (by decide +kernel), by decide +kernel⟩
theorem q607 : Cond.fieldLink "NineLandsModel" 53 "NineLandsModel" "month" "[I" ∈ tW := List.mem_filter.mpr ⟨List.mem_of_getElem? (i := 607) (by decide +kernel), by decide +kernel⟩
theorem q608 : Cond.fieldLink "NineLandsModel" 56 "NineLandsModel" "many" "[I" ∈ tW := List.mem_filter.mpr ⟨List.mem_of_getElem? (i := 608) (by decide +kernel), by decide +kernel⟩
theorem q609 : Cond.fieldLink "NineLandsModel" 59 "NineLandsModel" "pays" "[I" ∈ tW := List.mem_filter.mpr ⟨List.mem_of_getElem? (i := 609) (by decide +kernel), by decide +kernel⟩
theorem q610 : Cond.fieldLink "NineLandsModel" 62 "NineLandsModel" "putMany" "[I" ∈ tW := List.mem_filter.mpr ⟨List.mem_of_getElem? (i := 610) (by decide +kernel), by decide +kernel⟩
theorem q611 : Cond.fieldLink "NineLandsModel" 65 "NineLandsModel" "putPays" "[I" ∈ tW := List.mem_filter.mpr ⟨List.mem_of_getElem? (i := 611) (by decide +kernel), by decide +kernel⟩
theorem q612 : Cond.fieldLink "NineLandsModel" 68 "NineLandsModel" "owes" "[I" ∈ tW := List.mem_filter.mpr ⟨List.mem_of_getElem? (i := 612) (by decide +kernel), by decide +kernel⟩
theorem q613 : Cond.fieldLink "NineLandsModel" 152 "NineLandsModel" "isResting" "Z" ∈ tW := List.mem_filter.mpr ⟨List.mem_of_getElem? (i := 613) (by decide +kernel), by decide +kernel⟩
theorem q614 : Cond.fieldLink "NineLandsModel" 71 "NineLandsModel" "row" "[I" ∈ tW := List.mem_filter.mpr ⟨List.mem_of_getElem? (i := 614) (by decide +kernel), by decide +kernel⟩
theorem q615 : Cond.fieldLink "NineLandsModel" 182 "NineLandsModel" "rowMany" "I" ∈ tW := List.mem_filter.mpr ⟨List.mem_of_getElem? (i := 615) (by decide +kernel), by decide +kernel⟩
theorem q616 : Cond.fieldLink "NineLandsModel" 74 "NineLandsModel" "kept" "[I" ∈ tW := List.mem_filter.mpr ⟨List.mem_of_getElem? (i := 616) (by decide +kernel), by decide +kernel⟩
theorem q617 : Cond.fieldLink "NineLandsModel" 195 "NineLandsModel" "hasImage" "Z" ∈ tW := List.mem_filter.mpr ⟨List.mem_of_getElem? (i := 617) (by decide +kernel), by decide +kernel⟩
theorem q618 : Cond.fieldLink "NineLandsModel" 185 "NineLandsModel" "isKeeping" "Z" ∈ tW := List.mem_filter.mpr ⟨List.mem_of_getElem? (i := 618) (by decide +kernel), by decide +kernel⟩
theorem q619 : Cond.fieldLink "NineLandsModel" 188 "NineLandsModel" "cursor" "I" ∈ tW := List.mem_filter.mpr ⟨List.mem_of_getElem? (i := 619) (by decide +kernel), by decide +kernel⟩
theorem q681 : Cond.methodLink "NineLandsLaw" 19 yX4_feed ∈ tW := List.mem_filter.mpr ⟨List.mem_of_getElem? (i := 681) (by decide +kernel), by decide +kernel⟩
theorem q682 : Cond.instanceMethod yX4_feed ∈ tW := List.mem_filter.mpr ⟨List.mem_of_getElem? (i := 682) (by decide +kernel), by decide +kernel⟩
theorem q683 : Cond.selects "NineLandsModel" yX4_feed yX4_feed ∈ tW := List.mem_filter.mpr ⟨List.mem_of_getElem? (i := 683) (by decide +kernel), by decide +kernel⟩
theorem q684 : Cond.code yX4_feed cX4_feed 6 (some .int) ∈ tW := List.mem_filter.mpr ⟨List.mem_of_getElem? (i := 684) (by decide +kernel), by decide +kernel⟩
theorem q685 : Cond.methodLink "NineLandsModel" 78 yX4_out ∈ tW := List.mem_filter.mpr ⟨List.mem_of_getElem? (i := 685) (by decide +kernel), by decide +kernel⟩
theorem q686 : Cond.static yX4_out ∈ tW := List.mem_filter.mpr ⟨List.mem_of_getElem? (i := 686) (by decide +kernel), by decide +kernel⟩
theorem q687 : Cond.code yX4_out cX4_out 3 (some .int) ∈ tW := List.mem_filter.mpr ⟨List.mem_of_getElem? (i := 687) (by decide +kernel), by decide +kernel⟩
theorem q688 : Cond.methodLink "NineLandsModel" 85 yX4_no ∈ tW := List.mem_filter.mpr ⟨List.mem_of_getElem? (i := 688) (by decide +kernel), by decide +kernel⟩
theorem q690 : Cond.instanceMethod yX4_no ∈ tW := List.mem_filter.mpr ⟨List.mem_of_getElem? (i := 690) (by decide +kernel), by decide +kernel⟩
theorem q691 : Cond.code yX4_no cX4_no 2 (some .int) ∈ tW := List.mem_filter.mpr ⟨List.mem_of_getElem? (i := 691) (by decide +kernel), by decide +kernel⟩
theorem q692 : Cond.constantLong "NineLandsModel" 89 (255) ∈ tW := List.mem_filter.mpr ⟨List.mem_of_getElem? (i := 692) (by decide +kernel), by decide +kernel⟩
theorem q693 : Cond.methodLink "NineLandsLaw" 24 yX4_spell ∈ tW := List.mem_filter.mpr ⟨List.mem_of_getElem? (i := 693) (by decide +kernel), by decide +kernel⟩
theorem q694 : Cond.instanceMethod yX4_spell ∈ tW := List.mem_filter.mpr ⟨List.mem_of_getElem? (i := 694) (by decide +kernel), by decide +kernel⟩
theorem q695 : Cond.selects "NineLandsModel" yX4_spell yX4_spell ∈ tW := List.mem_filter.mpr ⟨List.mem_of_getElem? (i := 695) (by decide +kernel), by decide +kernel⟩
theorem q696 : Cond.code yX4_spell cX4_spell 2 (some .int) ∈ tW := List.mem_filter.mpr ⟨List.mem_of_getElem? (i := 696) (by decide +kernel), by decide +kernel⟩
theorem q697 : Cond.methodLink "NineLandsModel" 115 yX4_reads ∈ tW := List.mem_filter.mpr ⟨List.mem_of_getElem? (i := 697) (by decide +kernel), by decide +kernel⟩
theorem q699 : Cond.instanceMethod yX4_reads ∈ tW := List.mem_filter.mpr ⟨List.mem_of_getElem? (i := 699) (by decide +kernel), by decide +kernel⟩
theorem q700 : Cond.code yX4_reads cX4_reads 4 (some .boolean) ∈ tW := List.mem_filter.mpr ⟨List.mem_of_getElem? (i := 700) (by decide +kernel), by decide +kernel⟩
theorem q701 : Cond.methodLink "NineLandsModel" 94 yX4_sign ∈ tW := List.mem_filter.mpr ⟨List.mem_of_getElem? (i := 701) (by decide +kernel), by decide +kernel⟩
theorem q703 : Cond.instanceMethod yX4_sign ∈ tW := List.mem_filter.mpr ⟨List.mem_of_getElem? (i := 703) (by decide +kernel), by decide +kernel⟩
theorem q704 : Cond.code yX4_sign cX4_sign 1 (some .int) ∈ tW := List.mem_filter.mpr ⟨List.mem_of_getElem? (i := 704) (by decide +kernel), by decide +kernel⟩
theorem q705 : Cond.methodLink "NineLandsModel" 105 yX4_isLand ∈ tW := List.mem_filter.mpr ⟨List.mem_of_getElem? (i := 705) (by decide +kernel), by decide +kernel⟩
theorem q706 : Cond.static yX4_isLand ∈ tW := List.mem_filter.mpr ⟨List.mem_of_getElem? (i := 706) (by decide +kernel), by decide +kernel⟩
theorem q707 : Cond.code yX4_isLand cX4_isLand 1 (some .boolean) ∈ tW := List.mem_filter.mpr ⟨List.mem_of_getElem? (i := 707) (by decide +kernel), by decide +kernel⟩
theorem q708 : Cond.methodLink "NineLandsModel" 109 yX4_number ∈ tW := List.mem_filter.mpr ⟨List.mem_of_getElem? (i := 708) (by decide +kernel), by decide +kernel⟩
theorem q710 : Cond.instanceMethod yX4_number ∈ tW := List.mem_filter.mpr ⟨List.mem_of_getElem? (i := 710) (by decide +kernel), by decide +kernel⟩
theorem q711 : Cond.code yX4_number cX4_number 3 (some .int) ∈ tW := List.mem_filter.mpr ⟨List.mem_of_getElem? (i := 711) (by decide +kernel), by decide +kernel⟩
theorem q712 : Cond.methodLink "NineLandsModel" 98 yX4_isIn ∈ tW := List.mem_filter.mpr ⟨List.mem_of_getElem? (i := 712) (by decide +kernel), by decide +kernel⟩
theorem q713 : Cond.static yX4_isIn ∈ tW := List.mem_filter.mpr ⟨List.mem_of_getElem? (i := 713) (by decide +kernel), by decide +kernel⟩
theorem q714 : Cond.code yX4_isIn cX4_isIn 3 (some .boolean) ∈ tW := List.mem_filter.mpr ⟨List.mem_of_getElem? (i := 714) (by decide +kernel), by decide +kernel⟩
theorem q715 : Cond.methodLink "NineLandsModel" 112 yX4_takes ∈ tW := List.mem_filter.mpr ⟨List.mem_of_getElem? (i := 715) (by decide +kernel), by decide +kernel⟩
theorem q717 : Cond.instanceMethod yX4_takes ∈ tW := List.mem_filter.mpr ⟨List.mem_of_getElem? (i := 717) (by decide +kernel), by decide +kernel⟩
theorem q718 : Cond.code yX4_takes cX4_takes 2 (some .boolean) ∈ tW := List.mem_filter.mpr ⟨List.mem_of_getElem? (i := 718) (by decide +kernel), by decide +kernel⟩
theorem q719 : Cond.methodLink "NineLandsLaw" 29 yX4_spellOf ∈ tW := List.mem_filter.mpr ⟨List.mem_of_getElem? (i := 719) (by decide +kernel), by decide +kernel⟩
theorem q720 : Cond.instanceMethod yX4_spellOf ∈ tW := List.mem_filter.mpr ⟨List.mem_of_getElem? (i := 720) (by decide +kernel), by decide +kernel⟩
theorem q721 : Cond.selects "NineLandsModel" yX4_spellOf yX4_spellOf ∈ tW := List.mem_filter.mpr ⟨List.mem_of_getElem? (i := 721) (by decide +kernel), by decide +kernel⟩
theorem q722 : Cond.code yX4_spellOf cX4_spellOf 3 (some .int) ∈ tW := List.mem_filter.mpr ⟨List.mem_of_getElem? (i := 722) (by decide +kernel), by decide +kernel⟩
theorem q723 : Cond.methodLink "NineLandsModel" 119 yX4_isSpell ∈ tW := List.mem_filter.mpr ⟨List.mem_of_getElem? (i := 723) (by decide +kernel), by decide +kernel⟩
theorem q725 : Cond.instanceMethod yX4_isSpell ∈ tW := List.mem_filter.mpr ⟨List.mem_of_getElem? (i := 725) (by decide +kernel), by decide +kernel⟩
theorem q726 : Cond.code yX4_isSpell cX4_isSpell 2 (some .boolean) ∈ tW := List.mem_filter.mpr ⟨List.mem_of_getElem? (i := 726) (by decide +kernel), by decide +kernel⟩
theorem q727 : Cond.methodLink "NineLandsLaw" 34 yX4_show ∈ tW := List.mem_filter.mpr ⟨List.mem_of_getElem? (i := 727) (by decide +kernel), by decide +kernel⟩
theorem q728 : Cond.instanceMethod yX4_show ∈ tW := List.mem_filter.mpr ⟨List.mem_of_getElem? (i := 728) (by decide +kernel), by decide +kernel⟩
theorem q729 : Cond.selects "NineLandsModel" yX4_show yX4_show ∈ tW := List.mem_filter.mpr ⟨List.mem_of_getElem? (i := 729) (by decide +kernel), by decide +kernel⟩
theorem q730 : Cond.code yX4_show cX4_show 3 (some .int) ∈ tW := List.mem_filter.mpr ⟨List.mem_of_getElem? (i := 730) (by decide +kernel), by decide +kernel⟩
theorem q731 : Cond.methodLink "NineLandsLaw" 39 yX4_law ∈ tW := List.mem_filter.mpr ⟨List.mem_of_getElem? (i := 731) (by decide +kernel), by decide +kernel⟩
theorem q732 : Cond.instanceMethod yX4_law ∈ tW := List.mem_filter.mpr ⟨List.mem_of_getElem? (i := 732) (by decide +kernel), by decide +kernel⟩
theorem q733 : Cond.selects "NineLandsModel" yX4_law yX4_law ∈ tW := List.mem_filter.mpr ⟨List.mem_of_getElem? (i := 733) (by decide +kernel), by decide +kernel⟩
theorem q734 : Cond.code yX4_law cX4_law 6 (some .int) ∈ tW := List.mem_filter.mpr ⟨List.mem_of_getElem? (i := 734) (by decide +kernel), by decide +kernel⟩
theorem q735 : Cond.methodLink "NineLandsLaw" 43 yX4_kind ∈ tW := List.mem_filter.mpr ⟨List.mem_of_getElem? (i := 735) (by decide +kernel), by decide +kernel⟩
theorem q736 : Cond.instanceMethod yX4_kind ∈ tW := List.mem_filter.mpr ⟨List.mem_of_getElem? (i := 736) (by decide +kernel), by decide +kernel⟩
theorem q737 : Cond.selects "NineLandsModel" yX4_kind yX4_kind ∈ tW := List.mem_filter.mpr ⟨List.mem_of_getElem? (i := 737) (by decide +kernel), by decide +kernel⟩
theorem q738 : Cond.code yX4_kind cX4_kind 4 (some .int) ∈ tW := List.mem_filter.mpr ⟨List.mem_of_getElem? (i := 738) (by decide +kernel), by decide +kernel⟩
theorem q739 : Cond.methodLink "NineLandsLaw" 48 yX4_pact ∈ tW := List.mem_filter.mpr ⟨List.mem_of_getElem? (i := 739) (by decide +kernel), by decide +kernel⟩
theorem q740 : Cond.instanceMethod yX4_pact ∈ tW := List.mem_filter.mpr ⟨List.mem_of_getElem? (i := 740) (by decide +kernel), by decide +kernel⟩
theorem q741 : Cond.selects "NineLandsModel" yX4_pact yX4_pact ∈ tW := List.mem_filter.mpr ⟨List.mem_of_getElem? (i := 741) (by decide +kernel), by decide +kernel⟩
theorem q742 : Cond.code yX4_pact cX4_pact 4 (some .int) ∈ tW := List.mem_filter.mpr ⟨List.mem_of_getElem? (i := 742) (by decide +kernel), by decide +kernel⟩
theorem q743 : Cond.methodLink "NineLandsLaw" 52 yX4_counts ∈ tW := List.mem_filter.mpr ⟨List.mem_of_getElem? (i := 743) (by decide +kernel), by decide +kernel⟩
theorem q744 : Cond.instanceMethod yX4_counts ∈ tW := List.mem_filter.mpr ⟨List.mem_of_getElem? (i := 744) (by decide +kernel), by decide +kernel⟩
theorem q745 : Cond.selects "NineLandsModel" yX4_counts yX4_counts ∈ tW := List.mem_filter.mpr ⟨List.mem_of_getElem? (i := 745) (by decide +kernel), by decide +kernel⟩
theorem q746 : Cond.code yX4_counts cX4_counts 3 (some .int) ∈ tW := List.mem_filter.mpr ⟨List.mem_of_getElem? (i := 746) (by decide +kernel), by decide +kernel⟩
theorem q747 : Cond.methodLink "NineLandsModel" 133 yX4_findMonths ∈ tW := List.mem_filter.mpr ⟨List.mem_of_getElem? (i := 747) (by decide +kernel), by decide +kernel⟩
theorem q749 : Cond.instanceMethod yX4_findMonths ∈ tW := List.mem_filter.mpr ⟨List.mem_of_getElem? (i := 749) (by decide +kernel), by decide +kernel⟩
theorem q750 : Cond.code yX4_findMonths cX4_findMonths 5 none ∈ tW := List.mem_filter.mpr ⟨List.mem_of_getElem? (i := 750) (by decide +kernel), by decide +kernel⟩
theorem q751 : Cond.methodLink "NineLandsModel" 122 yX4_lawOf ∈ tW := List.mem_filter.mpr ⟨List.mem_of_getElem? (i := 751) (by decide +kernel), by decide +kernel⟩
theorem q753 : Cond.instanceMethod yX4_lawOf ∈ tW := List.mem_filter.mpr ⟨List.mem_of_getElem? (i := 753) (by decide +kernel), by decide +kernel⟩
theorem q754 : Cond.code yX4_lawOf cX4_lawOf 3 (some .int) ∈ tW := List.mem_filter.mpr ⟨List.mem_of_getElem? (i := 754) (by decide +kernel), by decide +kernel⟩
theorem q755 : Cond.methodLink "NineLandsModel" 126 yX4_sums ∈ tW := List.mem_filter.mpr ⟨List.mem_of_getElem? (i := 755) (by decide +kernel), by decide +kernel⟩
theorem q757 : Cond.instanceMethod yX4_sums ∈ tW := List.mem_filter.mpr ⟨List.mem_of_getElem? (i := 757) (by decide +kernel), by decide +kernel⟩
theorem q758 : Cond.code yX4_sums cX4_sums 5 none ∈ tW := List.mem_filter.mpr ⟨List.mem_of_getElem? (i := 758) (by decide +kernel), by decide +kernel⟩
theorem q759 : Cond.methodLink "NineLandsModel" 130 yX4_putPay ∈ tW := List.mem_filter.mpr ⟨List.mem_of_getElem? (i := 759) (by decide +kernel), by decide +kernel⟩
theorem q761 : Cond.instanceMethod yX4_putPay ∈ tW := List.mem_filter.mpr ⟨List.mem_of_getElem? (i := 761) (by decide +kernel), by decide +kernel⟩
theorem q762 : Cond.code yX4_putPay cX4_putPay 4 (some .int) ∈ tW := List.mem_filter.mpr ⟨List.mem_of_getElem? (i := 762) (by decide +kernel), by decide +kernel⟩
theorem q763 : Cond.methodLink "NineLandsLaw" 56 yX4_month ∈ tW := List.mem_filter.mpr ⟨List.mem_of_getElem? (i := 763) (by decide +kernel), by decide +kernel⟩
theorem q764 : Cond.instanceMethod yX4_month ∈ tW := List.mem_filter.mpr ⟨List.mem_of_getElem? (i := 764) (by decide +kernel), by decide +kernel⟩
theorem q765 : Cond.selects "NineLandsModel" yX4_month yX4_month ∈ tW := List.mem_filter.mpr ⟨List.mem_of_getElem? (i := 765) (by decide +kernel), by decide +kernel⟩
theorem q766 : Cond.code yX4_month cX4_month 5 (some .int) ∈ tW := List.mem_filter.mpr ⟨List.mem_of_getElem? (i := 766) (by decide +kernel), by decide +kernel⟩
theorem q767 : Cond.methodLink "NineLandsLaw" 61 yX4_over ∈ tW := List.mem_filter.mpr ⟨List.mem_of_getElem? (i := 767) (by decide +kernel), by decide +kernel⟩
theorem q768 : Cond.instanceMethod yX4_over ∈ tW := List.mem_filter.mpr ⟨List.mem_of_getElem? (i := 768) (by decide +kernel), by decide +kernel⟩
theorem q769 : Cond.selects "NineLandsModel" yX4_over yX4_over ∈ tW := List.mem_filter.mpr ⟨List.mem_of_getElem? (i := 769) (by decide +kernel), by decide +kernel⟩
theorem q770 : Cond.code yX4_over cX4_over 7 (some .int) ∈ tW := List.mem_filter.mpr ⟨List.mem_of_getElem? (i := 770) (by decide +kernel), by decide +kernel⟩
theorem q771 : Cond.methodLink "NineLandsLaw" 65 yX4_alone ∈ tW := List.mem_filter.mpr ⟨List.mem_of_getElem? (i := 771) (by decide +kernel), by decide +kernel⟩
theorem q772 : Cond.instanceMethod yX4_alone ∈ tW := List.mem_filter.mpr ⟨List.mem_of_getElem? (i := 772) (by decide +kernel), by decide +kernel⟩
theorem q773 : Cond.selects "NineLandsModel" yX4_alone yX4_alone ∈ tW := List.mem_filter.mpr ⟨List.mem_of_getElem? (i := 773) (by decide +kernel), by decide +kernel⟩
theorem q774 : Cond.code yX4_alone cX4_alone 3 (some .int) ∈ tW := List.mem_filter.mpr ⟨List.mem_of_getElem? (i := 774) (by decide +kernel), by decide +kernel⟩
theorem q775 : Cond.methodLink "NineLandsModel" 160 yX4_says ∈ tW := List.mem_filter.mpr ⟨List.mem_of_getElem? (i := 775) (by decide +kernel), by decide +kernel⟩
theorem q777 : Cond.instanceMethod yX4_says ∈ tW := List.mem_filter.mpr ⟨List.mem_of_getElem? (i := 777) (by decide +kernel), by decide +kernel⟩
theorem q778 : Cond.code yX4_says cX4_says 5 (some .int) ∈ tW := List.mem_filter.mpr ⟨List.mem_of_getElem? (i := 778) (by decide +kernel), by decide +kernel⟩
theorem q779 : Cond.methodLink "NineLandsModel" 136 yX4_isRight ∈ tW := List.mem_filter.mpr ⟨List.mem_of_getElem? (i := 779) (by decide +kernel), by decide +kernel⟩
theorem q781 : Cond.instanceMethod yX4_isRight ∈ tW := List.mem_filter.mpr ⟨List.mem_of_getElem? (i := 781) (by decide +kernel), by decide +kernel⟩
theorem q782 : Cond.code yX4_isRight cX4_isRight 3 (some .boolean) ∈ tW := List.mem_filter.mpr ⟨List.mem_of_getElem? (i := 782) (by decide +kernel), by decide +kernel⟩
theorem q783 : Cond.methodLink "NineLandsModel" 140 yX4_byRate ∈ tW := List.mem_filter.mpr ⟨List.mem_of_getElem? (i := 783) (by decide +kernel), by decide +kernel⟩
theorem q785 : Cond.instanceMethod yX4_byRate ∈ tW := List.mem_filter.mpr ⟨List.mem_of_getElem? (i := 785) (by decide +kernel), by decide +kernel⟩
theorem q786 : Cond.code yX4_byRate cX4_byRate 4 (some .int) ∈ tW := List.mem_filter.mpr ⟨List.mem_of_getElem? (i := 786) (by decide +kernel), by decide +kernel⟩
theorem q787 : Cond.methodLink "NineLandsModel" 146 yX4_leastOf ∈ tW := List.mem_filter.mpr ⟨List.mem_of_getElem? (i := 787) (by decide +kernel), by decide +kernel⟩
theorem q789 : Cond.instanceMethod yX4_leastOf ∈ tW := List.mem_filter.mpr ⟨List.mem_of_getElem? (i := 789) (by decide +kernel), by decide +kernel⟩
theorem q790 : Cond.code yX4_leastOf cX4_leastOf 2 (some .int) ∈ tW := List.mem_filter.mpr ⟨List.mem_of_getElem? (i := 790) (by decide +kernel), by decide +kernel⟩
theorem q791 : Cond.methodLink "NineLandsModel" 143 yX4_greater ∈ tW := List.mem_filter.mpr ⟨List.mem_of_getElem? (i := 791) (by decide +kernel), by decide +kernel⟩
theorem q792 : Cond.static yX4_greater ∈ tW := List.mem_filter.mpr ⟨List.mem_of_getElem? (i := 792) (by decide +kernel), by decide +kernel⟩
theorem q793 : Cond.code yX4_greater cX4_greater 2 (some .int) ∈ tW := List.mem_filter.mpr ⟨List.mem_of_getElem? (i := 793) (by decide +kernel), by decide +kernel⟩
theorem q794 : Cond.methodLink "NineLandsModel" 149 yX4_putOf ∈ tW := List.mem_filter.mpr ⟨List.mem_of_getElem? (i := 794) (by decide +kernel), by decide +kernel⟩
theorem q796 : Cond.instanceMethod yX4_putOf ∈ tW := List.mem_filter.mpr ⟨List.mem_of_getElem? (i := 796) (by decide +kernel), by decide +kernel⟩
theorem q797 : Cond.code yX4_putOf cX4_putOf 2 (some .int) ∈ tW := List.mem_filter.mpr ⟨List.mem_of_getElem? (i := 797) (by decide +kernel), by decide +kernel⟩
theorem q798 : Cond.methodLink "NineLandsLaw" 69 yX4_lacks ∈ tW := List.mem_filter.mpr ⟨List.mem_of_getElem? (i := 798) (by decide +kernel), by decide +kernel⟩
theorem q799 : Cond.instanceMethod yX4_lacks ∈ tW := List.mem_filter.mpr ⟨List.mem_of_getElem? (i := 799) (by decide +kernel), by decide +kernel⟩
theorem q800 : Cond.selects "NineLandsModel" yX4_lacks yX4_lacks ∈ tW := List.mem_filter.mpr ⟨List.mem_of_getElem? (i := 800) (by decide +kernel), by decide +kernel⟩
theorem q801 : Cond.code yX4_lacks cX4_lacks 3 (some .int) ∈ tW := List.mem_filter.mpr ⟨List.mem_of_getElem? (i := 801) (by decide +kernel), by decide +kernel⟩
theorem q802 : Cond.methodLink "NineLandsLaw" 73 yX4_owed ∈ tW := List.mem_filter.mpr ⟨List.mem_of_getElem? (i := 802) (by decide +kernel), by decide +kernel⟩
theorem q803 : Cond.instanceMethod yX4_owed ∈ tW := List.mem_filter.mpr ⟨List.mem_of_getElem? (i := 803) (by decide +kernel), by decide +kernel⟩
theorem q804 : Cond.selects "NineLandsModel" yX4_owed yX4_owed ∈ tW := List.mem_filter.mpr ⟨List.mem_of_getElem? (i := 804) (by decide +kernel), by decide +kernel⟩
theorem q805 : Cond.code yX4_owed cX4_owed 2 (some .int) ∈ tW := List.mem_filter.mpr ⟨List.mem_of_getElem? (i := 805) (by decide +kernel), by decide +kernel⟩
theorem q806 : Cond.methodLink "NineLandsModel" 163 yX4_finds ∈ tW := List.mem_filter.mpr ⟨List.mem_of_getElem? (i := 806) (by decide +kernel), by decide +kernel⟩
theorem q808 : Cond.instanceMethod yX4_finds ∈ tW := List.mem_filter.mpr ⟨List.mem_of_getElem? (i := 808) (by decide +kernel), by decide +kernel⟩
theorem q809 : Cond.code yX4_finds cX4_finds 5 none ∈ tW := List.mem_filter.mpr ⟨List.mem_of_getElem? (i := 809) (by decide +kernel), by decide +kernel⟩
theorem q810 : Cond.methodLink "NineLandsModel" 156 yX4_sumOf ∈ tW := List.mem_filter.mpr ⟨List.mem_of_getElem? (i := 810) (by decide +kernel), by decide +kernel⟩
theorem q812 : Cond.instanceMethod yX4_sumOf ∈ tW := List.mem_filter.mpr ⟨List.mem_of_getElem? (i := 812) (by decide +kernel), by decide +kernel⟩
theorem q813 : Cond.code yX4_sumOf cX4_sumOf 4 (some .int) ∈ tW := List.mem_filter.mpr ⟨List.mem_of_getElem? (i := 813) (by decide +kernel), by decide +kernel⟩
theorem q814 : Cond.methodLink "NineLandsLaw" 77 yX4_rests ∈ tW := List.mem_filter.mpr ⟨List.mem_of_getElem? (i := 814) (by decide +kernel), by decide +kernel⟩
theorem q815 : Cond.instanceMethod yX4_rests ∈ tW := List.mem_filter.mpr ⟨List.mem_of_getElem? (i := 815) (by decide +kernel), by decide +kernel⟩
theorem q816 : Cond.selects "NineLandsModel" yX4_rests yX4_rests ∈ tW := List.mem_filter.mpr ⟨List.mem_of_getElem? (i := 816) (by decide +kernel), by decide +kernel⟩
theorem q817 : Cond.code yX4_rests cX4_rests 1 (some .int) ∈ tW := List.mem_filter.mpr ⟨List.mem_of_getElem? (i := 817) (by decide +kernel), by decide +kernel⟩
theorem q818 : Cond.methodLink "NineLandsLaw" 81 yX4_all ∈ tW := List.mem_filter.mpr ⟨List.mem_of_getElem? (i := 818) (by decide +kernel), by decide +kernel⟩
theorem q819 : Cond.instanceMethod yX4_all ∈ tW := List.mem_filter.mpr ⟨List.mem_of_getElem? (i := 819) (by decide +kernel), by decide +kernel⟩
theorem q820 : Cond.selects "NineLandsModel" yX4_all yX4_all ∈ tW := List.mem_filter.mpr ⟨List.mem_of_getElem? (i := 820) (by decide +kernel), by decide +kernel⟩
theorem q821 : Cond.code yX4_all cX4_all 1 (some .int) ∈ tW := List.mem_filter.mpr ⟨List.mem_of_getElem? (i := 821) (by decide +kernel), by decide +kernel⟩
theorem q822 : Cond.methodLink "NineLandsLaw" 85 yX4_asks ∈ tW := List.mem_filter.mpr ⟨List.mem_of_getElem? (i := 822) (by decide +kernel), by decide +kernel⟩
theorem q823 : Cond.instanceMethod yX4_asks ∈ tW := List.mem_filter.mpr ⟨List.mem_of_getElem? (i := 823) (by decide +kernel), by decide +kernel⟩
theorem q824 : Cond.selects "NineLandsModel" yX4_asks yX4_asks ∈ tW := List.mem_filter.mpr ⟨List.mem_of_getElem? (i := 824) (by decide +kernel), by decide +kernel⟩
theorem q825 : Cond.code yX4_asks cX4_asks 5 (some .int) ∈ tW := List.mem_filter.mpr ⟨List.mem_of_getElem? (i := 825) (by decide +kernel), by decide +kernel⟩
theorem q826 : Cond.methodLink "NineLandsModel" 166 yX4_paid ∈ tW := List.mem_filter.mpr ⟨List.mem_of_getElem? (i := 826) (by decide +kernel), by decide +kernel⟩
theorem q828 : Cond.instanceMethod yX4_paid ∈ tW := List.mem_filter.mpr ⟨List.mem_of_getElem? (i := 828) (by decide +kernel), by decide +kernel⟩
theorem q829 : Cond.code yX4_paid cX4_paid 5 (some .int) ∈ tW := List.mem_filter.mpr ⟨List.mem_of_getElem? (i := 829) (by decide +kernel), by decide +kernel⟩
theorem q830 : Cond.methodLink "NineLandsLaw" 89 yX4_when ∈ tW := List.mem_filter.mpr ⟨List.mem_of_getElem? (i := 830) (by decide +kernel), by decide +kernel⟩
theorem q831 : Cond.instanceMethod yX4_when ∈ tW := List.mem_filter.mpr ⟨List.mem_of_getElem? (i := 831) (by decide +kernel), by decide +kernel⟩
theorem q832 : Cond.selects "NineLandsModel" yX4_when yX4_when ∈ tW := List.mem_filter.mpr ⟨List.mem_of_getElem? (i := 832) (by decide +kernel), by decide +kernel⟩
theorem q833 : Cond.code yX4_when cX4_when 9 (some .int) ∈ tW := List.mem_filter.mpr ⟨List.mem_of_getElem? (i := 833) (by decide +kernel), by decide +kernel⟩
theorem q834 : Cond.methodLink "NineLandsLaw" 93 yX4_lives ∈ tW := List.mem_filter.mpr ⟨List.mem_of_getElem? (i := 834) (by decide +kernel), by decide +kernel⟩
theorem q835 : Cond.instanceMethod yX4_lives ∈ tW := List.mem_filter.mpr ⟨List.mem_of_getElem? (i := 835) (by decide +kernel), by decide +kernel⟩
theorem q836 : Cond.selects "NineLandsModel" yX4_lives yX4_lives ∈ tW := List.mem_filter.mpr ⟨List.mem_of_getElem? (i := 836) (by decide +kernel), by decide +kernel⟩
theorem q837 : Cond.code yX4_lives cX4_lives 2 (some .int) ∈ tW := List.mem_filter.mpr ⟨List.mem_of_getElem? (i := 837) (by decide +kernel), by decide +kernel⟩
theorem q838 : Cond.methodLink "NineLandsModel" 169 yX4_livingIn ∈ tW := List.mem_filter.mpr ⟨List.mem_of_getElem? (i := 838) (by decide +kernel), by decide +kernel⟩
theorem q840 : Cond.instanceMethod yX4_livingIn ∈ tW := List.mem_filter.mpr ⟨List.mem_of_getElem? (i := 840) (by decide +kernel), by decide +kernel⟩
theorem q841 : Cond.code yX4_livingIn cX4_livingIn 4 (some .int) ∈ tW := List.mem_filter.mpr ⟨List.mem_of_getElem? (i := 841) (by decide +kernel), by decide +kernel⟩
theorem q842 : Cond.methodLink "NineLandsLaw" 97 yX4_where ∈ tW := List.mem_filter.mpr ⟨List.mem_of_getElem? (i := 842) (by decide +kernel), by decide +kernel⟩
theorem q843 : Cond.instanceMethod yX4_where ∈ tW := List.mem_filter.mpr ⟨List.mem_of_getElem? (i := 843) (by decide +kernel), by decide +kernel⟩
theorem q844 : Cond.selects "NineLandsModel" yX4_where yX4_where ∈ tW := List.mem_filter.mpr ⟨List.mem_of_getElem? (i := 844) (by decide +kernel), by decide +kernel⟩
theorem q845 : Cond.code yX4_where cX4_where 3 (some .int) ∈ tW := List.mem_filter.mpr ⟨List.mem_of_getElem? (i := 845) (by decide +kernel), by decide +kernel⟩
theorem q846 : Cond.methodLink "NineLandsLaw" 101 yX4_edge ∈ tW := List.mem_filter.mpr ⟨List.mem_of_getElem? (i := 846) (by decide +kernel), by decide +kernel⟩
theorem q847 : Cond.instanceMethod yX4_edge ∈ tW := List.mem_filter.mpr ⟨List.mem_of_getElem? (i := 847) (by decide +kernel), by decide +kernel⟩
theorem q848 : Cond.selects "NineLandsModel" yX4_edge yX4_edge ∈ tW := List.mem_filter.mpr ⟨List.mem_of_getElem? (i := 848) (by decide +kernel), by decide +kernel⟩
theorem q849 : Cond.code yX4_edge cX4_edge 7 (some .int) ∈ tW := List.mem_filter.mpr ⟨List.mem_of_getElem? (i := 849) (by decide +kernel), by decide +kernel⟩
theorem q850 : Cond.methodLink "NineLandsModel" 172 yX4_behind ∈ tW := List.mem_filter.mpr ⟨List.mem_of_getElem? (i := 850) (by decide +kernel), by decide +kernel⟩
theorem q852 : Cond.instanceMethod yX4_behind ∈ tW := List.mem_filter.mpr ⟨List.mem_of_getElem? (i := 852) (by decide +kernel), by decide +kernel⟩
theorem q853 : Cond.code yX4_behind cX4_behind 3 (some .int) ∈ tW := List.mem_filter.mpr ⟨List.mem_of_getElem? (i := 853) (by decide +kernel), by decide +kernel⟩
theorem q854 : Cond.methodLink "NineLandsModel" 175 yX4_findsWith ∈ tW := List.mem_filter.mpr ⟨List.mem_of_getElem? (i := 854) (by decide +kernel), by decide +kernel⟩
theorem q856 : Cond.instanceMethod yX4_findsWith ∈ tW := List.mem_filter.mpr ⟨List.mem_of_getElem? (i := 856) (by decide +kernel), by decide +kernel⟩
theorem q857 : Cond.code yX4_findsWith cX4_findsWith 5 none ∈ tW := List.mem_filter.mpr ⟨List.mem_of_getElem? (i := 857) (by decide +kernel), by decide +kernel⟩
theorem q858 : Cond.methodLink "NineLandsLaw" 105 yX4_hangs ∈ tW := List.mem_filter.mpr ⟨List.mem_of_getElem? (i := 858) (by decide +kernel), by decide +kernel⟩
theorem q859 : Cond.instanceMethod yX4_hangs ∈ tW := List.mem_filter.mpr ⟨List.mem_of_getElem? (i := 859) (by decide +kernel), by decide +kernel⟩
theorem q860 : Cond.selects "NineLandsModel" yX4_hangs yX4_hangs ∈ tW := List.mem_filter.mpr ⟨List.mem_of_getElem? (i := 860) (by decide +kernel), by decide +kernel⟩
theorem q861 : Cond.code yX4_hangs cX4_hangs 4 (some .int) ∈ tW := List.mem_filter.mpr ⟨List.mem_of_getElem? (i := 861) (by decide +kernel), by decide +kernel⟩
theorem q862 : Cond.methodLink "NineLandsLaw" 109 yX4_year ∈ tW := List.mem_filter.mpr ⟨List.mem_of_getElem? (i := 862) (by decide +kernel), by decide +kernel⟩
theorem q863 : Cond.instanceMethod yX4_year ∈ tW := List.mem_filter.mpr ⟨List.mem_of_getElem? (i := 863) (by decide +kernel), by decide +kernel⟩
theorem q864 : Cond.selects "NineLandsModel" yX4_year yX4_year ∈ tW := List.mem_filter.mpr ⟨List.mem_of_getElem? (i := 864) (by decide +kernel), by decide +kernel⟩
theorem q865 : Cond.code yX4_year cX4_year 9 (some .int) ∈ tW := List.mem_filter.mpr ⟨List.mem_of_getElem? (i := 865) (by decide +kernel), by decide +kernel⟩
theorem q866 : Cond.methodLink "NineLandsModel" 179 yX4_less ∈ tW := List.mem_filter.mpr ⟨List.mem_of_getElem? (i := 866) (by decide +kernel), by decide +kernel⟩
theorem q868 : Cond.instanceMethod yX4_less ∈ tW := List.mem_filter.mpr ⟨List.mem_of_getElem? (i := 868) (by decide +kernel), by decide +kernel⟩
theorem q869 : Cond.code yX4_less cX4_less 2 (some .int) ∈ tW := List.mem_filter.mpr ⟨List.mem_of_getElem? (i := 869) (by decide +kernel), by decide +kernel⟩
theorem q870 : Cond.constant "NineLandsModel" 77 (1000000000) ∈ tW := List.mem_filter.mpr ⟨List.mem_of_getElem? (i := 870) (by decide +kernel), by decide +kernel⟩
theorem q871 : Cond.methodLink "NineLandsLaw" 113 yX4_proof ∈ tW := List.mem_filter.mpr ⟨List.mem_of_getElem? (i := 871) (by decide +kernel), by decide +kernel⟩
theorem q872 : Cond.instanceMethod yX4_proof ∈ tW := List.mem_filter.mpr ⟨List.mem_of_getElem? (i := 872) (by decide +kernel), by decide +kernel⟩
theorem q873 : Cond.selects "NineLandsModel" yX4_proof yX4_proof ∈ tW := List.mem_filter.mpr ⟨List.mem_of_getElem? (i := 873) (by decide +kernel), by decide +kernel⟩
theorem q874 : Cond.code yX4_proof cX4_proof 3 (some .int) ∈ tW := List.mem_filter.mpr ⟨List.mem_of_getElem? (i := 874) (by decide +kernel), by decide +kernel⟩
theorem q875 : Cond.methodLink "NineLandsLaw" 117 yX4_put ∈ tW := List.mem_filter.mpr ⟨List.mem_of_getElem? (i := 875) (by decide +kernel), by decide +kernel⟩
theorem q876 : Cond.instanceMethod yX4_put ∈ tW := List.mem_filter.mpr ⟨List.mem_of_getElem? (i := 876) (by decide +kernel), by decide +kernel⟩
theorem q877 : Cond.selects "NineLandsModel" yX4_put yX4_put ∈ tW := List.mem_filter.mpr ⟨List.mem_of_getElem? (i := 877) (by decide +kernel), by decide +kernel⟩
theorem q878 : Cond.code yX4_put cX4_put 3 (some .int) ∈ tW := List.mem_filter.mpr ⟨List.mem_of_getElem? (i := 878) (by decide +kernel), by decide +kernel⟩
theorem q879 : Cond.methodLink "NineLandsLaw" 121 yX4_judge ∈ tW := List.mem_filter.mpr ⟨List.mem_of_getElem? (i := 879) (by decide +kernel), by decide +kernel⟩
theorem q880 : Cond.instanceMethod yX4_judge ∈ tW := List.mem_filter.mpr ⟨List.mem_of_getElem? (i := 880) (by decide +kernel), by decide +kernel⟩
theorem q881 : Cond.selects "NineLandsModel" yX4_judge yX4_judge ∈ tW := List.mem_filter.mpr ⟨List.mem_of_getElem? (i := 881) (by decide +kernel), by decide +kernel⟩
theorem q882 : Cond.code yX4_judge cX4_judge 3 (some .int) ∈ tW := List.mem_filter.mpr ⟨List.mem_of_getElem? (i := 882) (by decide +kernel), by decide +kernel⟩
theorem q883 : Cond.methodLink "NineLandsLaw" 125 yX4_image ∈ tW := List.mem_filter.mpr ⟨List.mem_of_getElem? (i := 883) (by decide +kernel), by decide +kernel⟩
theorem q884 : Cond.instanceMethod yX4_image ∈ tW := List.mem_filter.mpr ⟨List.mem_of_getElem? (i := 884) (by decide +kernel), by decide +kernel⟩
theorem q885 : Cond.selects "NineLandsModel" yX4_image yX4_image ∈ tW := List.mem_filter.mpr ⟨List.mem_of_getElem? (i := 885) (by decide +kernel), by decide +kernel⟩
theorem q886 : Cond.code yX4_image cX4_image 1 (some .int) ∈ tW := List.mem_filter.mpr ⟨List.mem_of_getElem? (i := 886) (by decide +kernel), by decide +kernel⟩
theorem q887 : Cond.methodLink "NineLandsModel" 198 yX4_passesAll ∈ tW := List.mem_filter.mpr ⟨List.mem_of_getElem? (i := 887) (by decide +kernel), by decide +kernel⟩
theorem q889 : Cond.instanceMethod yX4_passesAll ∈ tW := List.mem_filter.mpr ⟨List.mem_of_getElem? (i := 889) (by decide +kernel), by decide +kernel⟩
theorem q890 : Cond.code yX4_passesAll cX4_passesAll 1 none ∈ tW := List.mem_filter.mpr ⟨List.mem_of_getElem? (i := 890) (by decide +kernel), by decide +kernel⟩
theorem q891 : Cond.methodLink "NineLandsModel" 191 yX4_passes ∈ tW := List.mem_filter.mpr ⟨List.mem_of_getElem? (i := 891) (by decide +kernel), by decide +kernel⟩
theorem q893 : Cond.instanceMethod yX4_passes ∈ tW := List.mem_filter.mpr ⟨List.mem_of_getElem? (i := 893) (by decide +kernel), by decide +kernel⟩
theorem q894 : Cond.code yX4_passes cX4_passes 3 none ∈ tW := List.mem_filter.mpr ⟨List.mem_of_getElem? (i := 894) (by decide +kernel), by decide +kernel⟩
theorem q895 : Cond.methodLink "NineLandsLaw" 129 yX4_on ∈ tW := List.mem_filter.mpr ⟨List.mem_of_getElem? (i := 895) (by decide +kernel), by decide +kernel⟩
theorem q896 : Cond.instanceMethod yX4_on ∈ tW := List.mem_filter.mpr ⟨List.mem_of_getElem? (i := 896) (by decide +kernel), by decide +kernel⟩
theorem q897 : Cond.selects "NineLandsModel" yX4_on yX4_on ∈ tW := List.mem_filter.mpr ⟨List.mem_of_getElem? (i := 897) (by decide +kernel), by decide +kernel⟩
theorem q898 : Cond.code yX4_on cX4_on 1 (some .int) ∈ tW := List.mem_filter.mpr ⟨List.mem_of_getElem? (i := 898) (by decide +kernel), by decide +kernel⟩
theorem q899 : Cond.methodLink "NineLandsLaw" 133 yX4_count ∈ tW := List.mem_filter.mpr ⟨List.mem_of_getElem? (i := 899) (by decide +kernel), by decide +kernel⟩
theorem q900 : Cond.instanceMethod yX4_count ∈ tW := List.mem_filter.mpr ⟨List.mem_of_getElem? (i := 900) (by decide +kernel), by decide +kernel⟩
theorem q901 : Cond.selects "NineLandsModel" yX4_count yX4_count ∈ tW := List.mem_filter.mpr ⟨List.mem_of_getElem? (i := 901) (by decide +kernel), by decide +kernel⟩
theorem q902 : Cond.code yX4_count cX4_count 4 (some .int) ∈ tW := List.mem_filter.mpr ⟨List.mem_of_getElem? (i := 902) (by decide +kernel), by decide +kernel⟩
theorem q903 : Cond.constantLong "NineLandsLaw" 13 (4294967295) ∈ tW := List.mem_filter.mpr ⟨List.mem_of_getElem? (i := 903) (by decide +kernel), by decide +kernel⟩
theorem q904 : Cond.fieldLink "java/lang/String" 15 "java/lang/String" "coder" "B" ∈ tW := List.mem_filter.mpr ⟨List.mem_of_getElem? (i := 904) (by decide +kernel), by decide +kernel⟩
theorem q905 : Cond.fieldLink "java/lang/String" 9 "java/lang/String" "value" "[B" ∈ tW := List.mem_filter.mpr ⟨List.mem_of_getElem? (i := 905) (by decide +kernel), by decide +kernel⟩
