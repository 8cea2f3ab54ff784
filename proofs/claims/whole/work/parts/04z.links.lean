theorem ckX0 : a_CK 0 RX0 TX0 4 := ⟨rfl, by decide, by decide +kernel, tyX0_ok, nmX0⟩
theorem fmX0_3 : a_FM 0 3 := fun C T N h => by cases h; rfl
theorem ckX1 : a_CK 1 RX1 TX1 10 := ⟨rfl, by decide, by decide +kernel, tyX1_ok, nmX1⟩
theorem fmX1_5 : a_FM 1 5 := fun C T N h => by cases h; rfl
theorem fmX1_6 : a_FM 1 6 := fun C T N h => by cases h; rfl
theorem fmX1_7 : a_FM 1 7 := fun C T N h => by cases h; rfl
theorem fmX1_8 : a_FM 1 8 := fun C T N h => by cases h; rfl
theorem fmX1_9 : a_FM 1 9 := fun C T N h => by cases h; rfl
theorem ckX2 : a_CK 2 RX2 TX2 4 := ⟨rfl, by decide, by decide +kernel, tyX2_ok, nmX2⟩
theorem fmX2_1 : a_FM 2 1 := fun C T N h => by cases h; rfl
theorem fmX2_2 : a_FM 2 2 := fun C T N h => by cases h; rfl
theorem fmX2_3 : a_FM 2 3 := fun C T N h => by cases h; rfl
theorem ckX3 : a_CK 3 RX3 TX3 8 := ⟨rfl, by decide, by decide +kernel, tyX3_ok, nmX3⟩
theorem fmX3_1 : a_FM 3 1 := fun C T N h => by cases h; rfl
theorem ckX4 : a_CK 4 RX4 TX4 3 := ⟨rfl, by decide, by decide +kernel, tyX4_ok, nmX4⟩
theorem ckX5 : a_CK 5 RX5 TX5 8 := ⟨rfl, by decide, by decide +kernel, tyX5_ok, nmX5⟩
theorem fmX5_1 : a_FM 5 1 := fun C T N h => by cases h; rfl
theorem fmX5_2 : a_FM 5 2 := fun C T N h => by cases h; rfl
theorem fmX5_3 : a_FM 5 3 := fun C T N h => by cases h; rfl
theorem fmX5_4 : a_FM 5 4 := fun C T N h => by cases h; rfl
theorem fmX5_5 : a_FM 5 5 := fun C T N h => by cases h; rfl
theorem fmX5_6 : a_FM 5 6 := fun C T N h => by cases h; rfl
theorem fmX5_7 : a_FM 5 7 := fun C T N h => by cases h; rfl
theorem ckX6 : a_CK 6 RX6 TX6 5 := ⟨rfl, by decide, by decide +kernel, tyX6_ok, nmX6⟩
theorem fmX6_0 : a_FM 6 0 := fun C T N h => by cases h; rfl
theorem fmX6_1 : a_FM 6 1 := fun C T N h => by cases h; rfl
theorem fmX6_2 : a_FM 6 2 := fun C T N h => by cases h; rfl
theorem fmX6_3 : a_FM 6 3 := fun C T N h => by cases h; rfl
theorem fmX6_4 : a_FM 6 4 := fun C T N h => by cases h; rfl
theorem ckX7 : a_CK 7 RX7 TX7 7 := ⟨rfl, by decide, by decide +kernel, tyX7_ok, nmX7⟩
theorem fmX7_0 : a_FM 7 0 := fun C T N h => by cases h; rfl
theorem fmX7_6 : a_FM 7 6 := fun C T N h => by cases h; rfl
theorem ckX8 : a_CK 8 RX8 TX8 10 := ⟨rfl, by decide, by decide +kernel, tyX8_ok, nmX8⟩
theorem fmX8_2 : a_FM 8 2 := fun C T N h => by cases h; rfl
theorem fmX8_3 : a_FM 8 3 := fun C T N h => by cases h; rfl
theorem fmX8_9 : a_FM 8 9 := fun C T N h => by cases h; rfl
theorem ckX9 : a_CK 9 RX9 TX9 4 := ⟨rfl, by decide, by decide +kernel, tyX9_ok, nmX9⟩
theorem fmX9_2 : a_FM 9 2 := fun C T N h => by cases h; rfl
theorem fmX9_3 : a_FM 9 3 := fun C T N h => by cases h; rfl
theorem ckX10 : a_CK 10 RX10 TX10 4 := ⟨rfl, by decide, by decide +kernel, tyX10_ok, nmX10⟩
theorem fmX10_3 : a_FM 10 3 := fun C T N h => by cases h; rfl
theorem ckX11 : a_CK 11 RX11 TX11 14 := ⟨rfl, by decide, by decide +kernel, tyX11_ok, nmX11⟩
theorem ckX12 : a_CK 12 RX12 TX12 56 := ⟨rfl, by decide, by decide +kernel, tyX12_ok, nmX12⟩
theorem fmX12_3 : a_FM 12 3 := fun C T N h => by cases h; rfl
theorem fmX12_4 : a_FM 12 4 := fun C T N h => by cases h; rfl
theorem fmX12_5 : a_FM 12 5 := fun C T N h => by cases h; rfl
theorem fmX12_12 : a_FM 12 12 := fun C T N h => by cases h; rfl
theorem fmX12_13 : a_FM 12 13 := fun C T N h => by cases h; rfl
theorem fmX12_14 : a_FM 12 14 := fun C T N h => by cases h; rfl
theorem fmX12_15 : a_FM 12 15 := fun C T N h => by cases h; rfl
theorem fmX12_16 : a_FM 12 16 := fun C T N h => by cases h; rfl
theorem fmX12_17 : a_FM 12 17 := fun C T N h => by cases h; rfl
theorem fmX12_18 : a_FM 12 18 := fun C T N h => by cases h; rfl
theorem fmX12_19 : a_FM 12 19 := fun C T N h => by cases h; rfl
theorem fmX12_20 : a_FM 12 20 := fun C T N h => by cases h; rfl
theorem fmX12_22 : a_FM 12 22 := fun C T N h => by cases h; rfl
theorem fmX12_25 : a_FM 12 25 := fun C T N h => by cases h; rfl
theorem fmX12_26 : a_FM 12 26 := fun C T N h => by cases h; rfl
theorem fmX12_27 : a_FM 12 27 := fun C T N h => by cases h; rfl
theorem fmX12_31 : a_FM 12 31 := fun C T N h => by cases h; rfl
theorem fmX12_35 : a_FM 12 35 := fun C T N h => by cases h; rfl
theorem fmX12_36 : a_FM 12 36 := fun C T N h => by cases h; rfl
theorem fmX12_37 : a_FM 12 37 := fun C T N h => by cases h; rfl
theorem fmX12_44 : a_FM 12 44 := fun C T N h => by cases h; rfl
theorem fmX12_55 : a_FM 12 55 := fun C T N h => by cases h; rfl
theorem mseX2_row : Cond.selects RX2 yX2_row yX2_row ∈ a_tb := a_in 0 (by decide +kernel) rfl
theorem mseX10_stopOf : Cond.selects RX10 yX10_stopOf yX10_stopOf ∈ a_tb := a_in 1 (by decide +kernel) rfl
theorem mseX10_tokenOf : Cond.selects RX10 yX10_tokenOf yX10_tokenOf ∈ a_tb := a_in 2 (by decide +kernel) rfl
theorem mseX10_wordOf : Cond.selects RX10 yX10_wordOf yX10_wordOf ∈ a_tb := a_in 3 (by decide +kernel) rfl
theorem mseX10_isWord : Cond.selects RX10 yX10_isWord yX10_isWord ∈ a_tb := a_in 4 (by decide +kernel) rfl
theorem mseX10_numberOf : Cond.selects RX10 yX10_numberOf yX10_numberOf ∈ a_tb := a_in 5 (by decide +kernel) rfl
theorem mseX5_advance : Cond.selects RX5 yX5_advance yX5_advance ∈ a_tb := a_in 6 (by decide +kernel) rfl
theorem mseX5_readClause : Cond.selects RX5 yX5_readClause yX5_readClause ∈ a_tb := a_in 7 (by decide +kernel) rfl
theorem mseX5_refuse : Cond.selects RX5 yX5_refuse yX5_refuse ∈ a_tb := a_in 8 (by decide +kernel) rfl
theorem mseX5_readNumber : Cond.selects RX5 yX5_readNumber yX5_readNumber ∈ a_tb := a_in 9 (by decide +kernel) rfl
theorem mseX5_readSum : Cond.selects RX5 yX5_readSum yX5_readSum ∈ a_tb := a_in 10 (by decide +kernel) rfl
theorem mseX5_readProduct : Cond.selects RX5 yX5_readProduct yX5_readProduct ∈ a_tb := a_in 11 (by decide +kernel) rfl
theorem mseX5_readOne : Cond.selects RX5 yX5_readOne yX5_readOne ∈ a_tb := a_in 12 (by decide +kernel) rfl
theorem mseX5_readName : Cond.selects RX5 yX5_readName yX5_readName ∈ a_tb := a_in 13 (by decide +kernel) rfl
theorem mseX5_pass : Cond.selects RX5 yX5_pass yX5_pass ∈ a_tb := a_in 14 (by decide +kernel) rfl
theorem mseX11_isText : Cond.selects RX11 yX11_isText yX11_isText ∈ a_tb := a_in 15 (by decide +kernel) rfl
theorem mseX11_toldScript : Cond.selects RX11 yX11_toldScript yX11_toldScript ∈ a_tb := a_in 16 (by decide +kernel) rfl
theorem mseX7_reckoned : Cond.selects RX7 yX7_reckoned yX7_reckoned ∈ a_tb := a_in 17 (by decide +kernel) rfl
theorem mseX1_holds : Cond.selects RX1 yX1_holds yX1_holds ∈ a_tb := a_in 18 (by decide +kernel) rfl
theorem mseX1_wayBetween : Cond.selects RX1 yX1_wayBetween yX1_wayBetween ∈ a_tb := a_in 19 (by decide +kernel) rfl
theorem mseX11_agreesInSectors : Cond.selects RX11 yX11_agreesInSectors yX11_agreesInSectors ∈ a_tb := a_in 20 (by decide +kernel) rfl
theorem mseX6_isRoot : Cond.selects RX6 yX6_isRoot yX6_isRoot ∈ a_tb := a_in 21 (by decide +kernel) rfl
theorem mseX0_takeIn : Cond.selects RX0 yX0_takeIn yX0_takeIn ∈ a_tb := a_in 22 (by decide +kernel) rfl
theorem mseX0_place : Cond.selects RX0 yX0_place yX0_place ∈ a_tb := a_in 23 (by decide +kernel) rfl
theorem mseX0_gatherRound : Cond.selects RX0 yX0_gatherRound yX0_gatherRound ∈ a_tb := a_in 24 (by decide +kernel) rfl
theorem mseX11_hasSector : Cond.selects RX11 yX11_hasSector yX11_hasSector ∈ a_tb := a_in 25 (by decide +kernel) rfl
theorem mseX8_flatten : Cond.selects RX8 yX8_flatten yX8_flatten ∈ a_tb := a_in 26 (by decide +kernel) rfl
theorem mseX8_pivotFor : Cond.selects RX8 yX8_pivotFor yX8_pivotFor ∈ a_tb := a_in 27 (by decide +kernel) rfl
theorem mseX8_swapBoth : Cond.selects RX8 yX8_swapBoth yX8_swapBoth ∈ a_tb := a_in 28 (by decide +kernel) rfl
theorem mseX8_swapCells : Cond.selects RX8 yX8_swapCells yX8_swapCells ∈ a_tb := a_in 29 (by decide +kernel) rfl
theorem mseX8_takeRowOff : Cond.selects RX8 yX8_takeRowOff yX8_takeRowOff ∈ a_tb := a_in 30 (by decide +kernel) rfl
theorem mseX8_findTerms : Cond.selects RX8 yX8_findTerms yX8_findTerms ∈ a_tb := a_in 31 (by decide +kernel) rfl
theorem mseX8_takeStepOff : Cond.selects RX8 yX8_takeStepOff yX8_takeStepOff ∈ a_tb := a_in 32 (by decide +kernel) rfl
theorem mseX8_dividesRest : Cond.selects RX8 yX8_dividesRest yX8_dividesRest ∈ a_tb := a_in 33 (by decide +kernel) rfl
theorem mseX3_countRows : Cond.selects RX3 yX3_countRows yX3_countRows ∈ a_tb := a_in 34 (by decide +kernel) rfl
theorem mseX3_fillBase : Cond.selects RX3 yX3_fillBase yX3_fillBase ∈ a_tb := a_in 35 (by decide +kernel) rfl
theorem mseX3_rowsFor : Cond.selects RX3 yX3_rowsFor yX3_rowsFor ∈ a_tb := a_in 36 (by decide +kernel) rfl
theorem mseX3_countRow : Cond.selects RX3 yX3_countRow yX3_countRow ∈ a_tb := a_in 37 (by decide +kernel) rfl
theorem mseX3_openRow : Cond.selects RX3 yX3_openRow yX3_openRow ∈ a_tb := a_in 38 (by decide +kernel) rfl
theorem mseX3_lastsFor : Cond.selects RX3 yX3_lastsFor yX3_lastsFor ∈ a_tb := a_in 39 (by decide +kernel) rfl
theorem mseX3_divides : Cond.selects RX3 yX3_divides yX3_divides ∈ a_tb := a_in 40 (by decide +kernel) rfl
theorem mseX3_countAt : Cond.selects RX3 yX3_countAt yX3_countAt ∈ a_tb := a_in 41 (by decide +kernel) rfl
theorem mseX3_pick : Cond.selects RX3 yX3_pick yX3_pick ∈ a_tb := a_in 42 (by decide +kernel) rfl
theorem mseX3_tell : Cond.selects RX3 yX3_tell yX3_tell ∈ a_tb := a_in 43 (by decide +kernel) rfl
theorem mseX11_isTrue : Cond.selects RX11 yX11_isTrue yX11_isTrue ∈ a_tb := a_in 44 (by decide +kernel) rfl
theorem mseX11_enact : Cond.selects RX11 yX11_enact yX11_enact ∈ a_tb := a_in 45 (by decide +kernel) rfl
theorem mseX6_addSumOf : Cond.selects RX6 yX6_addSumOf yX6_addSumOf ∈ a_tb := a_in 46 (by decide +kernel) rfl
theorem mseX1_passLetter : Cond.selects RX1 yX1_passLetter yX1_passLetter ∈ a_tb := a_in 47 (by decide +kernel) rfl
theorem mseX12_copies : Cond.selects RX12 yX12_copies yX12_copies ∈ a_tb := a_in 48 (by decide +kernel) rfl
theorem mseX12_forgets : Cond.selects RX12 yX12_forgets yX12_forgets ∈ a_tb := a_in 49 (by decide +kernel) rfl
theorem mseX12_isNumber : Cond.selects RX12 yX12_isNumber yX12_isNumber ∈ a_tb := a_in 50 (by decide +kernel) rfl
theorem mseX12_put : Cond.selects RX12 yX12_put yX12_put ∈ a_tb := a_in 51 (by decide +kernel) rfl
theorem mseX12_next : Cond.selects RX12 yX12_next yX12_next ∈ a_tb := a_in 52 (by decide +kernel) rfl
theorem mseX12_begins : Cond.selects RX12 yX12_begins yX12_begins ∈ a_tb := a_in 53 (by decide +kernel) rfl
theorem mseX12_errs : Cond.selects RX12 yX12_errs yX12_errs ∈ a_tb := a_in 54 (by decide +kernel) rfl
theorem mseX12_emits : Cond.selects RX12 yX12_emits yX12_emits ∈ a_tb := a_in 55 (by decide +kernel) rfl
theorem mseX12_oneIsOver : Cond.selects RX12 yX12_oneIsOver yX12_oneIsOver ∈ a_tb := a_in 56 (by decide +kernel) rfl
theorem mseX12_top : Cond.selects RX12 yX12_top yX12_top ∈ a_tb := a_in 57 (by decide +kernel) rfl
theorem mseX12_isSign : Cond.selects RX12 yX12_isSign yX12_isSign ∈ a_tb := a_in 58 (by decide +kernel) rfl
theorem mseX12_opensSign : Cond.selects RX12 yX12_opensSign yX12_opensSign ∈ a_tb := a_in 59 (by decide +kernel) rfl
theorem mseX12_opensFrame : Cond.selects RX12 yX12_opensFrame yX12_opensFrame ∈ a_tb := a_in 60 (by decide +kernel) rfl
theorem mseX12_goesOn : Cond.selects RX12 yX12_goesOn yX12_goesOn ∈ a_tb := a_in 61 (by decide +kernel) rfl
theorem mseX12_waitsFor : Cond.selects RX12 yX12_waitsFor yX12_waitsFor ∈ a_tb := a_in 62 (by decide +kernel) rfl
theorem mseX12_works : Cond.selects RX12 yX12_works yX12_works ∈ a_tb := a_in 63 (by decide +kernel) rfl
theorem mseX12_clauseIsOver : Cond.selects RX12 yX12_clauseIsOver yX12_clauseIsOver ∈ a_tb := a_in 64 (by decide +kernel) rfl
theorem mseX12_clause : Cond.selects RX12 yX12_clause yX12_clause ∈ a_tb := a_in 65 (by decide +kernel) rfl
theorem mseX12_wasTold : Cond.selects RX12 yX12_wasTold yX12_wasTold ∈ a_tb := a_in 66 (by decide +kernel) rfl
theorem mseX12_number : Cond.selects RX12 yX12_number yX12_number ∈ a_tb := a_in 67 (by decide +kernel) rfl
theorem mseX12_weightOf : Cond.selects RX12 yX12_weightOf yX12_weightOf ∈ a_tb := a_in 68 (by decide +kernel) rfl
theorem mseX12_saysOf : Cond.selects RX12 yX12_saysOf yX12_saysOf ∈ a_tb := a_in 69 (by decide +kernel) rfl
theorem mseX12_worked : Cond.selects RX12 yX12_worked yX12_worked ∈ a_tb := a_in 70 (by decide +kernel) rfl
theorem mseX12_over : Cond.selects RX12 yX12_over yX12_over ∈ a_tb := a_in 71 (by decide +kernel) rfl
theorem mseX12_holds : Cond.selects RX12 yX12_holds yX12_holds ∈ a_tb := a_in 72 (by decide +kernel) rfl
theorem mseX12_rowIs : Cond.selects RX12 yX12_rowIs yX12_rowIs ∈ a_tb := a_in 73 (by decide +kernel) rfl
theorem mseX12_laysWeights : Cond.selects RX12 yX12_laysWeights yX12_laysWeights ∈ a_tb := a_in 74 (by decide +kernel) rfl
theorem mseX12_exchanges : Cond.selects RX12 yX12_exchanges yX12_exchanges ∈ a_tb := a_in 75 (by decide +kernel) rfl
theorem mseX12_isState : Cond.selects RX12 yX12_isState yX12_isState ∈ a_tb := a_in 76 (by decide +kernel) rfl
theorem mseX12_states : Cond.selects RX12 yX12_states yX12_states ∈ a_tb := a_in 77 (by decide +kernel) rfl
theorem mseX12_actedIs : Cond.selects RX12 yX12_actedIs yX12_actedIs ∈ a_tb := a_in 78 (by decide +kernel) rfl
theorem mseX12_sums : Cond.selects RX12 yX12_sums yX12_sums ∈ a_tb := a_in 79 (by decide +kernel) rfl
theorem mseX12_sumsBy : Cond.selects RX12 yX12_sumsBy yX12_sumsBy ∈ a_tb := a_in 80 (by decide +kernel) rfl
theorem mseX12_takesNext : Cond.selects RX12 yX12_takesNext yX12_takesNext ∈ a_tb := a_in 81 (by decide +kernel) rfl
theorem mseX12_tables : Cond.selects RX12 yX12_tables yX12_tables ∈ a_tb := a_in 82 (by decide +kernel) rfl
theorem mseX12_keepsOther : Cond.selects RX12 yX12_keepsOther yX12_keepsOther ∈ a_tb := a_in 83 (by decide +kernel) rfl
theorem mseX12_isOther : Cond.selects RX12 yX12_isOther yX12_isOther ∈ a_tb := a_in 84 (by decide +kernel) rfl
theorem mseX12_rootOf : Cond.selects RX12 yX12_rootOf yX12_rootOf ∈ a_tb := a_in 85 (by decide +kernel) rfl
theorem mseX12_isSector : Cond.selects RX12 yX12_isSector yX12_isSector ∈ a_tb := a_in 86 (by decide +kernel) rfl
theorem mseX12_isTurn : Cond.selects RX12 yX12_isTurn yX12_isTurn ∈ a_tb := a_in 87 (by decide +kernel) rfl
theorem mseX12_laysSector : Cond.selects RX12 yX12_laysSector yX12_laysSector ∈ a_tb := a_in 88 (by decide +kernel) rfl
theorem mseX12_laysRounds : Cond.selects RX12 yX12_laysRounds yX12_laysRounds ∈ a_tb := a_in 89 (by decide +kernel) rfl
theorem mseX12_leastOf : Cond.selects RX12 yX12_leastOf yX12_leastOf ∈ a_tb := a_in 90 (by decide +kernel) rfl
theorem mseX12_shifted : Cond.selects RX12 yX12_shifted yX12_shifted ∈ a_tb := a_in 91 (by decide +kernel) rfl
theorem mseX12_roundOf : Cond.selects RX12 yX12_roundOf yX12_roundOf ∈ a_tb := a_in 92 (by decide +kernel) rfl
theorem mseX12_laysSquare : Cond.selects RX12 yX12_laysSquare yX12_laysSquare ∈ a_tb := a_in 93 (by decide +kernel) rfl
theorem mseX12_laysTurn : Cond.selects RX12 yX12_laysTurn yX12_laysTurn ∈ a_tb := a_in 94 (by decide +kernel) rfl
theorem mseX12_raised : Cond.selects RX12 yX12_raised yX12_raised ∈ a_tb := a_in 95 (by decide +kernel) rfl
theorem mseX12_left : Cond.selects RX12 yX12_left yX12_left ∈ a_tb := a_in 96 (by decide +kernel) rfl
theorem mseX12_laysPoly : Cond.selects RX12 yX12_laysPoly yX12_laysPoly ∈ a_tb := a_in 97 (by decide +kernel) rfl
theorem mseX12_bends : Cond.selects RX12 yX12_bends yX12_bends ∈ a_tb := a_in 98 (by decide +kernel) rfl
theorem mseX12_swaps : Cond.selects RX12 yX12_swaps yX12_swaps ∈ a_tb := a_in 99 (by decide +kernel) rfl
theorem mseX12_adds : Cond.selects RX12 yX12_adds yX12_adds ∈ a_tb := a_in 100 (by decide +kernel) rfl
theorem mseX12_laysOwn : Cond.selects RX12 yX12_laysOwn yX12_laysOwn ∈ a_tb := a_in 101 (by decide +kernel) rfl
theorem mseX12_oftenOf : Cond.selects RX12 yX12_oftenOf yX12_oftenOf ∈ a_tb := a_in 102 (by decide +kernel) rfl
theorem mseX12_laysPair : Cond.selects RX12 yX12_laysPair yX12_laysPair ∈ a_tb := a_in 103 (by decide +kernel) rfl
theorem mseX12_isPair : Cond.selects RX12 yX12_isPair yX12_isPair ∈ a_tb := a_in 104 (by decide +kernel) rfl
theorem mseX12_moves : Cond.selects RX12 yX12_moves yX12_moves ∈ a_tb := a_in 105 (by decide +kernel) rfl
theorem mseX12_laysPower : Cond.selects RX12 yX12_laysPower yX12_laysPower ∈ a_tb := a_in 106 (by decide +kernel) rfl
theorem mseX12_addsPower : Cond.selects RX12 yX12_addsPower yX12_addsPower ∈ a_tb := a_in 107 (by decide +kernel) rfl
theorem mseX12_canAct : Cond.selects RX12 yX12_canAct yX12_canAct ∈ a_tb := a_in 108 (by decide +kernel) rfl
theorem mseX12_acts : Cond.selects RX12 yX12_acts yX12_acts ∈ a_tb := a_in 109 (by decide +kernel) rfl
theorem mseX12_cell : Cond.selects RX12 yX12_cell yX12_cell ∈ a_tb := a_in 110 (by decide +kernel) rfl
theorem inL : Cond.initialized RL ∈ a_tb := a_in 111 (by decide +kernel) rfl
theorem inX11 : Cond.initialized RX11 ∈ a_tb := a_in 112 (by decide +kernel) rfl
theorem inX10 : Cond.initialized RX10 ∈ a_tb := a_in 113 (by decide +kernel) rfl
theorem inX7 : Cond.initialized RX7 ∈ a_tb := a_in 114 (by decide +kernel) rfl
theorem inX5 : Cond.initialized RX5 ∈ a_tb := a_in 115 (by decide +kernel) rfl
theorem inX1 : Cond.initialized RX1 ∈ a_tb := a_in 116 (by decide +kernel) rfl
theorem inX6 : Cond.initialized RX6 ∈ a_tb := a_in 117 (by decide +kernel) rfl
theorem inX0 : Cond.initialized RX0 ∈ a_tb := a_in 118 (by decide +kernel) rfl
theorem inX8 : Cond.initialized RX8 ∈ a_tb := a_in 119 (by decide +kernel) rfl
theorem inX4 : Cond.initialized RX4 ∈ a_tb := a_in 120 (by decide +kernel) rfl
theorem inX3 : Cond.initialized RX3 ∈ a_tb := a_in 121 (by decide +kernel) rfl
theorem inJ9 : Cond.initialized RJ9 ∈ a_tb := a_in 122 (by decide +kernel) rfl
theorem inX9 : Cond.initialized RX9 ∈ a_tb := a_in 123 (by decide +kernel) rfl
theorem inX2 : Cond.initialized RX2 ∈ a_tb := a_in 124 (by decide +kernel) rfl
theorem inX12 : Cond.initialized RX12 ∈ a_tb := a_in 125 (by decide +kernel) rfl
theorem inJ0 : Cond.initialized RJ0 ∈ a_tb := a_in 126 (by decide +kernel) rfl
theorem inJ1 : Cond.initialized RJ1 ∈ a_tb := a_in 127 (by decide +kernel) rfl
theorem inJ3 : Cond.initialized RJ3 ∈ a_tb := a_in 128 (by decide +kernel) rfl
theorem inJ2 : Cond.initialized RJ2 ∈ a_tb := a_in 129 (by decide +kernel) rfl
theorem inJ6 : Cond.initialized RJ6 ∈ a_tb := a_in 130 (by decide +kernel) rfl
theorem inJ10 : Cond.initialized RJ10 ∈ a_tb := a_in 131 (by decide +kernel) rfl
theorem mlL_15 : Cond.methodLink RL 15 yX11_init ∈ a_tb := a_in 134 (by decide +kernel) rfl
theorem mnX11_init : Cond.instanceMethod yX11_init ∈ a_tb := a_in 135 (by decide +kernel) rfl
theorem mcX11_init : Cond.code yX11_init cX11_init 4 none ∈ a_tb := a_in 136 (by decide +kernel) rfl
theorem mkX11_9 : Cond.methodLinkNest RX11 9 yX10_init "SolvedChains" ∈ lw_tbl := List.mem_of_getElem? (i := 142) (by decide +kernel)
theorem mnX10_init : Cond.instanceMethod yX10_init ∈ a_tb := a_in 143 (by decide +kernel) rfl
theorem mcX10_init : Cond.code yX10_init cX10_init 1 none ∈ a_tb := a_in 144 (by decide +kernel) rfl
theorem fkX10_9 : a_FL RX10 9 10 0 4 := ⟨RX10, TX10, ckX10, by decide, a_in 146 (by decide +kernel) rfl⟩
theorem fkX10_13 : a_FL RX10 13 10 1 4 := ⟨RX10, TX10, ckX10, by decide, a_in 147 (by decide +kernel) rfl⟩
theorem fkX5_61 : a_FL RX5 61 10 1 4 := ⟨RX10, TX10, ckX10, by decide, a_in 148 (by decide +kernel) rfl⟩
theorem fkX10_16 : a_FL RX10 16 10 2 4 := ⟨RX10, TX10, ckX10, by decide, a_in 149 (by decide +kernel) rfl⟩
theorem fkX10_19 : a_FL RX10 19 10 3 4 := ⟨RX10, TX10, ckX10, by decide, a_in 150 (by decide +kernel) rfl⟩
theorem fkX11_150 : a_FL RX11 150 10 3 4 := ⟨RX10, TX10, ckX10, by decide, a_in 151 (by decide +kernel) rfl⟩
theorem mkX11_22 : Cond.methodLinkNest RX11 22 yX7_init "SolvedChains" ∈ lw_tbl := List.mem_of_getElem? (i := 165) (by decide +kernel)
theorem mnX7_init : Cond.instanceMethod yX7_init ∈ a_tb := a_in 166 (by decide +kernel) rfl
theorem mcX7_init : Cond.code yX7_init cX7_init 1 none ∈ a_tb := a_in 167 (by decide +kernel) rfl
theorem fkX7_9 : a_FL RX7 9 7 0 7 := ⟨RX7, TX7, ckX7, by decide, a_in 169 (by decide +kernel) rfl⟩
theorem fkX5_72 : a_FL RX5 72 7 0 7 := ⟨RX7, TX7, ckX7, by decide, a_in 170 (by decide +kernel) rfl⟩
theorem fkX11_297 : a_FL RX11 297 7 0 7 := ⟨RX7, TX7, ckX7, by decide, a_in 171 (by decide +kernel) rfl⟩
theorem fkX7_15 : a_FL RX7 15 7 1 7 := ⟨RX7, TX7, ckX7, by decide, a_in 172 (by decide +kernel) rfl⟩
theorem fkX7_19 : a_FL RX7 19 7 2 7 := ⟨RX7, TX7, ckX7, by decide, a_in 173 (by decide +kernel) rfl⟩
theorem fkX7_24 : a_FL RX7 24 7 3 7 := ⟨RX7, TX7, ckX7, by decide, a_in 174 (by decide +kernel) rfl⟩
theorem fkX7_27 : a_FL RX7 27 7 4 7 := ⟨RX7, TX7, ckX7, by decide, a_in 175 (by decide +kernel) rfl⟩
theorem fkX7_30 : a_FL RX7 30 7 5 7 := ⟨RX7, TX7, ckX7, by decide, a_in 176 (by decide +kernel) rfl⟩
theorem fkX7_33 : a_FL RX7 33 7 6 7 := ⟨RX7, TX7, ckX7, by decide, a_in 177 (by decide +kernel) rfl⟩
theorem fkX1_48 : a_FL RX1 48 7 6 7 := ⟨RX7, TX7, ckX7, by decide, a_in 178 (by decide +kernel) rfl⟩
theorem mlX11_29 : Cond.methodLink RX11 29 yX5_init ∈ a_tb := a_in 196 (by decide +kernel) rfl
theorem mnX5_init : Cond.instanceMethod yX5_init ∈ a_tb := a_in 197 (by decide +kernel) rfl
theorem mcX5_init : Cond.code yX5_init cX5_init 3 none ∈ a_tb := a_in 198 (by decide +kernel) rfl
theorem fkX5_33 : a_FL RX5 33 5 0 8 := ⟨RX5, TX5, ckX5, by decide, a_in 200 (by decide +kernel) rfl⟩
theorem fkX5_37 : a_FL RX5 37 5 1 8 := ⟨RX5, TX5, ckX5, by decide, a_in 201 (by decide +kernel) rfl⟩
theorem fkX5_9 : a_FL RX5 9 5 2 8 := ⟨RX5, TX5, ckX5, by decide, a_in 202 (by decide +kernel) rfl⟩
theorem fkX5_17 : a_FL RX5 17 5 3 8 := ⟨RX5, TX5, ckX5, by decide, a_in 203 (by decide +kernel) rfl⟩
theorem fkX5_20 : a_FL RX5 20 5 4 8 := ⟨RX5, TX5, ckX5, by decide, a_in 204 (by decide +kernel) rfl⟩
theorem fkX5_24 : a_FL RX5 24 5 5 8 := ⟨RX5, TX5, ckX5, by decide, a_in 205 (by decide +kernel) rfl⟩
theorem fkX5_27 : a_FL RX5 27 5 6 8 := ⟨RX5, TX5, ckX5, by decide, a_in 206 (by decide +kernel) rfl⟩
theorem fkX11_167 : a_FL RX11 167 5 6 8 := ⟨RX5, TX5, ckX5, by decide, a_in 207 (by decide +kernel) rfl⟩
theorem fkX5_30 : a_FL RX5 30 5 7 8 := ⟨RX5, TX5, ckX5, by decide, a_in 208 (by decide +kernel) rfl⟩
theorem fkX11_170 : a_FL RX11 170 5 7 8 := ⟨RX5, TX5, ckX5, by decide, a_in 209 (by decide +kernel) rfl⟩
theorem mkX11_38 : Cond.methodLinkNest RX11 38 yX1_init "SolvedChains" ∈ lw_tbl := List.mem_of_getElem? (i := 229) (by decide +kernel)
theorem mnX1_init : Cond.instanceMethod yX1_init ∈ a_tb := a_in 230 (by decide +kernel) rfl
theorem mcX1_init : Cond.code yX1_init cX1_init 1 none ∈ a_tb := a_in 231 (by decide +kernel) rfl
theorem mkX1_26 : Cond.methodLinkNest RX1 26 yX6_init "SolvedChains" ∈ lw_tbl := List.mem_of_getElem? (i := 235) (by decide +kernel)
theorem mnX6_init : Cond.instanceMethod yX6_init ∈ a_tb := a_in 236 (by decide +kernel) rfl
theorem mcX6_init : Cond.code yX6_init cX6_init 1 none ∈ a_tb := a_in 237 (by decide +kernel) rfl
theorem fkX6_9 : a_FL RX6 9 6 0 5 := ⟨RX6, TX6, ckX6, by decide, a_in 239 (by decide +kernel) rfl⟩
theorem fkX9_32 : a_FL RX9 32 6 0 5 := ⟨RX6, TX6, ckX6, by decide, a_in 240 (by decide +kernel) rfl⟩
theorem fkX11_111 : a_FL RX11 111 6 0 5 := ⟨RX6, TX6, ckX6, by decide, a_in 241 (by decide +kernel) rfl⟩
theorem fkX0_61 : a_FL RX0 61 6 0 5 := ⟨RX6, TX6, ckX6, by decide, a_in 242 (by decide +kernel) rfl⟩
theorem fkX3_68 : a_FL RX3 68 6 0 5 := ⟨RX6, TX6, ckX6, by decide, a_in 243 (by decide +kernel) rfl⟩
theorem fkX1_86 : a_FL RX1 86 6 0 5 := ⟨RX6, TX6, ckX6, by decide, a_in 244 (by decide +kernel) rfl⟩
theorem fkX6_15 : a_FL RX6 15 6 1 5 := ⟨RX6, TX6, ckX6, by decide, a_in 245 (by decide +kernel) rfl⟩
theorem fkX11_115 : a_FL RX11 115 6 1 5 := ⟨RX6, TX6, ckX6, by decide, a_in 246 (by decide +kernel) rfl⟩
theorem fkX6_19 : a_FL RX6 19 6 2 5 := ⟨RX6, TX6, ckX6, by decide, a_in 247 (by decide +kernel) rfl⟩
theorem fkX1_61 : a_FL RX1 61 6 2 5 := ⟨RX6, TX6, ckX6, by decide, a_in 248 (by decide +kernel) rfl⟩
theorem fkX0_31 : a_FL RX0 31 6 2 5 := ⟨RX6, TX6, ckX6, by decide, a_in 249 (by decide +kernel) rfl⟩
theorem fkX11_132 : a_FL RX11 132 6 2 5 := ⟨RX6, TX6, ckX6, by decide, a_in 250 (by decide +kernel) rfl⟩
theorem fkX8_83 : a_FL RX8 83 6 2 5 := ⟨RX6, TX6, ckX6, by decide, a_in 251 (by decide +kernel) rfl⟩
theorem fkX3_61 : a_FL RX3 61 6 2 5 := ⟨RX6, TX6, ckX6, by decide, a_in 252 (by decide +kernel) rfl⟩
theorem fkX7_53 : a_FL RX7 53 6 2 5 := ⟨RX6, TX6, ckX6, by decide, a_in 253 (by decide +kernel) rfl⟩
theorem fkX6_22 : a_FL RX6 22 6 3 5 := ⟨RX6, TX6, ckX6, by decide, a_in 254 (by decide +kernel) rfl⟩
theorem fkX11_141 : a_FL RX11 141 6 3 5 := ⟨RX6, TX6, ckX6, by decide, a_in 255 (by decide +kernel) rfl⟩
theorem fkX3_57 : a_FL RX3 57 6 3 5 := ⟨RX6, TX6, ckX6, by decide, a_in 256 (by decide +kernel) rfl⟩
theorem fkX7_48 : a_FL RX7 48 6 3 5 := ⟨RX6, TX6, ckX6, by decide, a_in 257 (by decide +kernel) rfl⟩
theorem fkX6_25 : a_FL RX6 25 6 4 5 := ⟨RX6, TX6, ckX6, by decide, a_in 258 (by decide +kernel) rfl⟩
theorem fkX11_135 : a_FL RX11 135 6 4 5 := ⟨RX6, TX6, ckX6, by decide, a_in 259 (by decide +kernel) rfl⟩
theorem fkX0_78 : a_FL RX0 78 6 4 5 := ⟨RX6, TX6, ckX6, by decide, a_in 260 (by decide +kernel) rfl⟩
theorem fkX7_67 : a_FL RX7 67 6 4 5 := ⟨RX6, TX6, ckX6, by decide, a_in 261 (by decide +kernel) rfl⟩
theorem fkX1_9 : a_FL RX1 9 1 0 10 := ⟨RX1, TX1, ckX1, by decide, a_in 273 (by decide +kernel) rfl⟩
theorem fkX1_15 : a_FL RX1 15 1 1 10 := ⟨RX1, TX1, ckX1, by decide, a_in 274 (by decide +kernel) rfl⟩
theorem fkX1_18 : a_FL RX1 18 1 2 10 := ⟨RX1, TX1, ckX1, by decide, a_in 275 (by decide +kernel) rfl⟩
theorem fkX1_21 : a_FL RX1 21 1 3 10 := ⟨RX1, TX1, ckX1, by decide, a_in 276 (by decide +kernel) rfl⟩
theorem fkX1_27 : a_FL RX1 27 1 4 10 := ⟨RX1, TX1, ckX1, by decide, a_in 277 (by decide +kernel) rfl⟩
theorem fkX1_31 : a_FL RX1 31 1 5 10 := ⟨RX1, TX1, ckX1, by decide, a_in 278 (by decide +kernel) rfl⟩
theorem fkX1_35 : a_FL RX1 35 1 6 10 := ⟨RX1, TX1, ckX1, by decide, a_in 279 (by decide +kernel) rfl⟩
theorem fkX1_39 : a_FL RX1 39 1 7 10 := ⟨RX1, TX1, ckX1, by decide, a_in 280 (by decide +kernel) rfl⟩
theorem fkX11_194 : a_FL RX11 194 1 7 10 := ⟨RX1, TX1, ckX1, by decide, a_in 281 (by decide +kernel) rfl⟩
theorem fkX1_42 : a_FL RX1 42 1 8 10 := ⟨RX1, TX1, ckX1, by decide, a_in 282 (by decide +kernel) rfl⟩
theorem fkX11_197 : a_FL RX11 197 1 8 10 := ⟨RX1, TX1, ckX1, by decide, a_in 283 (by decide +kernel) rfl⟩
theorem fkX1_45 : a_FL RX1 45 1 9 10 := ⟨RX1, TX1, ckX1, by decide, a_in 284 (by decide +kernel) rfl⟩
theorem fkX11_200 : a_FL RX11 200 1 9 10 := ⟨RX1, TX1, ckX1, by decide, a_in 285 (by decide +kernel) rfl⟩
theorem mkX11_45 : Cond.methodLinkNest RX11 45 yX0_init "SolvedChains" ∈ lw_tbl := List.mem_of_getElem? (i := 309) (by decide +kernel)
theorem mnX0_init : Cond.instanceMethod yX0_init ∈ a_tb := a_in 310 (by decide +kernel) rfl
theorem mcX0_init : Cond.code yX0_init cX0_init 1 none ∈ a_tb := a_in 311 (by decide +kernel) rfl
theorem fkX0_9 : a_FL RX0 9 0 0 4 := ⟨RX0, TX0, ckX0, by decide, a_in 313 (by decide +kernel) rfl⟩
theorem fkX0_15 : a_FL RX0 15 0 1 4 := ⟨RX0, TX0, ckX0, by decide, a_in 314 (by decide +kernel) rfl⟩
theorem fkX0_18 : a_FL RX0 18 0 2 4 := ⟨RX0, TX0, ckX0, by decide, a_in 315 (by decide +kernel) rfl⟩
theorem fkX0_21 : a_FL RX0 21 0 3 4 := ⟨RX0, TX0, ckX0, by decide, a_in 316 (by decide +kernel) rfl⟩
theorem fkX4_22 : a_FL RX4 22 0 3 4 := ⟨RX0, TX0, ckX0, by decide, a_in 317 (by decide +kernel) rfl⟩
theorem fkX8_66 : a_FL RX8 66 0 3 4 := ⟨RX0, TX0, ckX0, by decide, a_in 318 (by decide +kernel) rfl⟩
theorem fkX11_224 : a_FL RX11 224 0 3 4 := ⟨RX0, TX0, ckX0, by decide, a_in 319 (by decide +kernel) rfl⟩
theorem mlX11_52 : Cond.methodLink RX11 52 yX8_init ∈ a_tb := a_in 331 (by decide +kernel) rfl
theorem mnX8_init : Cond.instanceMethod yX8_init ∈ a_tb := a_in 332 (by decide +kernel) rfl
theorem mcX8_init : Cond.code yX8_init cX8_init 2 none ∈ a_tb := a_in 333 (by decide +kernel) rfl
theorem mkX8_11 : Cond.methodLinkNest RX8 11 yX6_init "SolvedChains" ∈ lw_tbl := List.mem_of_getElem? (i := 336) (by decide +kernel)
theorem fkX8_44 : a_FL RX8 44 8 0 10 := ⟨RX8, TX8, ckX8, by decide, a_in 337 (by decide +kernel) rfl⟩
theorem fkX8_12 : a_FL RX8 12 8 1 10 := ⟨RX8, TX8, ckX8, by decide, a_in 338 (by decide +kernel) rfl⟩
theorem fkX8_18 : a_FL RX8 18 8 2 10 := ⟨RX8, TX8, ckX8, by decide, a_in 339 (by decide +kernel) rfl⟩
theorem fkX8_22 : a_FL RX8 22 8 3 10 := ⟨RX8, TX8, ckX8, by decide, a_in 340 (by decide +kernel) rfl⟩
theorem fkX8_25 : a_FL RX8 25 8 4 10 := ⟨RX8, TX8, ckX8, by decide, a_in 341 (by decide +kernel) rfl⟩
theorem fkX8_29 : a_FL RX8 29 8 5 10 := ⟨RX8, TX8, ckX8, by decide, a_in 342 (by decide +kernel) rfl⟩
theorem fkX8_32 : a_FL RX8 32 8 6 10 := ⟨RX8, TX8, ckX8, by decide, a_in 343 (by decide +kernel) rfl⟩
theorem fkX8_35 : a_FL RX8 35 8 7 10 := ⟨RX8, TX8, ckX8, by decide, a_in 344 (by decide +kernel) rfl⟩
theorem fkX8_38 : a_FL RX8 38 8 8 10 := ⟨RX8, TX8, ckX8, by decide, a_in 345 (by decide +kernel) rfl⟩
theorem fkX11_239 : a_FL RX11 239 8 8 10 := ⟨RX8, TX8, ckX8, by decide, a_in 346 (by decide +kernel) rfl⟩
theorem fkX8_41 : a_FL RX8 41 8 9 10 := ⟨RX8, TX8, ckX8, by decide, a_in 347 (by decide +kernel) rfl⟩
theorem fkX11_236 : a_FL RX11 236 8 9 10 := ⟨RX8, TX8, ckX8, by decide, a_in 348 (by decide +kernel) rfl⟩
theorem mlX11_61 : Cond.methodLink RX11 61 yX4_init ∈ a_tb := a_in 372 (by decide +kernel) rfl
theorem mnX4_init : Cond.instanceMethod yX4_init ∈ a_tb := a_in 373 (by decide +kernel) rfl
theorem mcX4_init : Cond.code yX4_init cX4_init 2 none ∈ a_tb := a_in 374 (by decide +kernel) rfl
theorem fkX4_18 : a_FL RX4 18 4 0 3 := ⟨RX4, TX4, ckX4, by decide, a_in 376 (by decide +kernel) rfl⟩
theorem fkX4_9 : a_FL RX4 9 4 1 3 := ⟨RX4, TX4, ckX4, by decide, a_in 377 (by decide +kernel) rfl⟩
theorem fkX11_331 : a_FL RX11 331 4 1 3 := ⟨RX4, TX4, ckX4, by decide, a_in 378 (by decide +kernel) rfl⟩
theorem fkX4_15 : a_FL RX4 15 4 2 3 := ⟨RX4, TX4, ckX4, by decide, a_in 379 (by decide +kernel) rfl⟩
theorem fkX11_338 : a_FL RX11 338 4 2 3 := ⟨RX4, TX4, ckX4, by decide, a_in 380 (by decide +kernel) rfl⟩
theorem mkX11_68 : Cond.methodLinkNest RX11 68 yX3_init "SolvedChains" ∈ lw_tbl := List.mem_of_getElem? (i := 390) (by decide +kernel)
theorem mnX3_init : Cond.instanceMethod yX3_init ∈ a_tb := a_in 391 (by decide +kernel) rfl
theorem mcX3_init : Cond.code yX3_init cX3_init 1 none ∈ a_tb := a_in 392 (by decide +kernel) rfl
theorem mkX3_11 : Cond.methodLinkNest RX3 11 yX6_init "SolvedChains" ∈ lw_tbl := List.mem_of_getElem? (i := 395) (by decide +kernel)
theorem fkX3_12 : a_FL RX3 12 3 0 8 := ⟨RX3, TX3, ckX3, by decide, a_in 396 (by decide +kernel) rfl⟩
theorem fkX3_18 : a_FL RX3 18 3 1 8 := ⟨RX3, TX3, ckX3, by decide, a_in 397 (by decide +kernel) rfl⟩
theorem fkX3_22 : a_FL RX3 22 3 2 8 := ⟨RX3, TX3, ckX3, by decide, a_in 398 (by decide +kernel) rfl⟩
theorem fkX3_26 : a_FL RX3 26 3 3 8 := ⟨RX3, TX3, ckX3, by decide, a_in 399 (by decide +kernel) rfl⟩
theorem fkX3_29 : a_FL RX3 29 3 4 8 := ⟨RX3, TX3, ckX3, by decide, a_in 400 (by decide +kernel) rfl⟩
theorem fkX3_32 : a_FL RX3 32 3 5 8 := ⟨RX3, TX3, ckX3, by decide, a_in 401 (by decide +kernel) rfl⟩
theorem fkX3_35 : a_FL RX3 35 3 6 8 := ⟨RX3, TX3, ckX3, by decide, a_in 402 (by decide +kernel) rfl⟩
theorem fkX11_274 : a_FL RX11 274 3 6 8 := ⟨RX3, TX3, ckX3, by decide, a_in 403 (by decide +kernel) rfl⟩
theorem fkX3_38 : a_FL RX3 38 3 7 8 := ⟨RX3, TX3, ckX3, by decide, a_in 404 (by decide +kernel) rfl⟩
theorem fkX11_277 : a_FL RX11 277 3 7 8 := ⟨RX3, TX3, ckX3, by decide, a_in 405 (by decide +kernel) rfl⟩
theorem mkX11_75 : Cond.methodLinkNest RX11 75 yX6_init "SolvedChains" ∈ lw_tbl := List.mem_of_getElem? (i := 424) (by decide +kernel)
theorem mlX11_87 : Cond.methodLink RX11 87 yJ9_min_7cf53 ∈ a_tb := a_in 425 (by decide +kernel) rfl
theorem mstJ9_min_7cf53 : Cond.static yJ9_min_7cf53 ∈ a_tb := a_in 426 (by decide +kernel) rfl
theorem mcJ9_min_7cf53 : Cond.code yJ9_min_7cf53 cJ9_min_7cf53 2 (some FieldType.int) ∈ a_tb := a_in 427 (by decide +kernel) rfl
theorem mlX11_93 : Cond.methodLink RX11 93 yJ9_max_7cf53 ∈ a_tb := a_in 428 (by decide +kernel) rfl
theorem mstJ9_max_7cf53 : Cond.static yJ9_max_7cf53 ∈ a_tb := a_in 429 (by decide +kernel) rfl
theorem mcJ9_max_7cf53 : Cond.code yJ9_max_7cf53 cJ9_max_7cf53 2 (some FieldType.int) ∈ a_tb := a_in 430 (by decide +kernel) rfl
theorem mlX11_98 : Cond.methodLink RX11 98 yX9_init ∈ a_tb := a_in 433 (by decide +kernel) rfl
theorem mnX9_init : Cond.instanceMethod yX9_init ∈ a_tb := a_in 434 (by decide +kernel) rfl
theorem mcX9_init : Cond.code yX9_init cX9_init 2 none ∈ a_tb := a_in 435 (by decide +kernel) rfl
theorem mkX9_11 : Cond.methodLinkNest RX9 11 yX6_init "SolvedChains" ∈ lw_tbl := List.mem_of_getElem? (i := 438) (by decide +kernel)
theorem mkX9_20 : Cond.methodLinkNest RX9 20 yX2_init "SolvedChains" ∈ lw_tbl := List.mem_of_getElem? (i := 441) (by decide +kernel)
theorem mnX2_init : Cond.instanceMethod yX2_init ∈ a_tb := a_in 442 (by decide +kernel) rfl
theorem mcX2_init : Cond.code yX2_init cX2_init 1 none ∈ a_tb := a_in 443 (by decide +kernel) rfl
theorem fkX2_13 : a_FL RX2 13 2 0 4 := ⟨RX2, TX2, ckX2, by decide, a_in 447 (by decide +kernel) rfl⟩
theorem fkX2_16 : a_FL RX2 16 2 1 4 := ⟨RX2, TX2, ckX2, by decide, a_in 448 (by decide +kernel) rfl⟩
theorem fkX2_20 : a_FL RX2 20 2 2 4 := ⟨RX2, TX2, ckX2, by decide, a_in 449 (by decide +kernel) rfl⟩
theorem fkX11_307 : a_FL RX11 307 2 2 4 := ⟨RX2, TX2, ckX2, by decide, a_in 450 (by decide +kernel) rfl⟩
theorem fkX2_23 : a_FL RX2 23 2 3 4 := ⟨RX2, TX2, ckX2, by decide, a_in 451 (by decide +kernel) rfl⟩
theorem fkX11_310 : a_FL RX11 310 2 3 4 := ⟨RX2, TX2, ckX2, by decide, a_in 452 (by decide +kernel) rfl⟩
theorem fkX9_12 : a_FL RX9 12 9 0 4 := ⟨RX9, TX9, ckX9, by decide, a_in 462 (by decide +kernel) rfl⟩
theorem fkX11_108 : a_FL RX11 108 9 0 4 := ⟨RX9, TX9, ckX9, by decide, a_in 463 (by decide +kernel) rfl⟩
theorem fkX9_21 : a_FL RX9 21 9 1 4 := ⟨RX9, TX9, ckX9, by decide, a_in 464 (by decide +kernel) rfl⟩
theorem fkX11_119 : a_FL RX11 119 9 1 4 := ⟨RX9, TX9, ckX9, by decide, a_in 465 (by decide +kernel) rfl⟩
theorem fkX9_25 : a_FL RX9 25 9 2 4 := ⟨RX9, TX9, ckX9, by decide, a_in 466 (by decide +kernel) rfl⟩
theorem fkX11_156 : a_FL RX11 156 9 2 4 := ⟨RX9, TX9, ckX9, by decide, a_in 467 (by decide +kernel) rfl⟩
theorem fkX9_29 : a_FL RX9 29 9 3 4 := ⟨RX9, TX9, ckX9, by decide, a_in 468 (by decide +kernel) rfl⟩
theorem fkX11_176 : a_FL RX11 176 9 3 4 := ⟨RX9, TX9, ckX9, by decide, a_in 469 (by decide +kernel) rfl⟩
theorem fkX11_101 : a_FL RX11 101 11 0 14 := ⟨RX11, TX11, ckX11, by decide, a_in 479 (by decide +kernel) rfl⟩
theorem fkX11_105 : a_FL RX11 105 11 1 14 := ⟨RX11, TX11, ckX11, by decide, a_in 480 (by decide +kernel) rfl⟩
theorem fkX11_10 : a_FL RX11 10 11 2 14 := ⟨RX11, TX11, ckX11, by decide, a_in 481 (by decide +kernel) rfl⟩
theorem fkX11_18 : a_FL RX11 18 11 3 14 := ⟨RX11, TX11, ckX11, by decide, a_in 482 (by decide +kernel) rfl⟩
theorem fkX11_23 : a_FL RX11 23 11 4 14 := ⟨RX11, TX11, ckX11, by decide, a_in 483 (by decide +kernel) rfl⟩
theorem fkX11_32 : a_FL RX11 32 11 5 14 := ⟨RX11, TX11, ckX11, by decide, a_in 484 (by decide +kernel) rfl⟩
theorem fkX11_39 : a_FL RX11 39 11 6 14 := ⟨RX11, TX11, ckX11, by decide, a_in 485 (by decide +kernel) rfl⟩
theorem fkX11_46 : a_FL RX11 46 11 7 14 := ⟨RX11, TX11, ckX11, by decide, a_in 486 (by decide +kernel) rfl⟩
theorem fkX11_55 : a_FL RX11 55 11 8 14 := ⟨RX11, TX11, ckX11, by decide, a_in 487 (by decide +kernel) rfl⟩
theorem fkX11_62 : a_FL RX11 62 11 9 14 := ⟨RX11, TX11, ckX11, by decide, a_in 488 (by decide +kernel) rfl⟩
theorem fkX11_69 : a_FL RX11 69 11 10 14 := ⟨RX11, TX11, ckX11, by decide, a_in 489 (by decide +kernel) rfl⟩
theorem fkX11_76 : a_FL RX11 76 11 11 14 := ⟨RX11, TX11, ckX11, by decide, a_in 490 (by decide +kernel) rfl⟩
theorem fkX11_80 : a_FL RX11 80 11 12 14 := ⟨RX11, TX11, ckX11, by decide, a_in 491 (by decide +kernel) rfl⟩
theorem fkX11_84 : a_FL RX11 84 11 13 14 := ⟨RX11, TX11, ckX11, by decide, a_in 492 (by decide +kernel) rfl⟩
theorem mlL_21 : Cond.methodLink RL 21 yX11_chain ∈ a_tb := a_in 522 (by decide +kernel) rfl
theorem mnX11_chain : Cond.instanceMethod yX11_chain ∈ a_tb := a_in 523 (by decide +kernel) rfl
theorem mseX11_chain : Cond.selects RX11 yX11_chain yX11_chain ∈ a_tb := a_in 524 (by decide +kernel) rfl
theorem mcX11_chain : Cond.code yX11_chain cX11_chain 3 (some FieldType.boolean) ∈ a_tb := a_in 525 (by decide +kernel) rfl
theorem mlX11_123 : Cond.methodLink RX11 123 yX2_restart ∈ a_tb := a_in 526 (by decide +kernel) rfl
theorem mnX2_restart : Cond.instanceMethod yX2_restart ∈ a_tb := a_in 527 (by decide +kernel) rfl
theorem mseX2_restart : Cond.selects RX2 yX2_restart yX2_restart ∈ a_tb := a_in 528 (by decide +kernel) rfl
theorem mcX2_restart : Cond.code yX2_restart cX2_restart 1 none ∈ a_tb := a_in 529 (by decide +kernel) rfl
theorem mkX2_36 : Cond.methodLinkNest RX2 36 yX11_clear "SolvedChains" ∈ lw_tbl := List.mem_of_getElem? (i := 530) (by decide +kernel)
theorem mstX11_clear : Cond.static yX11_clear ∈ a_tb := a_in 531 (by decide +kernel) rfl
theorem mcX11_clear : Cond.code yX11_clear cX11_clear 2 none ∈ a_tb := a_in 532 (by decide +kernel) rfl
theorem mlL_26 : Cond.methodLink RL 26 yX11_prime ∈ a_tb := a_in 533 (by decide +kernel) rfl
theorem mnX11_prime : Cond.instanceMethod yX11_prime ∈ a_tb := a_in 534 (by decide +kernel) rfl
theorem mseX11_prime : Cond.selects RX11 yX11_prime yX11_prime ∈ a_tb := a_in 535 (by decide +kernel) rfl
theorem mcX11_prime : Cond.code yX11_prime cX11_prime 3 (some FieldType.boolean) ∈ a_tb := a_in 536 (by decide +kernel) rfl
theorem mlX11_128 : Cond.methodLink RX11 128 yX11_isPrime ∈ a_tb := a_in 537 (by decide +kernel) rfl
theorem mstX11_isPrime : Cond.static yX11_isPrime ∈ a_tb := a_in 538 (by decide +kernel) rfl
theorem mcX11_isPrime : Cond.code yX11_isPrime cX11_isPrime 2 (some FieldType.boolean) ∈ a_tb := a_in 539 (by decide +kernel) rfl
theorem mlX11_138 : Cond.methodLink RX11 138 yX11_left ∈ a_tb := a_in 540 (by decide +kernel) rfl
theorem mstX11_left : Cond.static yX11_left ∈ a_tb := a_in 541 (by decide +kernel) rfl
theorem mcX11_left : Cond.code yX11_left cX11_left 3 (some FieldType.int) ∈ a_tb := a_in 542 (by decide +kernel) rfl
theorem mlX11_144 : Cond.methodLink RX11 144 yX2_takeBy ∈ a_tb := a_in 543 (by decide +kernel) rfl
theorem mnX2_takeBy : Cond.instanceMethod yX2_takeBy ∈ a_tb := a_in 544 (by decide +kernel) rfl
theorem mseX2_takeBy : Cond.selects RX2 yX2_takeBy yX2_takeBy ∈ a_tb := a_in 545 (by decide +kernel) rfl
theorem mcX2_takeBy : Cond.code yX2_takeBy cX2_takeBy 5 none ∈ a_tb := a_in 546 (by decide +kernel) rfl
theorem mlX2_32 : Cond.methodLink RX2 32 yX2_row ∈ a_tb := a_in 547 (by decide +kernel) rfl
theorem mnX2_row : Cond.instanceMethod yX2_row ∈ a_tb := a_in 549 (by decide +kernel) rfl
theorem mcX2_row : Cond.code yX2_row cX2_row 2 (some (FieldType.array FieldType.int)) ∈ a_tb := a_in 550 (by decide +kernel) rfl
theorem mlX2_26 : Cond.methodLink RX2 26 yJ9_floorMod_7cf53 ∈ a_tb := a_in 551 (by decide +kernel) rfl
theorem mstJ9_floorMod_7cf53 : Cond.static yJ9_floorMod_7cf53 ∈ a_tb := a_in 552 (by decide +kernel) rfl
theorem mcJ9_floorMod_7cf53 : Cond.code yJ9_floorMod_7cf53 cJ9_floorMod_7cf53 3 (some FieldType.int) ∈ a_tb := a_in 553 (by decide +kernel) rfl
theorem mkX2_40 : Cond.methodLinkNest RX2 40 yX11_left "SolvedChains" ∈ lw_tbl := List.mem_of_getElem? (i := 554) (by decide +kernel)
theorem mlL_31 : Cond.methodLink RL 31 yX11_numbers ∈ a_tb := a_in 555 (by decide +kernel) rfl
theorem mnX11_numbers : Cond.instanceMethod yX11_numbers ∈ a_tb := a_in 556 (by decide +kernel) rfl
theorem mseX11_numbers : Cond.selects RX11 yX11_numbers yX11_numbers ∈ a_tb := a_in 557 (by decide +kernel) rfl
theorem mcX11_numbers : Cond.code yX11_numbers cX11_numbers 4 (some FieldType.boolean) ∈ a_tb := a_in 558 (by decide +kernel) rfl
theorem mlX11_147 : Cond.methodLink RX11 147 yX6_isNumber ∈ a_tb := a_in 559 (by decide +kernel) rfl
theorem mnX6_isNumber : Cond.instanceMethod yX6_isNumber ∈ a_tb := a_in 560 (by decide +kernel) rfl
theorem mseX6_isNumber : Cond.selects RX6 yX6_isNumber yX6_isNumber ∈ a_tb := a_in 561 (by decide +kernel) rfl
theorem mcX6_isNumber : Cond.code yX6_isNumber cX6_isNumber 2 (some FieldType.boolean) ∈ a_tb := a_in 562 (by decide +kernel) rfl
theorem mlL_36 : Cond.methodLink RL 36 yX11_feed ∈ a_tb := a_in 563 (by decide +kernel) rfl
theorem mnX11_feed : Cond.instanceMethod yX11_feed ∈ a_tb := a_in 564 (by decide +kernel) rfl
theorem mseX11_feed : Cond.selects RX11 yX11_feed yX11_feed ∈ a_tb := a_in 565 (by decide +kernel) rfl
theorem mcX11_feed : Cond.code yX11_feed cX11_feed 6 (some FieldType.int) ∈ a_tb := a_in 566 (by decide +kernel) rfl
theorem mlX11_153 : Cond.methodLink RX11 153 yX10_add ∈ a_tb := a_in 567 (by decide +kernel) rfl
theorem mnX10_add : Cond.instanceMethod yX10_add ∈ a_tb := a_in 568 (by decide +kernel) rfl
theorem mseX10_add : Cond.selects RX10 yX10_add yX10_add ∈ a_tb := a_in 569 (by decide +kernel) rfl
theorem mcX10_add : Cond.code yX10_add cX10_add 3 none ∈ a_tb := a_in 570 (by decide +kernel) rfl
theorem mlL_41 : Cond.methodLink RL 41 yX11_end ∈ a_tb := a_in 571 (by decide +kernel) rfl
theorem mnX11_end : Cond.instanceMethod yX11_end ∈ a_tb := a_in 572 (by decide +kernel) rfl
theorem mseX11_end : Cond.selects RX11 yX11_end yX11_end ∈ a_tb := a_in 573 (by decide +kernel) rfl
theorem mcX11_end : Cond.code yX11_end cX11_end 2 (some FieldType.int) ∈ a_tb := a_in 574 (by decide +kernel) rfl
theorem mlL_46 : Cond.methodLink RL 46 yX11_text ∈ a_tb := a_in 575 (by decide +kernel) rfl
theorem mnX11_text : Cond.instanceMethod yX11_text ∈ a_tb := a_in 576 (by decide +kernel) rfl
theorem mseX11_text : Cond.selects RX11 yX11_text yX11_text ∈ a_tb := a_in 577 (by decide +kernel) rfl
theorem mcX11_text : Cond.code yX11_text cX11_text 3 (some FieldType.int) ∈ a_tb := a_in 578 (by decide +kernel) rfl
theorem mlX11_159 : Cond.methodLink RX11 159 yX5_readInto ∈ a_tb := a_in 579 (by decide +kernel) rfl
theorem mnX5_readInto : Cond.instanceMethod yX5_readInto ∈ a_tb := a_in 580 (by decide +kernel) rfl
theorem mseX5_readInto : Cond.selects RX5 yX5_readInto yX5_readInto ∈ a_tb := a_in 581 (by decide +kernel) rfl
theorem mcX5_readInto : Cond.code yX5_readInto cX5_readInto 4 (some FieldType.boolean) ∈ a_tb := a_in 582 (by decide +kernel) rfl
theorem mlX5_41 : Cond.methodLink RX5 41 yX7_restart ∈ a_tb := a_in 583 (by decide +kernel) rfl
theorem mnX7_restart : Cond.instanceMethod yX7_restart ∈ a_tb := a_in 584 (by decide +kernel) rfl
theorem mseX7_restart : Cond.selects RX7 yX7_restart yX7_restart ∈ a_tb := a_in 585 (by decide +kernel) rfl
theorem mcX7_restart : Cond.code yX7_restart cX7_restart 3 none ∈ a_tb := a_in 586 (by decide +kernel) rfl
theorem mlX5_47 : Cond.methodLink RX5 47 yX10_split ∈ a_tb := a_in 587 (by decide +kernel) rfl
theorem mnX10_split : Cond.instanceMethod yX10_split ∈ a_tb := a_in 588 (by decide +kernel) rfl
theorem mseX10_split : Cond.selects RX10 yX10_split yX10_split ∈ a_tb := a_in 589 (by decide +kernel) rfl
theorem mcX10_split : Cond.code yX10_split cX10_split 4 none ∈ a_tb := a_in 590 (by decide +kernel) rfl
theorem mlX10_23 : Cond.methodLink RX10 23 yX10_stopOf ∈ a_tb := a_in 591 (by decide +kernel) rfl
theorem mnX10_stopOf : Cond.instanceMethod yX10_stopOf ∈ a_tb := a_in 593 (by decide +kernel) rfl
theorem mcX10_stopOf : Cond.code yX10_stopOf cX10_stopOf 4 (some FieldType.int) ∈ a_tb := a_in 594 (by decide +kernel) rfl
theorem mlX10_31 : Cond.methodLink RX10 31 yX10_sortOf ∈ a_tb := a_in 595 (by decide +kernel) rfl
theorem mstX10_sortOf : Cond.static yX10_sortOf ∈ a_tb := a_in 596 (by decide +kernel) rfl
theorem mcX10_sortOf : Cond.code yX10_sortOf cX10_sortOf 1 (some FieldType.int) ∈ a_tb := a_in 597 (by decide +kernel) rfl
theorem mlX10_27 : Cond.methodLink RX10 27 yX10_tokenOf ∈ a_tb := a_in 598 (by decide +kernel) rfl
theorem mnX10_tokenOf : Cond.instanceMethod yX10_tokenOf ∈ a_tb := a_in 600 (by decide +kernel) rfl
theorem mcX10_tokenOf : Cond.code yX10_tokenOf cX10_tokenOf 4 (some FieldType.int) ∈ a_tb := a_in 601 (by decide +kernel) rfl
theorem mlX10_34 : Cond.methodLink RX10 34 yX10_wordOf ∈ a_tb := a_in 602 (by decide +kernel) rfl
theorem mnX10_wordOf : Cond.instanceMethod yX10_wordOf ∈ a_tb := a_in 604 (by decide +kernel) rfl
theorem mcX10_wordOf : Cond.code yX10_wordOf cX10_wordOf 3 (some FieldType.int) ∈ a_tb := a_in 605 (by decide +kernel) rfl
theorem mlX10_45 : Cond.methodLink RX10 45 yX10_letterWord ∈ a_tb := a_in 606 (by decide +kernel) rfl
theorem mstX10_letterWord : Cond.static yX10_letterWord ∈ a_tb := a_in 607 (by decide +kernel) rfl
theorem mcX10_letterWord : Cond.code yX10_letterWord cX10_letterWord 1 (some FieldType.int) ∈ a_tb := a_in 608 (by decide +kernel) rfl
theorem mlX10_50 : Cond.methodLink RX10 50 yX10_isWord ∈ a_tb := a_in 610 (by decide +kernel) rfl
theorem mnX10_isWord : Cond.instanceMethod yX10_isWord ∈ a_tb := a_in 612 (by decide +kernel) rfl
theorem mcX10_isWord : Cond.code yX10_isWord cX10_isWord 5 (some FieldType.boolean) ∈ a_tb := a_in 613 (by decide +kernel) rfl
theorem mlX10_64 : Cond.methodLink RX10 64 yJ0_length_8abf5 ∈ a_tb := a_in 614 (by decide +kernel) rfl
theorem mnJ0_length_8abf5 : Cond.instanceMethod yJ0_length_8abf5 ∈ a_tb := a_in 615 (by decide +kernel) rfl
theorem mseJ0_length_8abf5 : Cond.selects RJ0 yJ0_length_8abf5 yJ0_length_8abf5 ∈ a_tb := a_in 616 (by decide +kernel) rfl
theorem mcJ0_length_8abf5 : Cond.code yJ0_length_8abf5 cJ0_length_8abf5 1 (some FieldType.int) ∈ a_tb := a_in 617 (by decide +kernel) rfl
theorem mlJ0_335 : Cond.methodLink RJ0 335 yJ0_coder_7d493 ∈ a_tb := a_in 618 (by decide +kernel) rfl
theorem mnJ0_coder_7d493 : Cond.instanceMethod yJ0_coder_7d493 ∈ a_tb := a_in 619 (by decide +kernel) rfl
theorem mseJ0_coder_7d493 : Cond.selects RJ0 yJ0_coder_7d493 yJ0_coder_7d493 ∈ a_tb := a_in 620 (by decide +kernel) rfl
theorem mcJ0_coder_7d493 : Cond.code yJ0_coder_7d493 cJ0_coder_7d493 1 (some FieldType.byte) ∈ a_tb := a_in 621 (by decide +kernel) rfl
theorem mlX10_69 : Cond.methodLink RX10 69 yJ0_charAt_5068e ∈ a_tb := a_in 624 (by decide +kernel) rfl
theorem mnJ0_charAt_5068e : Cond.instanceMethod yJ0_charAt_5068e ∈ a_tb := a_in 625 (by decide +kernel) rfl
theorem mseJ0_charAt_5068e : Cond.selects RJ0 yJ0_charAt_5068e yJ0_charAt_5068e ∈ a_tb := a_in 626 (by decide +kernel) rfl
theorem mcJ0_charAt_5068e : Cond.code yJ0_charAt_5068e cJ0_charAt_5068e 2 (some FieldType.char) ∈ a_tb := a_in 627 (by decide +kernel) rfl
theorem mlJ0_492 : Cond.methodLink RJ0 492 yJ0_isLatin1_aae02 ∈ a_tb := a_in 628 (by decide +kernel) rfl
theorem mnJ0_isLatin1_aae02 : Cond.instanceMethod yJ0_isLatin1_aae02 ∈ a_tb := a_in 629 (by decide +kernel) rfl
theorem mseJ0_isLatin1_aae02 : Cond.selects RJ0 yJ0_isLatin1_aae02 yJ0_isLatin1_aae02 ∈ a_tb := a_in 630 (by decide +kernel) rfl
theorem mcJ0_isLatin1_aae02 : Cond.code yJ0_isLatin1_aae02 cJ0_isLatin1_aae02 1 (some FieldType.boolean) ∈ a_tb := a_in 631 (by decide +kernel) rfl
theorem mlJ0_495 : Cond.methodLink RJ0 495 yJ1_charAt_3b067 ∈ a_tb := a_in 632 (by decide +kernel) rfl
theorem mstJ1_charAt_3b067 : Cond.static yJ1_charAt_3b067 ∈ a_tb := a_in 633 (by decide +kernel) rfl
theorem mcJ1_charAt_3b067 : Cond.code yJ1_charAt_3b067 cJ1_charAt_3b067 2 (some FieldType.char) ∈ a_tb := a_in 634 (by decide +kernel) rfl
theorem mlJ1_9 : Cond.methodLink RJ1 9 yJ0_checkIndex_df160 ∈ a_tb := a_in 635 (by decide +kernel) rfl
theorem mstJ0_checkIndex_df160 : Cond.static yJ0_checkIndex_df160 ∈ a_tb := a_in 636 (by decide +kernel) rfl
theorem mcJ0_checkIndex_df160 : Cond.code yJ0_checkIndex_df160 cJ0_checkIndex_df160 2 none ∈ a_tb := a_in 637 (by decide +kernel) rfl
theorem mlJ0_1059 : Cond.methodLink RJ0 1059 yJ3_checkIndex_8e157 ∈ a_tb := a_in 640 (by decide +kernel) rfl
theorem mstJ3_checkIndex_8e157 : Cond.static yJ3_checkIndex_8e157 ∈ a_tb := a_in 641 (by decide +kernel) rfl
theorem mcJ3_checkIndex_8e157 : Cond.code yJ3_checkIndex_8e157 cJ3_checkIndex_8e157 3 (some FieldType.int) ∈ a_tb := a_in 642 (by decide +kernel) rfl
theorem mlJ0_498 : Cond.methodLink RJ0 498 yJ2_charAt_3b067 ∈ a_tb := a_in 643 (by decide +kernel) rfl
theorem mstJ2_charAt_3b067 : Cond.static yJ2_charAt_3b067 ∈ a_tb := a_in 644 (by decide +kernel) rfl
theorem mcJ2_charAt_3b067 : Cond.code yJ2_charAt_3b067 cJ2_charAt_3b067 2 (some FieldType.char) ∈ a_tb := a_in 645 (by decide +kernel) rfl
theorem mlJ2_67 : Cond.methodLink RJ2 67 yJ2_checkIndex_2214a ∈ a_tb := a_in 646 (by decide +kernel) rfl
theorem mstJ2_checkIndex_2214a : Cond.static yJ2_checkIndex_2214a ∈ a_tb := a_in 647 (by decide +kernel) rfl
theorem mcJ2_checkIndex_2214a : Cond.code yJ2_checkIndex_2214a cJ2_checkIndex_2214a 2 none ∈ a_tb := a_in 648 (by decide +kernel) rfl
theorem mlJ2_48 : Cond.methodLink RJ2 48 yJ2_length_9d52b ∈ a_tb := a_in 649 (by decide +kernel) rfl
theorem mstJ2_length_9d52b : Cond.static yJ2_length_9d52b ∈ a_tb := a_in 650 (by decide +kernel) rfl
theorem mcJ2_length_9d52b : Cond.code yJ2_length_9d52b cJ2_length_9d52b 1 (some FieldType.int) ∈ a_tb := a_in 651 (by decide +kernel) rfl
theorem mlJ2_414 : Cond.methodLink RJ2 414 yJ0_checkIndex_df160 ∈ a_tb := a_in 652 (by decide +kernel) rfl
theorem mlJ2_71 : Cond.methodLink RJ2 71 yJ2_getChar_3b067 ∈ a_tb := a_in 653 (by decide +kernel) rfl
theorem mstJ2_getChar_3b067 : Cond.static yJ2_getChar_3b067 ∈ a_tb := a_in 654 (by decide +kernel) rfl
theorem mcJ2_getChar_3b067 : Cond.code yJ2_getChar_3b067 cJ2_getChar_3b067 2 (some FieldType.char) ∈ a_tb := a_in 655 (by decide +kernel) rfl
theorem mlX10_37 : Cond.methodLink RX10 37 yX10_numberOf ∈ a_tb := a_in 666 (by decide +kernel) rfl
theorem mnX10_numberOf : Cond.instanceMethod yX10_numberOf ∈ a_tb := a_in 668 (by decide +kernel) rfl
theorem mcX10_numberOf : Cond.code yX10_numberOf cX10_numberOf 5 (some FieldType.int) ∈ a_tb := a_in 669 (by decide +kernel) rfl
theorem mlX10_40 : Cond.methodLink RX10 40 yJ9_min_7cf53 ∈ a_tb := a_in 670 (by decide +kernel) rfl
theorem mlX5_50 : Cond.methodLink RX5 50 yX5_advance ∈ a_tb := a_in 671 (by decide +kernel) rfl
theorem mnX5_advance : Cond.instanceMethod yX5_advance ∈ a_tb := a_in 673 (by decide +kernel) rfl
theorem mcX5_advance : Cond.code yX5_advance cX5_advance 1 none ∈ a_tb := a_in 674 (by decide +kernel) rfl
theorem mlX5_53 : Cond.methodLink RX5 53 yX5_readClause ∈ a_tb := a_in 675 (by decide +kernel) rfl
theorem mnX5_readClause : Cond.instanceMethod yX5_readClause ∈ a_tb := a_in 677 (by decide +kernel) rfl
theorem mcX5_readClause : Cond.code yX5_readClause cX5_readClause 3 (some FieldType.boolean) ∈ a_tb := a_in 678 (by decide +kernel) rfl
theorem mlX5_65 : Cond.methodLink RX5 65 yX5_refuse ∈ a_tb := a_in 679 (by decide +kernel) rfl
theorem mnX5_refuse : Cond.instanceMethod yX5_refuse ∈ a_tb := a_in 681 (by decide +kernel) rfl
theorem mcX5_refuse : Cond.code yX5_refuse cX5_refuse 2 (some FieldType.boolean) ∈ a_tb := a_in 682 (by decide +kernel) rfl
theorem mlX5_69 : Cond.methodLink RX5 69 yX7_hasWeight ∈ a_tb := a_in 683 (by decide +kernel) rfl
theorem mnX7_hasWeight : Cond.instanceMethod yX7_hasWeight ∈ a_tb := a_in 684 (by decide +kernel) rfl
theorem mseX7_hasWeight : Cond.selects RX7 yX7_hasWeight yX7_hasWeight ∈ a_tb := a_in 685 (by decide +kernel) rfl
theorem mcX7_hasWeight : Cond.code yX7_hasWeight cX7_hasWeight 2 (some FieldType.boolean) ∈ a_tb := a_in 686 (by decide +kernel) rfl
theorem mlX5_75 : Cond.methodLink RX5 75 yX7_open ∈ a_tb := a_in 687 (by decide +kernel) rfl
theorem mnX7_open : Cond.instanceMethod yX7_open ∈ a_tb := a_in 688 (by decide +kernel) rfl
theorem mseX7_open : Cond.selects RX7 yX7_open yX7_open ∈ a_tb := a_in 689 (by decide +kernel) rfl
theorem mcX7_open : Cond.code yX7_open cX7_open 2 none ∈ a_tb := a_in 690 (by decide +kernel) rfl
theorem mlX5_78 : Cond.methodLink RX5 78 yX5_readNumber ∈ a_tb := a_in 691 (by decide +kernel) rfl
theorem mnX5_readNumber : Cond.instanceMethod yX5_readNumber ∈ a_tb := a_in 693 (by decide +kernel) rfl
theorem mcX5_readNumber : Cond.code yX5_readNumber cX5_readNumber 2 (some FieldType.boolean) ∈ a_tb := a_in 694 (by decide +kernel) rfl
theorem mlX5_90 : Cond.methodLink RX5 90 yX7_add ∈ a_tb := a_in 695 (by decide +kernel) rfl
theorem mnX7_add : Cond.instanceMethod yX7_add ∈ a_tb := a_in 696 (by decide +kernel) rfl
theorem mseX7_add : Cond.selects RX7 yX7_add yX7_add ∈ a_tb := a_in 697 (by decide +kernel) rfl
theorem mcX7_add : Cond.code yX7_add cX7_add 3 none ∈ a_tb := a_in 698 (by decide +kernel) rfl
theorem mlX5_81 : Cond.methodLink RX5 81 yX5_readSum ∈ a_tb := a_in 699 (by decide +kernel) rfl
theorem mnX5_readSum : Cond.instanceMethod yX5_readSum ∈ a_tb := a_in 701 (by decide +kernel) rfl
theorem mcX5_readSum : Cond.code yX5_readSum cX5_readSum 5 (some FieldType.boolean) ∈ a_tb := a_in 702 (by decide +kernel) rfl
theorem mlX5_87 : Cond.methodLink RX5 87 yX5_readProduct ∈ a_tb := a_in 703 (by decide +kernel) rfl
theorem mnX5_readProduct : Cond.instanceMethod yX5_readProduct ∈ a_tb := a_in 705 (by decide +kernel) rfl
theorem mcX5_readProduct : Cond.code yX5_readProduct cX5_readProduct 5 (some FieldType.boolean) ∈ a_tb := a_in 706 (by decide +kernel) rfl
theorem mlX5_93 : Cond.methodLink RX5 93 yX5_readOne ∈ a_tb := a_in 707 (by decide +kernel) rfl
theorem mnX5_readOne : Cond.instanceMethod yX5_readOne ∈ a_tb := a_in 709 (by decide +kernel) rfl
theorem mcX5_readOne : Cond.code yX5_readOne cX5_readOne 4 (some FieldType.boolean) ∈ a_tb := a_in 710 (by decide +kernel) rfl
theorem mlX5_96 : Cond.methodLink RX5 96 yX5_readName ∈ a_tb := a_in 711 (by decide +kernel) rfl
theorem mnX5_readName : Cond.instanceMethod yX5_readName ∈ a_tb := a_in 713 (by decide +kernel) rfl
theorem mcX5_readName : Cond.code yX5_readName cX5_readName 1 (some FieldType.boolean) ∈ a_tb := a_in 714 (by decide +kernel) rfl
theorem mlX5_84 : Cond.methodLink RX5 84 yX5_pass ∈ a_tb := a_in 715 (by decide +kernel) rfl
theorem mnX5_pass : Cond.instanceMethod yX5_pass ∈ a_tb := a_in 717 (by decide +kernel) rfl
theorem mcX5_pass : Cond.code yX5_pass cX5_pass 2 (some FieldType.boolean) ∈ a_tb := a_in 718 (by decide +kernel) rfl
theorem mlX5_57 : Cond.methodLink RX5 57 yX10_start ∈ a_tb := a_in 719 (by decide +kernel) rfl
theorem mnX10_start : Cond.instanceMethod yX10_start ∈ a_tb := a_in 720 (by decide +kernel) rfl
theorem mseX10_start : Cond.selects RX10 yX10_start yX10_start ∈ a_tb := a_in 721 (by decide +kernel) rfl
theorem mcX10_start : Cond.code yX10_start cX10_start 2 (some FieldType.int) ∈ a_tb := a_in 722 (by decide +kernel) rfl
theorem mlL_51 : Cond.methodLink RL 51 yX11_fault ∈ a_tb := a_in 724 (by decide +kernel) rfl
theorem mnX11_fault : Cond.instanceMethod yX11_fault ∈ a_tb := a_in 725 (by decide +kernel) rfl
theorem mseX11_fault : Cond.selects RX11 yX11_fault yX11_fault ∈ a_tb := a_in 726 (by decide +kernel) rfl
theorem mcX11_fault : Cond.code yX11_fault cX11_fault 2 (some FieldType.int) ∈ a_tb := a_in 727 (by decide +kernel) rfl
theorem mlX11_163 : Cond.methodLink RX11 163 yX5_hasRead ∈ a_tb := a_in 728 (by decide +kernel) rfl
theorem mnX5_hasRead : Cond.instanceMethod yX5_hasRead ∈ a_tb := a_in 729 (by decide +kernel) rfl
theorem mseX5_hasRead : Cond.selects RX5 yX5_hasRead yX5_hasRead ∈ a_tb := a_in 730 (by decide +kernel) rfl
theorem mcX5_hasRead : Cond.code yX5_hasRead cX5_hasRead 1 (some FieldType.boolean) ∈ a_tb := a_in 731 (by decide +kernel) rfl
theorem mlL_55 : Cond.methodLink RL 55 yX11_by ∈ a_tb := a_in 732 (by decide +kernel) rfl
theorem mnX11_by : Cond.instanceMethod yX11_by ∈ a_tb := a_in 733 (by decide +kernel) rfl
theorem mseX11_by : Cond.selects RX11 yX11_by yX11_by ∈ a_tb := a_in 734 (by decide +kernel) rfl
theorem mcX11_by : Cond.code yX11_by cX11_by 2 (some FieldType.boolean) ∈ a_tb := a_in 735 (by decide +kernel) rfl
theorem mlX11_173 : Cond.methodLink RX11 173 yX11_isText ∈ a_tb := a_in 736 (by decide +kernel) rfl
theorem mnX11_isText : Cond.instanceMethod yX11_isText ∈ a_tb := a_in 738 (by decide +kernel) rfl
theorem mcX11_isText : Cond.code yX11_isText cX11_isText 2 (some FieldType.boolean) ∈ a_tb := a_in 739 (by decide +kernel) rfl
theorem mlL_59 : Cond.methodLink RL 59 yX11_weight ∈ a_tb := a_in 740 (by decide +kernel) rfl
theorem mnX11_weight : Cond.instanceMethod yX11_weight ∈ a_tb := a_in 741 (by decide +kernel) rfl
theorem mseX11_weight : Cond.selects RX11 yX11_weight yX11_weight ∈ a_tb := a_in 742 (by decide +kernel) rfl
theorem mcX11_weight : Cond.code yX11_weight cX11_weight 3 (some FieldType.int) ∈ a_tb := a_in 743 (by decide +kernel) rfl
theorem mlX11_179 : Cond.methodLink RX11 179 yX11_toldScript ∈ a_tb := a_in 744 (by decide +kernel) rfl
theorem mnX11_toldScript : Cond.instanceMethod yX11_toldScript ∈ a_tb := a_in 746 (by decide +kernel) rfl
theorem mcX11_toldScript : Cond.code yX11_toldScript cX11_toldScript 1 (some (FieldType.object "SolvedChains$Script")) ∈ a_tb := a_in 747 (by decide +kernel) rfl
theorem mlX11_183 : Cond.methodLink RX11 183 yX7_worth ∈ a_tb := a_in 748 (by decide +kernel) rfl
theorem mnX7_worth : Cond.instanceMethod yX7_worth ∈ a_tb := a_in 749 (by decide +kernel) rfl
theorem mseX7_worth : Cond.selects RX7 yX7_worth yX7_worth ∈ a_tb := a_in 750 (by decide +kernel) rfl
theorem mcX7_worth : Cond.code yX7_worth cX7_worth 4 (some FieldType.int) ∈ a_tb := a_in 751 (by decide +kernel) rfl
theorem mlX7_44 : Cond.methodLink RX7 44 yX7_hasWeight ∈ a_tb := a_in 752 (by decide +kernel) rfl
theorem mlX7_40 : Cond.methodLink RX7 40 yX7_reckoned ∈ a_tb := a_in 753 (by decide +kernel) rfl
theorem mnX7_reckoned : Cond.instanceMethod yX7_reckoned ∈ a_tb := a_in 755 (by decide +kernel) rfl
theorem mcX7_reckoned : Cond.code yX7_reckoned cX7_reckoned 7 (some FieldType.int) ∈ a_tb := a_in 756 (by decide +kernel) rfl
theorem mlX7_60 : Cond.methodLink RX7 60 yX7_named ∈ a_tb := a_in 757 (by decide +kernel) rfl
theorem mstX7_named : Cond.static yX7_named ∈ a_tb := a_in 758 (by decide +kernel) rfl
theorem mcX7_named : Cond.code yX7_named cX7_named 3 (some FieldType.int) ∈ a_tb := a_in 759 (by decide +kernel) rfl
theorem mkX7_56 : Cond.methodLinkNest RX7 56 yX11_left "SolvedChains" ∈ lw_tbl := List.mem_of_getElem? (i := 760) (by decide +kernel)
theorem mlX7_63 : Cond.methodLink RX7 63 yX7_joined ∈ a_tb := a_in 761 (by decide +kernel) rfl
theorem mstX7_joined : Cond.static yX7_joined ∈ a_tb := a_in 762 (by decide +kernel) rfl
theorem mcX7_joined : Cond.code yX7_joined cX7_joined 4 (some FieldType.int) ∈ a_tb := a_in 763 (by decide +kernel) rfl
theorem mkX7_70 : Cond.methodLinkNest RX7 70 yX11_raised "SolvedChains" ∈ lw_tbl := List.mem_of_getElem? (i := 764) (by decide +kernel)
theorem mstX11_raised : Cond.static yX11_raised ∈ a_tb := a_in 765 (by decide +kernel) rfl
theorem mcX11_raised : Cond.code yX11_raised cX11_raised 6 (some FieldType.int) ∈ a_tb := a_in 766 (by decide +kernel) rfl
theorem mlL_64 : Cond.methodLink RL 64 yX11_equation ∈ a_tb := a_in 767 (by decide +kernel) rfl
theorem mnX11_equation : Cond.instanceMethod yX11_equation ∈ a_tb := a_in 768 (by decide +kernel) rfl
theorem mseX11_equation : Cond.selects RX11 yX11_equation yX11_equation ∈ a_tb := a_in 769 (by decide +kernel) rfl
theorem mcX11_equation : Cond.code yX11_equation cX11_equation 2 (some FieldType.int) ∈ a_tb := a_in 770 (by decide +kernel) rfl
theorem mlX11_187 : Cond.methodLink RX11 187 yX1_look ∈ a_tb := a_in 771 (by decide +kernel) rfl
theorem mnX1_look : Cond.instanceMethod yX1_look ∈ a_tb := a_in 772 (by decide +kernel) rfl
theorem mseX1_look : Cond.selects RX1 yX1_look yX1_look ∈ a_tb := a_in 773 (by decide +kernel) rfl
theorem mcX1_look : Cond.code yX1_look cX1_look 4 none ∈ a_tb := a_in 774 (by decide +kernel) rfl
theorem mlX1_53 : Cond.methodLink RX1 53 yX6_isLike ∈ a_tb := a_in 775 (by decide +kernel) rfl
theorem mnX6_isLike : Cond.instanceMethod yX6_isLike ∈ a_tb := a_in 776 (by decide +kernel) rfl
theorem mseX6_isLike : Cond.selects RX6 yX6_isLike yX6_isLike ∈ a_tb := a_in 777 (by decide +kernel) rfl
theorem mcX6_isLike : Cond.code yX6_isLike cX6_isLike 2 (some FieldType.boolean) ∈ a_tb := a_in 778 (by decide +kernel) rfl
theorem mlX1_57 : Cond.methodLink RX1 57 yX6_copyFrom ∈ a_tb := a_in 779 (by decide +kernel) rfl
theorem mnX6_copyFrom : Cond.instanceMethod yX6_copyFrom ∈ a_tb := a_in 780 (by decide +kernel) rfl
theorem mseX6_copyFrom : Cond.selects RX6 yX6_copyFrom yX6_copyFrom ∈ a_tb := a_in 781 (by decide +kernel) rfl
theorem mcX6_copyFrom : Cond.code yX6_copyFrom cX6_copyFrom 2 none ∈ a_tb := a_in 782 (by decide +kernel) rfl
theorem mlX1_64 : Cond.methodLink RX1 64 yX7_worth ∈ a_tb := a_in 783 (by decide +kernel) rfl
theorem mlX11_191 : Cond.methodLink RX11 191 yX1_askAllPairs ∈ a_tb := a_in 784 (by decide +kernel) rfl
theorem mnX1_askAllPairs : Cond.instanceMethod yX1_askAllPairs ∈ a_tb := a_in 785 (by decide +kernel) rfl
theorem mseX1_askAllPairs : Cond.selects RX1 yX1_askAllPairs yX1_askAllPairs ∈ a_tb := a_in 786 (by decide +kernel) rfl
theorem mcX1_askAllPairs : Cond.code yX1_askAllPairs cX1_askAllPairs 3 none ∈ a_tb := a_in 787 (by decide +kernel) rfl
theorem mlX1_68 : Cond.methodLink RX1 68 yX1_holds ∈ a_tb := a_in 788 (by decide +kernel) rfl
theorem mnX1_holds : Cond.instanceMethod yX1_holds ∈ a_tb := a_in 790 (by decide +kernel) rfl
theorem mcX1_holds : Cond.code yX1_holds cX1_holds 8 (some FieldType.boolean) ∈ a_tb := a_in 791 (by decide +kernel) rfl
theorem mkX1_72 : Cond.methodLinkNest RX1 72 yX11_left "SolvedChains" ∈ lw_tbl := List.mem_of_getElem? (i := 792) (by decide +kernel)
theorem mlL_68 : Cond.methodLink RL 68 yX11_sum ∈ a_tb := a_in 793 (by decide +kernel) rfl
theorem mnX11_sum : Cond.instanceMethod yX11_sum ∈ a_tb := a_in 794 (by decide +kernel) rfl
theorem mseX11_sum : Cond.selects RX11 yX11_sum yX11_sum ∈ a_tb := a_in 795 (by decide +kernel) rfl
theorem mcX11_sum : Cond.code yX11_sum cX11_sum 4 (some FieldType.int) ∈ a_tb := a_in 796 (by decide +kernel) rfl
theorem mlX11_203 : Cond.methodLink RX11 203 yX6_isState ∈ a_tb := a_in 797 (by decide +kernel) rfl
theorem mnX6_isState : Cond.instanceMethod yX6_isState ∈ a_tb := a_in 798 (by decide +kernel) rfl
theorem mseX6_isState : Cond.selects RX6 yX6_isState yX6_isState ∈ a_tb := a_in 799 (by decide +kernel) rfl
theorem mcX6_isState : Cond.code yX6_isState cX6_isState 2 (some FieldType.boolean) ∈ a_tb := a_in 800 (by decide +kernel) rfl
theorem mlX6_28 : Cond.methodLink RX6 28 yX6_states ∈ a_tb := a_in 801 (by decide +kernel) rfl
theorem mnX6_states : Cond.instanceMethod yX6_states ∈ a_tb := a_in 802 (by decide +kernel) rfl
theorem mseX6_states : Cond.selects RX6 yX6_states yX6_states ∈ a_tb := a_in 803 (by decide +kernel) rfl
theorem mcX6_states : Cond.code yX6_states cX6_states 1 (some FieldType.int) ∈ a_tb := a_in 804 (by decide +kernel) rfl
theorem mlX11_206 : Cond.methodLink RX11 206 yX6_sumBetween ∈ a_tb := a_in 805 (by decide +kernel) rfl
theorem mnX6_sumBetween : Cond.instanceMethod yX6_sumBetween ∈ a_tb := a_in 806 (by decide +kernel) rfl
theorem mseX6_sumBetween : Cond.selects RX6 yX6_sumBetween yX6_sumBetween ∈ a_tb := a_in 807 (by decide +kernel) rfl
theorem mcX6_sumBetween : Cond.code yX6_sumBetween cX6_sumBetween 7 (some FieldType.int) ∈ a_tb := a_in 808 (by decide +kernel) rfl
theorem mlX6_32 : Cond.methodLink RX6 32 yX6_bonds ∈ a_tb := a_in 809 (by decide +kernel) rfl
theorem mnX6_bonds : Cond.instanceMethod yX6_bonds ∈ a_tb := a_in 810 (by decide +kernel) rfl
theorem mseX6_bonds : Cond.selects RX6 yX6_bonds yX6_bonds ∈ a_tb := a_in 811 (by decide +kernel) rfl
theorem mcX6_bonds : Cond.code yX6_bonds cX6_bonds 1 (some FieldType.int) ∈ a_tb := a_in 812 (by decide +kernel) rfl
theorem mlX6_35 : Cond.methodLink RX6 35 yX6_bond ∈ a_tb := a_in 813 (by decide +kernel) rfl
theorem mnX6_bond : Cond.instanceMethod yX6_bond ∈ a_tb := a_in 814 (by decide +kernel) rfl
theorem mseX6_bond : Cond.selects RX6 yX6_bond yX6_bond ∈ a_tb := a_in 815 (by decide +kernel) rfl
theorem mcX6_bond : Cond.code yX6_bond cX6_bond 2 (some FieldType.int) ∈ a_tb := a_in 816 (by decide +kernel) rfl
theorem mlX6_39 : Cond.methodLink RX6 39 yX6_areAlike ∈ a_tb := a_in 817 (by decide +kernel) rfl
theorem mstX6_areAlike : Cond.static yX6_areAlike ∈ a_tb := a_in 818 (by decide +kernel) rfl
theorem mcX6_areAlike : Cond.code yX6_areAlike cX6_areAlike 3 (some FieldType.boolean) ∈ a_tb := a_in 819 (by decide +kernel) rfl
theorem mkX6_43 : Cond.methodLinkNest RX6 43 yX11_left "SolvedChains" ∈ lw_tbl := List.mem_of_getElem? (i := 820) (by decide +kernel)
theorem mlL_72 : Cond.methodLink RL 72 yX11_table ∈ a_tb := a_in 821 (by decide +kernel) rfl
theorem mnX11_table : Cond.instanceMethod yX11_table ∈ a_tb := a_in 822 (by decide +kernel) rfl
theorem mseX11_table : Cond.selects RX11 yX11_table yX11_table ∈ a_tb := a_in 823 (by decide +kernel) rfl
theorem mcX11_table : Cond.code yX11_table cX11_table 5 (some FieldType.int) ∈ a_tb := a_in 824 (by decide +kernel) rfl
theorem mlX11_209 : Cond.methodLink RX11 209 yX1_tableBetween ∈ a_tb := a_in 825 (by decide +kernel) rfl
theorem mnX1_tableBetween : Cond.instanceMethod yX1_tableBetween ∈ a_tb := a_in 826 (by decide +kernel) rfl
theorem mseX1_tableBetween : Cond.selects RX1 yX1_tableBetween yX1_tableBetween ∈ a_tb := a_in 827 (by decide +kernel) rfl
theorem mcX1_tableBetween : Cond.code yX1_tableBetween cX1_tableBetween 4 (some FieldType.int) ∈ a_tb := a_in 828 (by decide +kernel) rfl
theorem mlX1_76 : Cond.methodLink RX1 76 yJ6_bitCount_0f7a4 ∈ a_tb := a_in 829 (by decide +kernel) rfl
theorem mstJ6_bitCount_0f7a4 : Cond.static yJ6_bitCount_0f7a4 ∈ a_tb := a_in 830 (by decide +kernel) rfl
theorem mcJ6_bitCount_0f7a4 : Cond.code yJ6_bitCount_0f7a4 cJ6_bitCount_0f7a4 1 (some FieldType.int) ∈ a_tb := a_in 831 (by decide +kernel) rfl
theorem kiJ6_265 : Cond.constant RJ6 265 1431655765 ∈ a_tb := a_in 832 (by decide +kernel) rfl
theorem kiJ6_266 : Cond.constant RJ6 266 858993459 ∈ a_tb := a_in 833 (by decide +kernel) rfl
theorem kiJ6_267 : Cond.constant RJ6 267 252645135 ∈ a_tb := a_in 834 (by decide +kernel) rfl
theorem mlX1_82 : Cond.methodLink RX1 82 yX1_wayBetween ∈ a_tb := a_in 835 (by decide +kernel) rfl
theorem mnX1_wayBetween : Cond.instanceMethod yX1_wayBetween ∈ a_tb := a_in 837 (by decide +kernel) rfl
theorem mcX1_wayBetween : Cond.code yX1_wayBetween cX1_wayBetween 10 (some FieldType.int) ∈ a_tb := a_in 838 (by decide +kernel) rfl
theorem mlL_77 : Cond.methodLink RL 77 yX11_commute ∈ a_tb := a_in 839 (by decide +kernel) rfl
theorem mnX11_commute : Cond.instanceMethod yX11_commute ∈ a_tb := a_in 840 (by decide +kernel) rfl
theorem mseX11_commute : Cond.selects RX11 yX11_commute yX11_commute ∈ a_tb := a_in 841 (by decide +kernel) rfl
theorem mcX11_commute : Cond.code yX11_commute cX11_commute 4 (some FieldType.boolean) ∈ a_tb := a_in 842 (by decide +kernel) rfl
theorem mlX11_213 : Cond.methodLink RX11 213 yX11_agreesInSectors ∈ a_tb := a_in 843 (by decide +kernel) rfl
theorem mnX11_agreesInSectors : Cond.instanceMethod yX11_agreesInSectors ∈ a_tb := a_in 845 (by decide +kernel) rfl
theorem mcX11_agreesInSectors : Cond.code yX11_agreesInSectors cX11_agreesInSectors 6 (some FieldType.boolean) ∈ a_tb := a_in 846 (by decide +kernel) rfl
theorem mlX11_220 : Cond.methodLink RX11 220 yX0_gather ∈ a_tb := a_in 847 (by decide +kernel) rfl
theorem mnX0_gather : Cond.instanceMethod yX0_gather ∈ a_tb := a_in 848 (by decide +kernel) rfl
theorem mseX0_gather : Cond.selects RX0 yX0_gather yX0_gather ∈ a_tb := a_in 849 (by decide +kernel) rfl
theorem mcX0_gather : Cond.code yX0_gather cX0_gather 6 none ∈ a_tb := a_in 850 (by decide +kernel) rfl
theorem mlX0_25 : Cond.methodLink RX0 25 yX6_leastRoot ∈ a_tb := a_in 851 (by decide +kernel) rfl
theorem mnX6_leastRoot : Cond.instanceMethod yX6_leastRoot ∈ a_tb := a_in 852 (by decide +kernel) rfl
theorem mseX6_leastRoot : Cond.selects RX6 yX6_leastRoot yX6_leastRoot ∈ a_tb := a_in 853 (by decide +kernel) rfl
theorem mcX6_leastRoot : Cond.code yX6_leastRoot cX6_leastRoot 2 (some FieldType.int) ∈ a_tb := a_in 854 (by decide +kernel) rfl
theorem mlX6_58 : Cond.methodLink RX6 58 yX6_isRoot ∈ a_tb := a_in 855 (by decide +kernel) rfl
theorem mnX6_isRoot : Cond.instanceMethod yX6_isRoot ∈ a_tb := a_in 857 (by decide +kernel) rfl
theorem mcX6_isRoot : Cond.code yX6_isRoot cX6_isRoot 4 (some FieldType.boolean) ∈ a_tb := a_in 858 (by decide +kernel) rfl
theorem mkX0_34 : Cond.methodLinkNest RX0 34 yX11_raised "SolvedChains" ∈ lw_tbl := List.mem_of_getElem? (i := 859) (by decide +kernel)
theorem mlX0_38 : Cond.methodLink RX0 38 yX6_states ∈ a_tb := a_in 860 (by decide +kernel) rfl
theorem mlX0_41 : Cond.methodLink RX0 41 yJ6_bitCount_0f7a4 ∈ a_tb := a_in 861 (by decide +kernel) rfl
theorem mlX0_47 : Cond.methodLink RX0 47 yX0_takeIn ∈ a_tb := a_in 862 (by decide +kernel) rfl
theorem mnX0_takeIn : Cond.instanceMethod yX0_takeIn ∈ a_tb := a_in 864 (by decide +kernel) rfl
theorem mcX0_takeIn : Cond.code yX0_takeIn cX0_takeIn 2 (some FieldType.int) ∈ a_tb := a_in 865 (by decide +kernel) rfl
theorem mlX0_50 : Cond.methodLink RX0 50 yX0_place ∈ a_tb := a_in 866 (by decide +kernel) rfl
theorem mnX0_place : Cond.instanceMethod yX0_place ∈ a_tb := a_in 868 (by decide +kernel) rfl
theorem mcX0_place : Cond.code yX0_place cX0_place 4 none ∈ a_tb := a_in 869 (by decide +kernel) rfl
theorem mlX0_54 : Cond.methodLink RX0 54 yX0_gatherRound ∈ a_tb := a_in 870 (by decide +kernel) rfl
theorem mnX0_gatherRound : Cond.instanceMethod yX0_gatherRound ∈ a_tb := a_in 872 (by decide +kernel) rfl
theorem mcX0_gatherRound : Cond.code yX0_gatherRound cX0_gatherRound 10 none ∈ a_tb := a_in 873 (by decide +kernel) rfl
theorem mlX0_58 : Cond.methodLink RX0 58 yX6_shifted ∈ a_tb := a_in 874 (by decide +kernel) rfl
theorem mnX6_shifted : Cond.instanceMethod yX6_shifted ∈ a_tb := a_in 875 (by decide +kernel) rfl
theorem mseX6_shifted : Cond.selects RX6 yX6_shifted yX6_shifted ∈ a_tb := a_in 876 (by decide +kernel) rfl
theorem mcX6_shifted : Cond.code yX6_shifted cX6_shifted 2 (some FieldType.int) ∈ a_tb := a_in 877 (by decide +kernel) rfl
theorem mkX0_64 : Cond.methodLinkNest RX0 64 yX11_left "SolvedChains" ∈ lw_tbl := List.mem_of_getElem? (i := 878) (by decide +kernel)
theorem mlX11_334 : Cond.methodLink RX11 334 yX4_fillTable ∈ a_tb := a_in 879 (by decide +kernel) rfl
theorem mnX4_fillTable : Cond.instanceMethod yX4_fillTable ∈ a_tb := a_in 880 (by decide +kernel) rfl
theorem mseX4_fillTable : Cond.selects RX4 yX4_fillTable yX4_fillTable ∈ a_tb := a_in 881 (by decide +kernel) rfl
theorem mcX4_fillTable : Cond.code yX4_fillTable cX4_fillTable 7 none ∈ a_tb := a_in 882 (by decide +kernel) rfl
theorem mlX4_28 : Cond.methodLink RX4 28 yX0_head ∈ a_tb := a_in 883 (by decide +kernel) rfl
theorem mnX0_head : Cond.instanceMethod yX0_head ∈ a_tb := a_in 884 (by decide +kernel) rfl
theorem mseX0_head : Cond.selects RX0 yX0_head yX0_head ∈ a_tb := a_in 885 (by decide +kernel) rfl
theorem mcX0_head : Cond.code yX0_head cX0_head 2 (some FieldType.int) ∈ a_tb := a_in 886 (by decide +kernel) rfl
theorem mlX4_32 : Cond.methodLink RX4 32 yX1_tableBetween ∈ a_tb := a_in 887 (by decide +kernel) rfl
theorem mlX11_341 : Cond.methodLink RX11 341 yX0_fillSum ∈ a_tb := a_in 888 (by decide +kernel) rfl
theorem mnX0_fillSum : Cond.instanceMethod yX0_fillSum ∈ a_tb := a_in 889 (by decide +kernel) rfl
theorem mseX0_fillSum : Cond.selects RX0 yX0_fillSum yX0_fillSum ∈ a_tb := a_in 890 (by decide +kernel) rfl
theorem mcX0_fillSum : Cond.code yX0_fillSum cX0_fillSum 9 none ∈ a_tb := a_in 891 (by decide +kernel) rfl
theorem mlX0_68 : Cond.methodLink RX0 68 yX6_bonds ∈ a_tb := a_in 892 (by decide +kernel) rfl
theorem mlX0_71 : Cond.methodLink RX0 71 yX6_bond ∈ a_tb := a_in 893 (by decide +kernel) rfl
theorem mlX0_74 : Cond.methodLink RX0 74 yX6_areAlike ∈ a_tb := a_in 894 (by decide +kernel) rfl
theorem mlX11_345 : Cond.methodLink RX11 345 yX4_agree ∈ a_tb := a_in 895 (by decide +kernel) rfl
theorem mnX4_agree : Cond.instanceMethod yX4_agree ∈ a_tb := a_in 896 (by decide +kernel) rfl
theorem mseX4_agree : Cond.selects RX4 yX4_agree yX4_agree ∈ a_tb := a_in 897 (by decide +kernel) rfl
theorem mcX4_agree : Cond.code yX4_agree cX4_agree 7 (some FieldType.boolean) ∈ a_tb := a_in 898 (by decide +kernel) rfl
theorem mkX4_38 : Cond.methodLinkNest RX4 38 yX11_left "SolvedChains" ∈ lw_tbl := List.mem_of_getElem? (i := 899) (by decide +kernel)
theorem mlL_81 : Cond.methodLink RL 81 yX11_keeps ∈ a_tb := a_in 900 (by decide +kernel) rfl
theorem mnX11_keeps : Cond.instanceMethod yX11_keeps ∈ a_tb := a_in 901 (by decide +kernel) rfl
theorem mseX11_keeps : Cond.selects RX11 yX11_keeps yX11_keeps ∈ a_tb := a_in 902 (by decide +kernel) rfl
theorem mcX11_keeps : Cond.code yX11_keeps cX11_keeps 2 (some FieldType.boolean) ∈ a_tb := a_in 903 (by decide +kernel) rfl
theorem mlL_85 : Cond.methodLink RL 85 yX11_size ∈ a_tb := a_in 904 (by decide +kernel) rfl
theorem mnX11_size : Cond.instanceMethod yX11_size ∈ a_tb := a_in 905 (by decide +kernel) rfl
theorem mseX11_size : Cond.selects RX11 yX11_size yX11_size ∈ a_tb := a_in 906 (by decide +kernel) rfl
theorem mcX11_size : Cond.code yX11_size cX11_size 3 (some FieldType.int) ∈ a_tb := a_in 907 (by decide +kernel) rfl
theorem mlX11_217 : Cond.methodLink RX11 217 yX11_hasSector ∈ a_tb := a_in 908 (by decide +kernel) rfl
theorem mnX11_hasSector : Cond.instanceMethod yX11_hasSector ∈ a_tb := a_in 910 (by decide +kernel) rfl
theorem mcX11_hasSector : Cond.code yX11_hasSector cX11_hasSector 4 (some FieldType.boolean) ∈ a_tb := a_in 911 (by decide +kernel) rfl
theorem mlX11_227 : Cond.methodLink RX11 227 yX6_isCount ∈ a_tb := a_in 912 (by decide +kernel) rfl
theorem mnX6_isCount : Cond.instanceMethod yX6_isCount ∈ a_tb := a_in 913 (by decide +kernel) rfl
theorem mseX6_isCount : Cond.selects RX6 yX6_isCount yX6_isCount ∈ a_tb := a_in 914 (by decide +kernel) rfl
theorem mcX6_isCount : Cond.code yX6_isCount cX6_isCount 2 (some FieldType.boolean) ∈ a_tb := a_in 915 (by decide +kernel) rfl
theorem mlX11_252 : Cond.methodLink RX11 252 yX6_leastRoot ∈ a_tb := a_in 916 (by decide +kernel) rfl
theorem mlL_89 : Cond.methodLink RL 89 yX11_trace ∈ a_tb := a_in 917 (by decide +kernel) rfl
theorem mnX11_trace : Cond.instanceMethod yX11_trace ∈ a_tb := a_in 918 (by decide +kernel) rfl
theorem mseX11_trace : Cond.selects RX11 yX11_trace yX11_trace ∈ a_tb := a_in 919 (by decide +kernel) rfl
theorem mcX11_trace : Cond.code yX11_trace cX11_trace 3 (some FieldType.int) ∈ a_tb := a_in 920 (by decide +kernel) rfl
theorem mlX11_230 : Cond.methodLink RX11 230 yX8_look ∈ a_tb := a_in 921 (by decide +kernel) rfl
theorem mnX8_look : Cond.instanceMethod yX8_look ∈ a_tb := a_in 922 (by decide +kernel) rfl
theorem mseX8_look : Cond.selects RX8 yX8_look yX8_look ∈ a_tb := a_in 923 (by decide +kernel) rfl
theorem mcX8_look : Cond.code yX8_look cX8_look 4 none ∈ a_tb := a_in 924 (by decide +kernel) rfl
theorem mlX8_48 : Cond.methodLink RX8 48 yX6_isLike ∈ a_tb := a_in 925 (by decide +kernel) rfl
theorem mlX8_52 : Cond.methodLink RX8 52 yX6_copyFrom ∈ a_tb := a_in 926 (by decide +kernel) rfl
theorem mlX8_56 : Cond.methodLink RX8 56 yX0_gather ∈ a_tb := a_in 927 (by decide +kernel) rfl
theorem mlX8_62 : Cond.methodLink RX8 62 yX0_fillSum ∈ a_tb := a_in 928 (by decide +kernel) rfl
theorem mlX8_69 : Cond.methodLink RX8 69 yX8_flatten ∈ a_tb := a_in 929 (by decide +kernel) rfl
theorem mnX8_flatten : Cond.instanceMethod yX8_flatten ∈ a_tb := a_in 931 (by decide +kernel) rfl
theorem mcX8_flatten : Cond.code yX8_flatten cX8_flatten 5 none ∈ a_tb := a_in 932 (by decide +kernel) rfl
theorem mlX8_75 : Cond.methodLink RX8 75 yX8_pivotFor ∈ a_tb := a_in 933 (by decide +kernel) rfl
theorem mnX8_pivotFor : Cond.instanceMethod yX8_pivotFor ∈ a_tb := a_in 935 (by decide +kernel) rfl
theorem mcX8_pivotFor : Cond.code yX8_pivotFor cX8_pivotFor 3 (some FieldType.int) ∈ a_tb := a_in 936 (by decide +kernel) rfl
theorem mlX8_79 : Cond.methodLink RX8 79 yX8_swapBoth ∈ a_tb := a_in 937 (by decide +kernel) rfl
theorem mnX8_swapBoth : Cond.instanceMethod yX8_swapBoth ∈ a_tb := a_in 939 (by decide +kernel) rfl
theorem mcX8_swapBoth : Cond.code yX8_swapBoth cX8_swapBoth 4 none ∈ a_tb := a_in 940 (by decide +kernel) rfl
theorem mlX8_94 : Cond.methodLink RX8 94 yX8_swapCells ∈ a_tb := a_in 941 (by decide +kernel) rfl
theorem mnX8_swapCells : Cond.instanceMethod yX8_swapCells ∈ a_tb := a_in 943 (by decide +kernel) rfl
theorem mcX8_swapCells : Cond.code yX8_swapCells cX8_swapCells 4 none ∈ a_tb := a_in 944 (by decide +kernel) rfl
theorem mkX8_86 : Cond.methodLinkNest RX8 86 yX11_over "SolvedChains" ∈ lw_tbl := List.mem_of_getElem? (i := 945) (by decide +kernel)
theorem mstX11_over : Cond.static yX11_over ∈ a_tb := a_in 946 (by decide +kernel) rfl
theorem mcX11_over : Cond.code yX11_over cX11_over 3 (some FieldType.int) ∈ a_tb := a_in 947 (by decide +kernel) rfl
theorem mlX11_370 : Cond.methodLink RX11 370 yX11_raised ∈ a_tb := a_in 948 (by decide +kernel) rfl
theorem mlX8_90 : Cond.methodLink RX8 90 yX8_takeRowOff ∈ a_tb := a_in 949 (by decide +kernel) rfl
theorem mnX8_takeRowOff : Cond.instanceMethod yX8_takeRowOff ∈ a_tb := a_in 951 (by decide +kernel) rfl
theorem mcX8_takeRowOff : Cond.code yX8_takeRowOff cX8_takeRowOff 5 none ∈ a_tb := a_in 952 (by decide +kernel) rfl
theorem mkX8_97 : Cond.methodLinkNest RX8 97 yX11_left "SolvedChains" ∈ lw_tbl := List.mem_of_getElem? (i := 953) (by decide +kernel)
theorem mlX8_72 : Cond.methodLink RX8 72 yX8_findTerms ∈ a_tb := a_in 954 (by decide +kernel) rfl
theorem mnX8_findTerms : Cond.instanceMethod yX8_findTerms ∈ a_tb := a_in 956 (by decide +kernel) rfl
theorem mcX8_findTerms : Cond.code yX8_findTerms cX8_findTerms 4 none ∈ a_tb := a_in 957 (by decide +kernel) rfl
theorem mkX8_101 : Cond.methodLinkNest RX8 101 yX11_clear "SolvedChains" ∈ lw_tbl := List.mem_of_getElem? (i := 958) (by decide +kernel)
theorem mlX8_105 : Cond.methodLink RX8 105 yX8_takeStepOff ∈ a_tb := a_in 959 (by decide +kernel) rfl
theorem mnX8_takeStepOff : Cond.instanceMethod yX8_takeStepOff ∈ a_tb := a_in 961 (by decide +kernel) rfl
theorem mcX8_takeStepOff : Cond.code yX8_takeStepOff cX8_takeStepOff 5 none ∈ a_tb := a_in 962 (by decide +kernel) rfl
theorem mlX8_108 : Cond.methodLink RX8 108 arraycopyName ∈ a_tb := a_in 963 (by decide +kernel) rfl
theorem acs : Cond.static arraycopyName ∈ a_tb := a_in 964 (by decide +kernel) rfl
theorem acn : Cond.native arraycopyName ∈ a_tb := a_in 965 (by decide +kernel) rfl
theorem mlX11_232 : Cond.methodLink RX11 232 yX8_traceOf ∈ a_tb := a_in 966 (by decide +kernel) rfl
theorem mnX8_traceOf : Cond.instanceMethod yX8_traceOf ∈ a_tb := a_in 967 (by decide +kernel) rfl
theorem mseX8_traceOf : Cond.selects RX8 yX8_traceOf yX8_traceOf ∈ a_tb := a_in 968 (by decide +kernel) rfl
theorem mcX8_traceOf : Cond.code yX8_traceOf cX8_traceOf 5 (some FieldType.int) ∈ a_tb := a_in 969 (by decide +kernel) rfl
theorem mlL_93 : Cond.methodLink RL 93 yX11_poly ∈ a_tb := a_in 970 (by decide +kernel) rfl
theorem mnX11_poly : Cond.instanceMethod yX11_poly ∈ a_tb := a_in 971 (by decide +kernel) rfl
theorem mseX11_poly : Cond.selects RX11 yX11_poly yX11_poly ∈ a_tb := a_in 972 (by decide +kernel) rfl
theorem mcX11_poly : Cond.code yX11_poly cX11_poly 4 (some FieldType.int) ∈ a_tb := a_in 973 (by decide +kernel) rfl
theorem mlL_97 : Cond.methodLink RL 97 yX11_own ∈ a_tb := a_in 974 (by decide +kernel) rfl
theorem mnX11_own : Cond.instanceMethod yX11_own ∈ a_tb := a_in 975 (by decide +kernel) rfl
theorem mseX11_own : Cond.selects RX11 yX11_own yX11_own ∈ a_tb := a_in 976 (by decide +kernel) rfl
theorem mcX11_own : Cond.code yX11_own cX11_own 3 (some FieldType.int) ∈ a_tb := a_in 977 (by decide +kernel) rfl
theorem mlX11_242 : Cond.methodLink RX11 242 yX8_howManyOwn ∈ a_tb := a_in 978 (by decide +kernel) rfl
theorem mnX8_howManyOwn : Cond.instanceMethod yX8_howManyOwn ∈ a_tb := a_in 979 (by decide +kernel) rfl
theorem mseX8_howManyOwn : Cond.selects RX8 yX8_howManyOwn yX8_howManyOwn ∈ a_tb := a_in 980 (by decide +kernel) rfl
theorem mcX8_howManyOwn : Cond.code yX8_howManyOwn cX8_howManyOwn 3 (some FieldType.int) ∈ a_tb := a_in 981 (by decide +kernel) rfl
theorem mlX8_114 : Cond.methodLink RX8 114 yX8_valueAt ∈ a_tb := a_in 982 (by decide +kernel) rfl
theorem mnX8_valueAt : Cond.instanceMethod yX8_valueAt ∈ a_tb := a_in 983 (by decide +kernel) rfl
theorem mseX8_valueAt : Cond.selects RX8 yX8_valueAt yX8_valueAt ∈ a_tb := a_in 984 (by decide +kernel) rfl
theorem mcX8_valueAt : Cond.code yX8_valueAt cX8_valueAt 4 (some FieldType.int) ∈ a_tb := a_in 985 (by decide +kernel) rfl
theorem mlX11_246 : Cond.methodLink RX11 246 yX8_ownAt ∈ a_tb := a_in 986 (by decide +kernel) rfl
theorem mnX8_ownAt : Cond.instanceMethod yX8_ownAt ∈ a_tb := a_in 987 (by decide +kernel) rfl
theorem mseX8_ownAt : Cond.selects RX8 yX8_ownAt yX8_ownAt ∈ a_tb := a_in 988 (by decide +kernel) rfl
theorem mcX8_ownAt : Cond.code yX8_ownAt cX8_ownAt 4 (some FieldType.int) ∈ a_tb := a_in 989 (by decide +kernel) rfl
theorem mlL_101 : Cond.methodLink RL 101 yX11_often ∈ a_tb := a_in 990 (by decide +kernel) rfl
theorem mnX11_often : Cond.instanceMethod yX11_often ∈ a_tb := a_in 991 (by decide +kernel) rfl
theorem mseX11_often : Cond.selects RX11 yX11_often yX11_often ∈ a_tb := a_in 992 (by decide +kernel) rfl
theorem mcX11_often : Cond.code yX11_often cX11_often 3 (some FieldType.int) ∈ a_tb := a_in 993 (by decide +kernel) rfl
theorem mlX11_249 : Cond.methodLink RX11 249 yX8_howOften ∈ a_tb := a_in 994 (by decide +kernel) rfl
theorem mnX8_howOften : Cond.instanceMethod yX8_howOften ∈ a_tb := a_in 995 (by decide +kernel) rfl
theorem mseX8_howOften : Cond.selects RX8 yX8_howOften yX8_howOften ∈ a_tb := a_in 996 (by decide +kernel) rfl
theorem mcX8_howOften : Cond.code yX8_howOften cX8_howOften 3 (some FieldType.int) ∈ a_tb := a_in 997 (by decide +kernel) rfl
theorem mlX8_117 : Cond.methodLink RX8 117 yX8_dividesRest ∈ a_tb := a_in 998 (by decide +kernel) rfl
theorem mnX8_dividesRest : Cond.instanceMethod yX8_dividesRest ∈ a_tb := a_in 1000 (by decide +kernel) rfl
theorem mcX8_dividesRest : Cond.code yX8_dividesRest cX8_dividesRest 4 (some FieldType.boolean) ∈ a_tb := a_in 1001 (by decide +kernel) rfl
theorem mlL_105 : Cond.methodLink RL 105 yX11_root ∈ a_tb := a_in 1002 (by decide +kernel) rfl
theorem mnX11_root : Cond.instanceMethod yX11_root ∈ a_tb := a_in 1003 (by decide +kernel) rfl
theorem mseX11_root : Cond.selects RX11 yX11_root yX11_root ∈ a_tb := a_in 1004 (by decide +kernel) rfl
theorem mcX11_root : Cond.code yX11_root cX11_root 1 (some FieldType.int) ∈ a_tb := a_in 1005 (by decide +kernel) rfl
theorem mlL_109 : Cond.methodLink RL 109 yX11_mean ∈ a_tb := a_in 1006 (by decide +kernel) rfl
theorem mnX11_mean : Cond.instanceMethod yX11_mean ∈ a_tb := a_in 1007 (by decide +kernel) rfl
theorem mseX11_mean : Cond.selects RX11 yX11_mean yX11_mean ∈ a_tb := a_in 1008 (by decide +kernel) rfl
theorem mcX11_mean : Cond.code yX11_mean cX11_mean 6 (some FieldType.int) ∈ a_tb := a_in 1009 (by decide +kernel) rfl
theorem mlX11_255 : Cond.methodLink RX11 255 yX6_states ∈ a_tb := a_in 1010 (by decide +kernel) rfl
theorem mlX11_258 : Cond.methodLink RX11 258 yJ6_bitCount_0f7a4 ∈ a_tb := a_in 1011 (by decide +kernel) rfl
theorem mlX11_263 : Cond.methodLink RX11 263 yX6_alikeAt ∈ a_tb := a_in 1012 (by decide +kernel) rfl
theorem mnX6_alikeAt : Cond.instanceMethod yX6_alikeAt ∈ a_tb := a_in 1013 (by decide +kernel) rfl
theorem mseX6_alikeAt : Cond.selects RX6 yX6_alikeAt yX6_alikeAt ∈ a_tb := a_in 1014 (by decide +kernel) rfl
theorem mcX6_alikeAt : Cond.code yX6_alikeAt cX6_alikeAt 6 (some FieldType.int) ∈ a_tb := a_in 1015 (by decide +kernel) rfl
theorem mlL_113 : Cond.methodLink RL 113 yX11_pair ∈ a_tb := a_in 1016 (by decide +kernel) rfl
theorem mnX11_pair : Cond.instanceMethod yX11_pair ∈ a_tb := a_in 1017 (by decide +kernel) rfl
theorem mseX11_pair : Cond.selects RX11 yX11_pair yX11_pair ∈ a_tb := a_in 1018 (by decide +kernel) rfl
theorem mcX11_pair : Cond.code yX11_pair cX11_pair 5 (some FieldType.int) ∈ a_tb := a_in 1019 (by decide +kernel) rfl
theorem mlX11_266 : Cond.methodLink RX11 266 yX3_howMany ∈ a_tb := a_in 1020 (by decide +kernel) rfl
theorem mnX3_howMany : Cond.instanceMethod yX3_howMany ∈ a_tb := a_in 1021 (by decide +kernel) rfl
theorem mseX3_howMany : Cond.selects RX3 yX3_howMany yX3_howMany ∈ a_tb := a_in 1022 (by decide +kernel) rfl
theorem mcX3_howMany : Cond.code yX3_howMany cX3_howMany 5 (some FieldType.int) ∈ a_tb := a_in 1023 (by decide +kernel) rfl
theorem mlX3_41 : Cond.methodLink RX3 41 yX3_countRows ∈ a_tb := a_in 1024 (by decide +kernel) rfl
theorem mnX3_countRows : Cond.instanceMethod yX3_countRows ∈ a_tb := a_in 1026 (by decide +kernel) rfl
theorem mcX3_countRows : Cond.code yX3_countRows cX3_countRows 4 none ∈ a_tb := a_in 1027 (by decide +kernel) rfl
theorem mlX3_79 : Cond.methodLink RX3 79 yX6_isLike ∈ a_tb := a_in 1028 (by decide +kernel) rfl
theorem mlX3_83 : Cond.methodLink RX3 83 yX6_copyFrom ∈ a_tb := a_in 1029 (by decide +kernel) rfl
theorem mlX3_87 : Cond.methodLink RX3 87 yX3_fillBase ∈ a_tb := a_in 1030 (by decide +kernel) rfl
theorem mnX3_fillBase : Cond.instanceMethod yX3_fillBase ∈ a_tb := a_in 1032 (by decide +kernel) rfl
theorem mcX3_fillBase : Cond.code yX3_fillBase cX3_fillBase 3 none ∈ a_tb := a_in 1033 (by decide +kernel) rfl
theorem mkX3_110 : Cond.methodLinkNest RX3 110 yX11_clear "SolvedChains" ∈ lw_tbl := List.mem_of_getElem? (i := 1034) (by decide +kernel)
theorem mkX3_107 : Cond.methodLinkNest RX3 107 yX11_left "SolvedChains" ∈ lw_tbl := List.mem_of_getElem? (i := 1035) (by decide +kernel)
theorem mlX3_45 : Cond.methodLink RX3 45 yX3_rowsFor ∈ a_tb := a_in 1036 (by decide +kernel) rfl
theorem mnX3_rowsFor : Cond.instanceMethod yX3_rowsFor ∈ a_tb := a_in 1038 (by decide +kernel) rfl
theorem mcX3_rowsFor : Cond.code yX3_rowsFor cX3_rowsFor 2 (some FieldType.int) ∈ a_tb := a_in 1039 (by decide +kernel) rfl
theorem mlX3_74 : Cond.methodLink RX3 74 yJ9_min_7cf53 ∈ a_tb := a_in 1040 (by decide +kernel) rfl
theorem mlX3_90 : Cond.methodLink RX3 90 yX3_countRow ∈ a_tb := a_in 1041 (by decide +kernel) rfl
theorem mnX3_countRow : Cond.instanceMethod yX3_countRow ∈ a_tb := a_in 1043 (by decide +kernel) rfl
theorem mcX3_countRow : Cond.code yX3_countRow cX3_countRow 5 (some FieldType.int) ∈ a_tb := a_in 1044 (by decide +kernel) rfl
theorem mlX3_93 : Cond.methodLink RX3 93 yX3_openRow ∈ a_tb := a_in 1045 (by decide +kernel) rfl
theorem mnX3_openRow : Cond.instanceMethod yX3_openRow ∈ a_tb := a_in 1047 (by decide +kernel) rfl
theorem mcX3_openRow : Cond.code yX3_openRow cX3_openRow 7 none ∈ a_tb := a_in 1048 (by decide +kernel) rfl
theorem mlX3_97 : Cond.methodLink RX3 97 yX3_lastsFor ∈ a_tb := a_in 1049 (by decide +kernel) rfl
theorem mnX3_lastsFor : Cond.instanceMethod yX3_lastsFor ∈ a_tb := a_in 1051 (by decide +kernel) rfl
theorem mcX3_lastsFor : Cond.code yX3_lastsFor cX3_lastsFor 2 (some FieldType.int) ∈ a_tb := a_in 1052 (by decide +kernel) rfl
theorem mlX3_100 : Cond.methodLink RX3 100 yX3_divides ∈ a_tb := a_in 1053 (by decide +kernel) rfl
theorem mnX3_divides : Cond.instanceMethod yX3_divides ∈ a_tb := a_in 1055 (by decide +kernel) rfl
theorem mcX3_divides : Cond.code yX3_divides cX3_divides 10 (some FieldType.boolean) ∈ a_tb := a_in 1056 (by decide +kernel) rfl
theorem mlX3_49 : Cond.methodLink RX3 49 yX3_countAt ∈ a_tb := a_in 1057 (by decide +kernel) rfl
theorem mnX3_countAt : Cond.instanceMethod yX3_countAt ∈ a_tb := a_in 1059 (by decide +kernel) rfl
theorem mcX3_countAt : Cond.code yX3_countAt cX3_countAt 3 (some FieldType.int) ∈ a_tb := a_in 1060 (by decide +kernel) rfl
theorem mlX11_270 : Cond.methodLink RX11 270 yX3_find ∈ a_tb := a_in 1061 (by decide +kernel) rfl
theorem mnX3_find : Cond.instanceMethod yX3_find ∈ a_tb := a_in 1062 (by decide +kernel) rfl
theorem mseX3_find : Cond.selects RX3 yX3_find yX3_find ∈ a_tb := a_in 1063 (by decide +kernel) rfl
theorem mcX3_find : Cond.code yX3_find cX3_find 7 (some FieldType.boolean) ∈ a_tb := a_in 1064 (by decide +kernel) rfl
theorem mlX3_53 : Cond.methodLink RX3 53 yX3_pick ∈ a_tb := a_in 1065 (by decide +kernel) rfl
theorem mnX3_pick : Cond.instanceMethod yX3_pick ∈ a_tb := a_in 1067 (by decide +kernel) rfl
theorem mcX3_pick : Cond.code yX3_pick cX3_pick 6 (some FieldType.boolean) ∈ a_tb := a_in 1068 (by decide +kernel) rfl
theorem mlX3_103 : Cond.methodLink RX3 103 yX3_tell ∈ a_tb := a_in 1069 (by decide +kernel) rfl
theorem mnX3_tell : Cond.instanceMethod yX3_tell ∈ a_tb := a_in 1071 (by decide +kernel) rfl
theorem mcX3_tell : Cond.code yX3_tell cX3_tell 5 none ∈ a_tb := a_in 1072 (by decide +kernel) rfl
theorem mlX11_280 : Cond.methodLink RX11 280 yX3_energy ∈ a_tb := a_in 1073 (by decide +kernel) rfl
theorem mnX3_energy : Cond.instanceMethod yX3_energy ∈ a_tb := a_in 1074 (by decide +kernel) rfl
theorem mseX3_energy : Cond.selects RX3 yX3_energy yX3_energy ∈ a_tb := a_in 1075 (by decide +kernel) rfl
theorem mcX3_energy : Cond.code yX3_energy cX3_energy 2 (some FieldType.int) ∈ a_tb := a_in 1076 (by decide +kernel) rfl
theorem mkX3_64 : Cond.methodLinkNest RX3 64 yX11_over "SolvedChains" ∈ lw_tbl := List.mem_of_getElem? (i := 1077) (by decide +kernel)
theorem mlX11_284 : Cond.methodLink RX11 284 yX3_move ∈ a_tb := a_in 1078 (by decide +kernel) rfl
theorem mnX3_move : Cond.instanceMethod yX3_move ∈ a_tb := a_in 1079 (by decide +kernel) rfl
theorem mseX3_move : Cond.selects RX3 yX3_move yX3_move ∈ a_tb := a_in 1080 (by decide +kernel) rfl
theorem mcX3_move : Cond.code yX3_move cX3_move 2 (some FieldType.int) ∈ a_tb := a_in 1081 (by decide +kernel) rfl
theorem mkX3_71 : Cond.methodLinkNest RX3 71 yX11_raised "SolvedChains" ∈ lw_tbl := List.mem_of_getElem? (i := 1082) (by decide +kernel)
theorem mlX11_287 : Cond.methodLink RX11 287 yX11_isTrue ∈ a_tb := a_in 1083 (by decide +kernel) rfl
theorem mnX11_isTrue : Cond.instanceMethod yX11_isTrue ∈ a_tb := a_in 1085 (by decide +kernel) rfl
theorem mcX11_isTrue : Cond.code yX11_isTrue cX11_isTrue 3 (some FieldType.int) ∈ a_tb := a_in 1086 (by decide +kernel) rfl
theorem mlX11_364 : Cond.methodLink RX11 364 yX6_copyFrom ∈ a_tb := a_in 1087 (by decide +kernel) rfl
theorem mlX11_367 : Cond.methodLink RX11 367 yX8_valueAt ∈ a_tb := a_in 1088 (by decide +kernel) rfl
theorem mlL_117 : Cond.methodLink RL 117 yX11_set ∈ a_tb := a_in 1089 (by decide +kernel) rfl
theorem mnX11_set : Cond.instanceMethod yX11_set ∈ a_tb := a_in 1090 (by decide +kernel) rfl
theorem mseX11_set : Cond.selects RX11 yX11_set yX11_set ∈ a_tb := a_in 1091 (by decide +kernel) rfl
theorem mcX11_set : Cond.code yX11_set cX11_set 2 (some FieldType.boolean) ∈ a_tb := a_in 1092 (by decide +kernel) rfl
theorem mlX11_290 : Cond.methodLink RX11 290 yX2_vector ∈ a_tb := a_in 1093 (by decide +kernel) rfl
theorem mnX2_vector : Cond.instanceMethod yX2_vector ∈ a_tb := a_in 1094 (by decide +kernel) rfl
theorem mseX2_vector : Cond.selects RX2 yX2_vector yX2_vector ∈ a_tb := a_in 1095 (by decide +kernel) rfl
theorem mcX2_vector : Cond.code yX2_vector cX2_vector 1 (some (FieldType.array FieldType.int)) ∈ a_tb := a_in 1096 (by decide +kernel) rfl
theorem mlL_121 : Cond.methodLink RL 121 yX11_act ∈ a_tb := a_in 1097 (by decide +kernel) rfl
theorem mnX11_act : Cond.instanceMethod yX11_act ∈ a_tb := a_in 1098 (by decide +kernel) rfl
theorem mseX11_act : Cond.selects RX11 yX11_act yX11_act ∈ a_tb := a_in 1099 (by decide +kernel) rfl
theorem mcX11_act : Cond.code yX11_act cX11_act 3 (some FieldType.boolean) ∈ a_tb := a_in 1100 (by decide +kernel) rfl
theorem mlX11_294 : Cond.methodLink RX11 294 yX11_enact ∈ a_tb := a_in 1101 (by decide +kernel) rfl
theorem mnX11_enact : Cond.instanceMethod yX11_enact ∈ a_tb := a_in 1103 (by decide +kernel) rfl
theorem mcX11_enact : Cond.code yX11_enact cX11_enact 7 (some FieldType.boolean) ∈ a_tb := a_in 1104 (by decide +kernel) rfl
theorem mlX11_348 : Cond.methodLink RX11 348 yX2_open ∈ a_tb := a_in 1105 (by decide +kernel) rfl
theorem mnX2_open : Cond.instanceMethod yX2_open ∈ a_tb := a_in 1106 (by decide +kernel) rfl
theorem mseX2_open : Cond.selects RX2 yX2_open yX2_open ∈ a_tb := a_in 1107 (by decide +kernel) rfl
theorem mcX2_open : Cond.code yX2_open cX2_open 1 none ∈ a_tb := a_in 1108 (by decide +kernel) rfl
theorem mlX11_351 : Cond.methodLink RX11 351 yX2_earlier ∈ a_tb := a_in 1109 (by decide +kernel) rfl
theorem mnX2_earlier : Cond.instanceMethod yX2_earlier ∈ a_tb := a_in 1110 (by decide +kernel) rfl
theorem mseX2_earlier : Cond.selects RX2 yX2_earlier yX2_earlier ∈ a_tb := a_in 1111 (by decide +kernel) rfl
theorem mcX2_earlier : Cond.code yX2_earlier cX2_earlier 1 (some (FieldType.array FieldType.int)) ∈ a_tb := a_in 1112 (by decide +kernel) rfl
theorem mlX11_354 : Cond.methodLink RX11 354 yX6_shiftOver ∈ a_tb := a_in 1113 (by decide +kernel) rfl
theorem mnX6_shiftOver : Cond.instanceMethod yX6_shiftOver ∈ a_tb := a_in 1114 (by decide +kernel) rfl
theorem mseX6_shiftOver : Cond.selects RX6 yX6_shiftOver yX6_shiftOver ∈ a_tb := a_in 1115 (by decide +kernel) rfl
theorem mcX6_shiftOver : Cond.code yX6_shiftOver cX6_shiftOver 4 none ∈ a_tb := a_in 1116 (by decide +kernel) rfl
theorem mlX6_55 : Cond.methodLink RX6 55 yX6_shifted ∈ a_tb := a_in 1117 (by decide +kernel) rfl
theorem mlX11_357 : Cond.methodLink RX11 357 yX6_turnOver ∈ a_tb := a_in 1118 (by decide +kernel) rfl
theorem mnX6_turnOver : Cond.instanceMethod yX6_turnOver ∈ a_tb := a_in 1119 (by decide +kernel) rfl
theorem mseX6_turnOver : Cond.selects RX6 yX6_turnOver yX6_turnOver ∈ a_tb := a_in 1120 (by decide +kernel) rfl
theorem mcX6_turnOver : Cond.code yX6_turnOver cX6_turnOver 5 none ∈ a_tb := a_in 1121 (by decide +kernel) rfl
theorem mlX11_317 : Cond.methodLink RX11 317 yX6_sumOver ∈ a_tb := a_in 1122 (by decide +kernel) rfl
theorem mnX6_sumOver : Cond.instanceMethod yX6_sumOver ∈ a_tb := a_in 1123 (by decide +kernel) rfl
theorem mseX6_sumOver : Cond.selects RX6 yX6_sumOver yX6_sumOver ∈ a_tb := a_in 1124 (by decide +kernel) rfl
theorem mcX6_sumOver : Cond.code yX6_sumOver cX6_sumOver 4 none ∈ a_tb := a_in 1125 (by decide +kernel) rfl
theorem mkX6_47 : Cond.methodLinkNest RX6 47 yX11_clear "SolvedChains" ∈ lw_tbl := List.mem_of_getElem? (i := 1126) (by decide +kernel)
theorem mlX6_51 : Cond.methodLink RX6 51 yX6_addSumOf ∈ a_tb := a_in 1127 (by decide +kernel) rfl
theorem mnX6_addSumOf : Cond.instanceMethod yX6_addSumOf ∈ a_tb := a_in 1129 (by decide +kernel) rfl
theorem mcX6_addSumOf : Cond.code yX6_addSumOf cX6_addSumOf 6 none ∈ a_tb := a_in 1130 (by decide +kernel) rfl
theorem mlX11_361 : Cond.methodLink RX11 361 yX1_tableOver ∈ a_tb := a_in 1131 (by decide +kernel) rfl
theorem mnX1_tableOver : Cond.instanceMethod yX1_tableOver ∈ a_tb := a_in 1132 (by decide +kernel) rfl
theorem mseX1_tableOver : Cond.selects RX1 yX1_tableOver yX1_tableOver ∈ a_tb := a_in 1133 (by decide +kernel) rfl
theorem mcX1_tableOver : Cond.code yX1_tableOver cX1_tableOver 7 none ∈ a_tb := a_in 1134 (by decide +kernel) rfl
theorem mkX1_89 : Cond.methodLinkNest RX1 89 yX11_clear "SolvedChains" ∈ lw_tbl := List.mem_of_getElem? (i := 1135) (by decide +kernel)
theorem mlX1_93 : Cond.methodLink RX1 93 yX6_states ∈ a_tb := a_in 1136 (by decide +kernel) rfl
theorem mlX1_97 : Cond.methodLink RX1 97 arraycopyName ∈ a_tb := a_in 1137 (by decide +kernel) rfl
theorem mlX1_103 : Cond.methodLink RX1 103 yX1_passLetter ∈ a_tb := a_in 1138 (by decide +kernel) rfl
theorem mnX1_passLetter : Cond.instanceMethod yX1_passLetter ∈ a_tb := a_in 1140 (by decide +kernel) rfl
theorem mcX1_passLetter : Cond.code yX1_passLetter cX1_passLetter 11 none ∈ a_tb := a_in 1141 (by decide +kernel) rfl
theorem mlL_125 : Cond.methodLink RL 125 yX11_played ∈ a_tb := a_in 1142 (by decide +kernel) rfl
theorem mnX11_played : Cond.instanceMethod yX11_played ∈ a_tb := a_in 1143 (by decide +kernel) rfl
theorem mseX11_played : Cond.selects RX11 yX11_played yX11_played ∈ a_tb := a_in 1144 (by decide +kernel) rfl
theorem mcX11_played : Cond.code yX11_played cX11_played 5 (some FieldType.int) ∈ a_tb := a_in 1145 (by decide +kernel) rfl
theorem mlX11_300 : Cond.methodLink RX11 300 yX7_kindOf ∈ a_tb := a_in 1146 (by decide +kernel) rfl
theorem mnX7_kindOf : Cond.instanceMethod yX7_kindOf ∈ a_tb := a_in 1147 (by decide +kernel) rfl
theorem mseX7_kindOf : Cond.selects RX7 yX7_kindOf yX7_kindOf ∈ a_tb := a_in 1148 (by decide +kernel) rfl
theorem mcX7_kindOf : Cond.code yX7_kindOf cX7_kindOf 2 (some FieldType.int) ∈ a_tb := a_in 1149 (by decide +kernel) rfl
theorem mlX11_303 : Cond.methodLink RX11 303 yX7_argument ∈ a_tb := a_in 1150 (by decide +kernel) rfl
theorem mnX7_argument : Cond.instanceMethod yX7_argument ∈ a_tb := a_in 1151 (by decide +kernel) rfl
theorem mseX7_argument : Cond.selects RX7 yX7_argument yX7_argument ∈ a_tb := a_in 1152 (by decide +kernel) rfl
theorem mcX7_argument : Cond.code yX7_argument cX7_argument 4 (some FieldType.int) ∈ a_tb := a_in 1153 (by decide +kernel) rfl
theorem mlX7_36 : Cond.methodLink RX7 36 yX7_kindOf ∈ a_tb := a_in 1154 (by decide +kernel) rfl
theorem mlL_129 : Cond.methodLink RL 129 yX11_undo ∈ a_tb := a_in 1155 (by decide +kernel) rfl
theorem mnX11_undo : Cond.instanceMethod yX11_undo ∈ a_tb := a_in 1156 (by decide +kernel) rfl
theorem mseX11_undo : Cond.selects RX11 yX11_undo yX11_undo ∈ a_tb := a_in 1157 (by decide +kernel) rfl
theorem mcX11_undo : Cond.code yX11_undo cX11_undo 2 (some FieldType.int) ∈ a_tb := a_in 1158 (by decide +kernel) rfl
theorem mlL_133 : Cond.methodLink RL 133 yX11_redo ∈ a_tb := a_in 1159 (by decide +kernel) rfl
theorem mnX11_redo : Cond.instanceMethod yX11_redo ∈ a_tb := a_in 1160 (by decide +kernel) rfl
theorem mseX11_redo : Cond.selects RX11 yX11_redo yX11_redo ∈ a_tb := a_in 1161 (by decide +kernel) rfl
theorem mcX11_redo : Cond.code yX11_redo cX11_redo 2 (some FieldType.int) ∈ a_tb := a_in 1162 (by decide +kernel) rfl
theorem mlL_137 : Cond.methodLink RL 137 yX11_at ∈ a_tb := a_in 1163 (by decide +kernel) rfl
theorem mnX11_at : Cond.instanceMethod yX11_at ∈ a_tb := a_in 1164 (by decide +kernel) rfl
theorem mseX11_at : Cond.selects RX11 yX11_at yX11_at ∈ a_tb := a_in 1165 (by decide +kernel) rfl
theorem mcX11_at : Cond.code yX11_at cX11_at 2 (some FieldType.int) ∈ a_tb := a_in 1166 (by decide +kernel) rfl
theorem mlL_141 : Cond.methodLink RL 141 yX11_norm ∈ a_tb := a_in 1167 (by decide +kernel) rfl
theorem mnX11_norm : Cond.instanceMethod yX11_norm ∈ a_tb := a_in 1168 (by decide +kernel) rfl
theorem mseX11_norm : Cond.selects RX11 yX11_norm yX11_norm ∈ a_tb := a_in 1169 (by decide +kernel) rfl
theorem mcX11_norm : Cond.code yX11_norm cX11_norm 4 (some FieldType.int) ∈ a_tb := a_in 1170 (by decide +kernel) rfl
theorem mlL_145 : Cond.methodLink RL 145 yX11_power ∈ a_tb := a_in 1171 (by decide +kernel) rfl
theorem mnX11_power : Cond.instanceMethod yX11_power ∈ a_tb := a_in 1172 (by decide +kernel) rfl
theorem mseX11_power : Cond.selects RX11 yX11_power yX11_power ∈ a_tb := a_in 1173 (by decide +kernel) rfl
theorem mcX11_power : Cond.code yX11_power cX11_power 6 (some FieldType.int) ∈ a_tb := a_in 1174 (by decide +kernel) rfl
theorem mlX11_313 : Cond.methodLink RX11 313 yX11_clear ∈ a_tb := a_in 1175 (by decide +kernel) rfl
theorem mlX11_321 : Cond.methodLink RX11 321 arraycopyName ∈ a_tb := a_in 1176 (by decide +kernel) rfl
theorem mlL_149 : Cond.methodLink RL 149 yX11_image ∈ a_tb := a_in 1177 (by decide +kernel) rfl
theorem mnX11_image : Cond.instanceMethod yX11_image ∈ a_tb := a_in 1178 (by decide +kernel) rfl
theorem mseX11_image : Cond.selects RX11 yX11_image yX11_image ∈ a_tb := a_in 1179 (by decide +kernel) rfl
theorem mcX11_image : Cond.code yX11_image cX11_image 1 (some FieldType.int) ∈ a_tb := a_in 1180 (by decide +kernel) rfl
theorem mlX11_327 : Cond.methodLink RX11 327 yX9_copyFrom ∈ a_tb := a_in 1181 (by decide +kernel) rfl
theorem mnX9_copyFrom : Cond.instanceMethod yX9_copyFrom ∈ a_tb := a_in 1182 (by decide +kernel) rfl
theorem mseX9_copyFrom : Cond.selects RX9 yX9_copyFrom yX9_copyFrom ∈ a_tb := a_in 1183 (by decide +kernel) rfl
theorem mcX9_copyFrom : Cond.code yX9_copyFrom cX9_copyFrom 2 none ∈ a_tb := a_in 1184 (by decide +kernel) rfl
theorem mlX9_35 : Cond.methodLink RX9 35 yX6_copyFrom ∈ a_tb := a_in 1185 (by decide +kernel) rfl
theorem mlX9_39 : Cond.methodLink RX9 39 yX2_copyFrom ∈ a_tb := a_in 1186 (by decide +kernel) rfl
theorem mnX2_copyFrom : Cond.instanceMethod yX2_copyFrom ∈ a_tb := a_in 1187 (by decide +kernel) rfl
theorem mseX2_copyFrom : Cond.selects RX2 yX2_copyFrom yX2_copyFrom ∈ a_tb := a_in 1188 (by decide +kernel) rfl
theorem mcX2_copyFrom : Cond.code yX2_copyFrom cX2_copyFrom 3 none ∈ a_tb := a_in 1189 (by decide +kernel) rfl
theorem mlX2_43 : Cond.methodLink RX2 43 arraycopyName ∈ a_tb := a_in 1190 (by decide +kernel) rfl
theorem mlL_153 : Cond.methodLink RL 153 yX11_back ∈ a_tb := a_in 1191 (by decide +kernel) rfl
theorem mnX11_back : Cond.instanceMethod yX11_back ∈ a_tb := a_in 1192 (by decide +kernel) rfl
theorem mseX11_back : Cond.selects RX11 yX11_back yX11_back ∈ a_tb := a_in 1193 (by decide +kernel) rfl
theorem mcX11_back : Cond.code yX11_back cX11_back 1 (some FieldType.int) ∈ a_tb := a_in 1194 (by decide +kernel) rfl
theorem mlL_157 : Cond.methodLink RL 157 yX11_about ∈ a_tb := a_in 1195 (by decide +kernel) rfl
theorem mnX11_about : Cond.instanceMethod yX11_about ∈ a_tb := a_in 1196 (by decide +kernel) rfl
theorem mseX11_about : Cond.selects RX11 yX11_about yX11_about ∈ a_tb := a_in 1197 (by decide +kernel) rfl
theorem mcX11_about : Cond.code yX11_about cX11_about 2 (some FieldType.int) ∈ a_tb := a_in 1198 (by decide +kernel) rfl
theorem mlL_9 : Cond.methodLink RL 9 yL_cell ∈ a_tb := a_in 1199 (by decide +kernel) rfl
theorem mstL_cell : Cond.static yL_cell ∈ a_tb := a_in 1200 (by decide +kernel) rfl
theorem mcL_cell : Cond.code yL_cell cL_cell 2 (some FieldType.int) ∈ a_tb := a_in 1201 (by decide +kernel) rfl
theorem mlL_20 : Cond.methodLink RL 20 yX12_init ∈ a_tb := a_in 1204 (by decide +kernel) rfl
theorem mnX12_init : Cond.instanceMethod yX12_init ∈ a_tb := a_in 1205 (by decide +kernel) rfl
theorem mcX12_init : Cond.code yX12_init cX12_init 2 none ∈ a_tb := a_in 1206 (by decide +kernel) rfl
theorem mlX12_120 : Cond.methodLink RX12 120 yX12_copies ∈ a_tb := a_in 1208 (by decide +kernel) rfl
theorem mnX12_copies : Cond.instanceMethod yX12_copies ∈ a_tb := a_in 1210 (by decide +kernel) rfl
theorem mcX12_copies : Cond.code yX12_copies cX12_copies 3 none ∈ a_tb := a_in 1211 (by decide +kernel) rfl
theorem fkX12_7 : a_FL RX12 7 12 0 56 := ⟨RX12, TX12, ckX12, by decide, a_in 1212 (by decide +kernel) rfl⟩
theorem fkX12_13 : a_FL RX12 13 12 1 56 := ⟨RX12, TX12, ckX12, by decide, a_in 1213 (by decide +kernel) rfl⟩
theorem fkX12_16 : a_FL RX12 16 12 2 56 := ⟨RX12, TX12, ckX12, by decide, a_in 1214 (by decide +kernel) rfl⟩
theorem fkX12_139 : a_FL RX12 139 12 3 56 := ⟨RX12, TX12, ckX12, by decide, a_in 1215 (by decide +kernel) rfl⟩
theorem fkX12_20 : a_FL RX12 20 12 4 56 := ⟨RX12, TX12, ckX12, by decide, a_in 1216 (by decide +kernel) rfl⟩
theorem fkX12_24 : a_FL RX12 24 12 5 56 := ⟨RX12, TX12, ckX12, by decide, a_in 1217 (by decide +kernel) rfl⟩
theorem fkX12_27 : a_FL RX12 27 12 6 56 := ⟨RX12, TX12, ckX12, by decide, a_in 1218 (by decide +kernel) rfl⟩
theorem fkX12_30 : a_FL RX12 30 12 7 56 := ⟨RX12, TX12, ckX12, by decide, a_in 1219 (by decide +kernel) rfl⟩
theorem fkX12_33 : a_FL RX12 33 12 8 56 := ⟨RX12, TX12, ckX12, by decide, a_in 1220 (by decide +kernel) rfl⟩
theorem fkX12_36 : a_FL RX12 36 12 9 56 := ⟨RX12, TX12, ckX12, by decide, a_in 1221 (by decide +kernel) rfl⟩
theorem fkX12_39 : a_FL RX12 39 12 10 56 := ⟨RX12, TX12, ckX12, by decide, a_in 1222 (by decide +kernel) rfl⟩
theorem fkX12_42 : a_FL RX12 42 12 11 56 := ⟨RX12, TX12, ckX12, by decide, a_in 1223 (by decide +kernel) rfl⟩
theorem fkX12_169 : a_FL RX12 169 12 12 56 := ⟨RX12, TX12, ckX12, by decide, a_in 1224 (by decide +kernel) rfl⟩
theorem fkX12_166 : a_FL RX12 166 12 13 56 := ⟨RX12, TX12, ckX12, by decide, a_in 1225 (by decide +kernel) rfl⟩
theorem fkX12_172 : a_FL RX12 172 12 14 56 := ⟨RX12, TX12, ckX12, by decide, a_in 1226 (by decide +kernel) rfl⟩
theorem fkX12_175 : a_FL RX12 175 12 15 56 := ⟨RX12, TX12, ckX12, by decide, a_in 1227 (by decide +kernel) rfl⟩
theorem fkX12_187 : a_FL RX12 187 12 16 56 := ⟨RX12, TX12, ckX12, by decide, a_in 1228 (by decide +kernel) rfl⟩
theorem fkX12_191 : a_FL RX12 191 12 17 56 := ⟨RX12, TX12, ckX12, by decide, a_in 1229 (by decide +kernel) rfl⟩
theorem fkX12_194 : a_FL RX12 194 12 18 56 := ⟨RX12, TX12, ckX12, by decide, a_in 1230 (by decide +kernel) rfl⟩
theorem fkX12_203 : a_FL RX12 203 12 19 56 := ⟨RX12, TX12, ckX12, by decide, a_in 1231 (by decide +kernel) rfl⟩
theorem fkX12_200 : a_FL RX12 200 12 20 56 := ⟨RX12, TX12, ckX12, by decide, a_in 1232 (by decide +kernel) rfl⟩
theorem fkX12_45 : a_FL RX12 45 12 21 56 := ⟨RX12, TX12, ckX12, by decide, a_in 1233 (by decide +kernel) rfl⟩
theorem fkX12_214 : a_FL RX12 214 12 22 56 := ⟨RX12, TX12, ckX12, by decide, a_in 1234 (by decide +kernel) rfl⟩
theorem fkX12_48 : a_FL RX12 48 12 23 56 := ⟨RX12, TX12, ckX12, by decide, a_in 1235 (by decide +kernel) rfl⟩
theorem fkX12_51 : a_FL RX12 51 12 24 56 := ⟨RX12, TX12, ckX12, by decide, a_in 1236 (by decide +kernel) rfl⟩
theorem fkX12_243 : a_FL RX12 243 12 25 56 := ⟨RX12, TX12, ckX12, by decide, a_in 1237 (by decide +kernel) rfl⟩
theorem fkX12_252 : a_FL RX12 252 12 26 56 := ⟨RX12, TX12, ckX12, by decide, a_in 1238 (by decide +kernel) rfl⟩
theorem fkX12_231 : a_FL RX12 231 12 27 56 := ⟨RX12, TX12, ckX12, by decide, a_in 1239 (by decide +kernel) rfl⟩
theorem fkX12_54 : a_FL RX12 54 12 28 56 := ⟨RX12, TX12, ckX12, by decide, a_in 1240 (by decide +kernel) rfl⟩
theorem fkX12_57 : a_FL RX12 57 12 29 56 := ⟨RX12, TX12, ckX12, by decide, a_in 1241 (by decide +kernel) rfl⟩
theorem fkX12_60 : a_FL RX12 60 12 30 56 := ⟨RX12, TX12, ckX12, by decide, a_in 1242 (by decide +kernel) rfl⟩
theorem fkX12_197 : a_FL RX12 197 12 31 56 := ⟨RX12, TX12, ckX12, by decide, a_in 1243 (by decide +kernel) rfl⟩
theorem fkX12_63 : a_FL RX12 63 12 32 56 := ⟨RX12, TX12, ckX12, by decide, a_in 1244 (by decide +kernel) rfl⟩
theorem fkX12_66 : a_FL RX12 66 12 33 56 := ⟨RX12, TX12, ckX12, by decide, a_in 1245 (by decide +kernel) rfl⟩
theorem fkX12_69 : a_FL RX12 69 12 34 56 := ⟨RX12, TX12, ckX12, by decide, a_in 1246 (by decide +kernel) rfl⟩
theorem fkX12_284 : a_FL RX12 284 12 35 56 := ⟨RX12, TX12, ckX12, by decide, a_in 1247 (by decide +kernel) rfl⟩
theorem fkX12_287 : a_FL RX12 287 12 36 56 := ⟨RX12, TX12, ckX12, by decide, a_in 1248 (by decide +kernel) rfl⟩
theorem fkX12_290 : a_FL RX12 290 12 37 56 := ⟨RX12, TX12, ckX12, by decide, a_in 1249 (by decide +kernel) rfl⟩
theorem fkX12_72 : a_FL RX12 72 12 38 56 := ⟨RX12, TX12, ckX12, by decide, a_in 1250 (by decide +kernel) rfl⟩
theorem fkX12_75 : a_FL RX12 75 12 39 56 := ⟨RX12, TX12, ckX12, by decide, a_in 1251 (by decide +kernel) rfl⟩
theorem fkX12_78 : a_FL RX12 78 12 40 56 := ⟨RX12, TX12, ckX12, by decide, a_in 1252 (by decide +kernel) rfl⟩
theorem fkX12_81 : a_FL RX12 81 12 41 56 := ⟨RX12, TX12, ckX12, by decide, a_in 1253 (by decide +kernel) rfl⟩
theorem fkX12_84 : a_FL RX12 84 12 42 56 := ⟨RX12, TX12, ckX12, by decide, a_in 1254 (by decide +kernel) rfl⟩
theorem fkX12_87 : a_FL RX12 87 12 43 56 := ⟨RX12, TX12, ckX12, by decide, a_in 1255 (by decide +kernel) rfl⟩
theorem fkX12_333 : a_FL RX12 333 12 44 56 := ⟨RX12, TX12, ckX12, by decide, a_in 1256 (by decide +kernel) rfl⟩
theorem fkX12_90 : a_FL RX12 90 12 45 56 := ⟨RX12, TX12, ckX12, by decide, a_in 1257 (by decide +kernel) rfl⟩
theorem fkX12_93 : a_FL RX12 93 12 46 56 := ⟨RX12, TX12, ckX12, by decide, a_in 1258 (by decide +kernel) rfl⟩
theorem fkX12_96 : a_FL RX12 96 12 47 56 := ⟨RX12, TX12, ckX12, by decide, a_in 1259 (by decide +kernel) rfl⟩
theorem fkX12_99 : a_FL RX12 99 12 48 56 := ⟨RX12, TX12, ckX12, by decide, a_in 1260 (by decide +kernel) rfl⟩
theorem fkX12_102 : a_FL RX12 102 12 49 56 := ⟨RX12, TX12, ckX12, by decide, a_in 1261 (by decide +kernel) rfl⟩
theorem fkX12_105 : a_FL RX12 105 12 50 56 := ⟨RX12, TX12, ckX12, by decide, a_in 1262 (by decide +kernel) rfl⟩
theorem fkX12_108 : a_FL RX12 108 12 51 56 := ⟨RX12, TX12, ckX12, by decide, a_in 1263 (by decide +kernel) rfl⟩
theorem fkX12_111 : a_FL RX12 111 12 52 56 := ⟨RX12, TX12, ckX12, by decide, a_in 1264 (by decide +kernel) rfl⟩
theorem fkX12_114 : a_FL RX12 114 12 53 56 := ⟨RX12, TX12, ckX12, by decide, a_in 1265 (by decide +kernel) rfl⟩
theorem fkX12_117 : a_FL RX12 117 12 54 56 := ⟨RX12, TX12, ckX12, by decide, a_in 1266 (by decide +kernel) rfl⟩
theorem fkX12_402 : a_FL RX12 402 12 55 56 := ⟨RX12, TX12, ckX12, by decide, a_in 1267 (by decide +kernel) rfl⟩
theorem mlL_25 : Cond.methodLink RL 25 yX12_chain ∈ a_tb := a_in 1381 (by decide +kernel) rfl
theorem mnX12_chain : Cond.instanceMethod yX12_chain ∈ a_tb := a_in 1382 (by decide +kernel) rfl
theorem mseX12_chain : Cond.selects RX12 yX12_chain yX12_chain ∈ a_tb := a_in 1383 (by decide +kernel) rfl
theorem mcX12_chain : Cond.code yX12_chain cX12_chain 4 (some FieldType.boolean) ∈ a_tb := a_in 1384 (by decide +kernel) rfl
theorem mlX12_124 : Cond.methodLink RX12 124 yX12_in ∈ a_tb := a_in 1385 (by decide +kernel) rfl
theorem mstX12_in : Cond.static yX12_in ∈ a_tb := a_in 1386 (by decide +kernel) rfl
theorem mcX12_in : Cond.code yX12_in cX12_in 3 (some FieldType.boolean) ∈ a_tb := a_in 1387 (by decide +kernel) rfl
theorem mlX12_132 : Cond.methodLink RX12 132 yX12_forgets ∈ a_tb := a_in 1388 (by decide +kernel) rfl
theorem mnX12_forgets : Cond.instanceMethod yX12_forgets ∈ a_tb := a_in 1390 (by decide +kernel) rfl
theorem mcX12_forgets : Cond.code yX12_forgets cX12_forgets 1 none ∈ a_tb := a_in 1391 (by decide +kernel) rfl
theorem mlL_30 : Cond.methodLink RL 30 yX12_prime ∈ a_tb := a_in 1392 (by decide +kernel) rfl
theorem mnX12_prime : Cond.instanceMethod yX12_prime ∈ a_tb := a_in 1393 (by decide +kernel) rfl
theorem mseX12_prime : Cond.selects RX12 yX12_prime yX12_prime ∈ a_tb := a_in 1394 (by decide +kernel) rfl
theorem mcX12_prime : Cond.code yX12_prime cX12_prime 4 (some FieldType.boolean) ∈ a_tb := a_in 1395 (by decide +kernel) rfl
theorem mlL_35 : Cond.methodLink RL 35 yX12_numbers ∈ a_tb := a_in 1396 (by decide +kernel) rfl
theorem mnX12_numbers : Cond.instanceMethod yX12_numbers ∈ a_tb := a_in 1397 (by decide +kernel) rfl
theorem mseX12_numbers : Cond.selects RX12 yX12_numbers yX12_numbers ∈ a_tb := a_in 1398 (by decide +kernel) rfl
theorem mcX12_numbers : Cond.code yX12_numbers cX12_numbers 3 (some FieldType.boolean) ∈ a_tb := a_in 1399 (by decide +kernel) rfl
theorem mlX12_135 : Cond.methodLink RX12 135 yX12_isNumber ∈ a_tb := a_in 1400 (by decide +kernel) rfl
theorem mnX12_isNumber : Cond.instanceMethod yX12_isNumber ∈ a_tb := a_in 1402 (by decide +kernel) rfl
theorem mcX12_isNumber : Cond.code yX12_isNumber cX12_isNumber 2 (some FieldType.boolean) ∈ a_tb := a_in 1403 (by decide +kernel) rfl
theorem mlL_40 : Cond.methodLink RL 40 yX12_feed ∈ a_tb := a_in 1404 (by decide +kernel) rfl
theorem mnX12_feed : Cond.instanceMethod yX12_feed ∈ a_tb := a_in 1405 (by decide +kernel) rfl
theorem mseX12_feed : Cond.selects RX12 yX12_feed yX12_feed ∈ a_tb := a_in 1406 (by decide +kernel) rfl
theorem mcX12_feed : Cond.code yX12_feed cX12_feed 6 (some FieldType.int) ∈ a_tb := a_in 1407 (by decide +kernel) rfl
theorem mlX12_142 : Cond.methodLink RX12 142 yX12_put ∈ a_tb := a_in 1408 (by decide +kernel) rfl
theorem mnX12_put : Cond.instanceMethod yX12_put ∈ a_tb := a_in 1410 (by decide +kernel) rfl
theorem mcX12_put : Cond.code yX12_put cX12_put 3 none ∈ a_tb := a_in 1411 (by decide +kernel) rfl
theorem mlL_45 : Cond.methodLink RL 45 yX12_end ∈ a_tb := a_in 1412 (by decide +kernel) rfl
theorem mnX12_end : Cond.instanceMethod yX12_end ∈ a_tb := a_in 1413 (by decide +kernel) rfl
theorem mseX12_end : Cond.selects RX12 yX12_end yX12_end ∈ a_tb := a_in 1414 (by decide +kernel) rfl
theorem mcX12_end : Cond.code yX12_end cX12_end 2 (some FieldType.int) ∈ a_tb := a_in 1415 (by decide +kernel) rfl
theorem mlL_50 : Cond.methodLink RL 50 yX12_text ∈ a_tb := a_in 1416 (by decide +kernel) rfl
theorem mnX12_text : Cond.instanceMethod yX12_text ∈ a_tb := a_in 1417 (by decide +kernel) rfl
theorem mseX12_text : Cond.selects RX12 yX12_text yX12_text ∈ a_tb := a_in 1418 (by decide +kernel) rfl
theorem mcX12_text : Cond.code yX12_text cX12_text 3 (some FieldType.int) ∈ a_tb := a_in 1419 (by decide +kernel) rfl
theorem mlX12_212 : Cond.methodLink RX12 212 yX12_next ∈ a_tb := a_in 1420 (by decide +kernel) rfl
theorem mnX12_next : Cond.instanceMethod yX12_next ∈ a_tb := a_in 1422 (by decide +kernel) rfl
theorem mcX12_next : Cond.code yX12_next cX12_next 5 none ∈ a_tb := a_in 1423 (by decide +kernel) rfl
theorem mlX12_178 : Cond.methodLink RX12 178 yX12_isLetter ∈ a_tb := a_in 1424 (by decide +kernel) rfl
theorem mstX12_isLetter : Cond.static yX12_isLetter ∈ a_tb := a_in 1425 (by decide +kernel) rfl
theorem mcX12_isLetter : Cond.code yX12_isLetter cX12_isLetter 1 (some FieldType.boolean) ∈ a_tb := a_in 1426 (by decide +kernel) rfl
theorem klX12_181 : Cond.constantLong RX12 181 64 ∈ a_tb := a_in 1427 (by decide +kernel) rfl
theorem mlX12_183 : Cond.methodLink RX12 183 yX12_wordOf ∈ a_tb := a_in 1428 (by decide +kernel) rfl
theorem mstX12_wordOf : Cond.static yX12_wordOf ∈ a_tb := a_in 1429 (by decide +kernel) rfl
theorem mcX12_wordOf : Cond.code yX12_wordOf cX12_wordOf 2 (some FieldType.int) ∈ a_tb := a_in 1430 (by decide +kernel) rfl
theorem klX12_146 : Cond.constantLong RX12 146 33 ∈ a_tb := a_in 1431 (by decide +kernel) rfl
theorem klX12_148 : Cond.constantLong RX12 148 34 ∈ a_tb := a_in 1432 (by decide +kernel) rfl
theorem klX12_150 : Cond.constantLong RX12 150 35 ∈ a_tb := a_in 1433 (by decide +kernel) rfl
theorem klX12_152 : Cond.constantLong RX12 152 866294196 ∈ a_tb := a_in 1434 (by decide +kernel) rfl
theorem klX12_154 : Cond.constantLong RX12 154 10144368 ∈ a_tb := a_in 1435 (by decide +kernel) rfl
theorem klX12_156 : Cond.constantLong RX12 156 212333 ∈ a_tb := a_in 1436 (by decide +kernel) rfl
theorem klX12_158 : Cond.constantLong RX12 158 881208101 ∈ a_tb := a_in 1437 (by decide +kernel) rfl
theorem klX12_160 : Cond.constantLong RX12 160 53 ∈ a_tb := a_in 1438 (by decide +kernel) rfl
theorem klX12_162 : Cond.constantLong RX12 162 154913 ∈ a_tb := a_in 1439 (by decide +kernel) rfl
theorem klX12_164 : Cond.constantLong RX12 164 36 ∈ a_tb := a_in 1440 (by decide +kernel) rfl
theorem kiX12_190 : Cond.constant RX12 190 99999 ∈ a_tb := a_in 1441 (by decide +kernel) rfl
theorem mlX12_262 : Cond.methodLink RX12 262 yX12_begins ∈ a_tb := a_in 1442 (by decide +kernel) rfl
theorem mnX12_begins : Cond.instanceMethod yX12_begins ∈ a_tb := a_in 1444 (by decide +kernel) rfl
theorem mcX12_begins : Cond.code yX12_begins cX12_begins 2 none ∈ a_tb := a_in 1445 (by decide +kernel) rfl
theorem mlX12_206 : Cond.methodLink RX12 206 yX12_errs ∈ a_tb := a_in 1446 (by decide +kernel) rfl
theorem mnX12_errs : Cond.instanceMethod yX12_errs ∈ a_tb := a_in 1448 (by decide +kernel) rfl
theorem mcX12_errs : Cond.code yX12_errs cX12_errs 2 none ∈ a_tb := a_in 1449 (by decide +kernel) rfl
theorem mlX12_221 : Cond.methodLink RX12 221 yX12_emits ∈ a_tb := a_in 1450 (by decide +kernel) rfl
theorem mnX12_emits : Cond.instanceMethod yX12_emits ∈ a_tb := a_in 1452 (by decide +kernel) rfl
theorem mcX12_emits : Cond.code yX12_emits cX12_emits 3 none ∈ a_tb := a_in 1453 (by decide +kernel) rfl
theorem mlX12_228 : Cond.methodLink RX12 228 yX12_oneIsOver ∈ a_tb := a_in 1454 (by decide +kernel) rfl
theorem mnX12_oneIsOver : Cond.instanceMethod yX12_oneIsOver ∈ a_tb := a_in 1456 (by decide +kernel) rfl
theorem mcX12_oneIsOver : Cond.code yX12_oneIsOver cX12_oneIsOver 1 none ∈ a_tb := a_in 1457 (by decide +kernel) rfl
theorem mlX12_240 : Cond.methodLink RX12 240 yX12_top ∈ a_tb := a_in 1458 (by decide +kernel) rfl
theorem mnX12_top : Cond.instanceMethod yX12_top ∈ a_tb := a_in 1460 (by decide +kernel) rfl
theorem mcX12_top : Cond.code yX12_top cX12_top 1 (some FieldType.int) ∈ a_tb := a_in 1461 (by decide +kernel) rfl
theorem mlX12_234 : Cond.methodLink RX12 234 yX12_isSign ∈ a_tb := a_in 1462 (by decide +kernel) rfl
theorem mnX12_isSign : Cond.instanceMethod yX12_isSign ∈ a_tb := a_in 1464 (by decide +kernel) rfl
theorem mcX12_isSign : Cond.code yX12_isSign cX12_isSign 2 (some FieldType.boolean) ∈ a_tb := a_in 1465 (by decide +kernel) rfl
theorem mlX12_237 : Cond.methodLink RX12 237 yX12_opensSign ∈ a_tb := a_in 1466 (by decide +kernel) rfl
theorem mnX12_opensSign : Cond.instanceMethod yX12_opensSign ∈ a_tb := a_in 1468 (by decide +kernel) rfl
theorem mcX12_opensSign : Cond.code yX12_opensSign cX12_opensSign 2 (some FieldType.boolean) ∈ a_tb := a_in 1469 (by decide +kernel) rfl
theorem mlX12_209 : Cond.methodLink RX12 209 yX12_opensFrame ∈ a_tb := a_in 1470 (by decide +kernel) rfl
theorem mnX12_opensFrame : Cond.instanceMethod yX12_opensFrame ∈ a_tb := a_in 1472 (by decide +kernel) rfl
theorem mcX12_opensFrame : Cond.code yX12_opensFrame cX12_opensFrame 2 none ∈ a_tb := a_in 1473 (by decide +kernel) rfl
theorem mlX12_265 : Cond.methodLink RX12 265 yX12_goesOn ∈ a_tb := a_in 1474 (by decide +kernel) rfl
theorem mnX12_goesOn : Cond.instanceMethod yX12_goesOn ∈ a_tb := a_in 1476 (by decide +kernel) rfl
theorem mcX12_goesOn : Cond.code yX12_goesOn cX12_goesOn 2 none ∈ a_tb := a_in 1477 (by decide +kernel) rfl
theorem mlX12_246 : Cond.methodLink RX12 246 yX12_waitsFor ∈ a_tb := a_in 1478 (by decide +kernel) rfl
theorem mnX12_waitsFor : Cond.instanceMethod yX12_waitsFor ∈ a_tb := a_in 1480 (by decide +kernel) rfl
theorem mcX12_waitsFor : Cond.code yX12_waitsFor cX12_waitsFor 2 none ∈ a_tb := a_in 1481 (by decide +kernel) rfl
theorem mlX12_217 : Cond.methodLink RX12 217 yX12_rank ∈ a_tb := a_in 1482 (by decide +kernel) rfl
theorem mstX12_rank : Cond.static yX12_rank ∈ a_tb := a_in 1483 (by decide +kernel) rfl
theorem mcX12_rank : Cond.code yX12_rank cX12_rank 1 (some FieldType.int) ∈ a_tb := a_in 1484 (by decide +kernel) rfl
theorem mlX12_225 : Cond.methodLink RX12 225 yX12_works ∈ a_tb := a_in 1485 (by decide +kernel) rfl
theorem mnX12_works : Cond.instanceMethod yX12_works ∈ a_tb := a_in 1487 (by decide +kernel) rfl
theorem mcX12_works : Cond.code yX12_works cX12_works 2 none ∈ a_tb := a_in 1488 (by decide +kernel) rfl
theorem mlX12_249 : Cond.methodLink RX12 249 yX12_clauseIsOver ∈ a_tb := a_in 1489 (by decide +kernel) rfl
theorem mnX12_clauseIsOver : Cond.instanceMethod yX12_clauseIsOver ∈ a_tb := a_in 1491 (by decide +kernel) rfl
theorem mcX12_clauseIsOver : Cond.code yX12_clauseIsOver cX12_clauseIsOver 1 none ∈ a_tb := a_in 1492 (by decide +kernel) rfl
theorem mlX12_268 : Cond.methodLink RX12 268 yX12_clause ∈ a_tb := a_in 1493 (by decide +kernel) rfl
theorem mnX12_clause : Cond.instanceMethod yX12_clause ∈ a_tb := a_in 1495 (by decide +kernel) rfl
theorem mcX12_clause : Cond.code yX12_clause cX12_clause 1 none ∈ a_tb := a_in 1496 (by decide +kernel) rfl
theorem mlX12_255 : Cond.methodLink RX12 255 yX12_wasTold ∈ a_tb := a_in 1497 (by decide +kernel) rfl
theorem mnX12_wasTold : Cond.instanceMethod yX12_wasTold ∈ a_tb := a_in 1499 (by decide +kernel) rfl
theorem mcX12_wasTold : Cond.code yX12_wasTold cX12_wasTold 4 (some FieldType.boolean) ∈ a_tb := a_in 1500 (by decide +kernel) rfl
theorem mlX12_258 : Cond.methodLink RX12 258 yX12_number ∈ a_tb := a_in 1501 (by decide +kernel) rfl
theorem mnX12_number : Cond.instanceMethod yX12_number ∈ a_tb := a_in 1503 (by decide +kernel) rfl
theorem mcX12_number : Cond.code yX12_number cX12_number 4 (some FieldType.int) ∈ a_tb := a_in 1504 (by decide +kernel) rfl
theorem mlL_54 : Cond.methodLink RL 54 yX12_fault ∈ a_tb := a_in 1505 (by decide +kernel) rfl
theorem mnX12_fault : Cond.instanceMethod yX12_fault ∈ a_tb := a_in 1506 (by decide +kernel) rfl
theorem mseX12_fault : Cond.selects RX12 yX12_fault yX12_fault ∈ a_tb := a_in 1507 (by decide +kernel) rfl
theorem mcX12_fault : Cond.code yX12_fault cX12_fault 2 (some FieldType.int) ∈ a_tb := a_in 1508 (by decide +kernel) rfl
theorem mlL_58 : Cond.methodLink RL 58 yX12_by ∈ a_tb := a_in 1509 (by decide +kernel) rfl
theorem mnX12_by : Cond.instanceMethod yX12_by ∈ a_tb := a_in 1510 (by decide +kernel) rfl
theorem mseX12_by : Cond.selects RX12 yX12_by yX12_by ∈ a_tb := a_in 1511 (by decide +kernel) rfl
theorem mcX12_by : Cond.code yX12_by cX12_by 2 (some FieldType.boolean) ∈ a_tb := a_in 1512 (by decide +kernel) rfl
theorem mlL_63 : Cond.methodLink RL 63 yX12_weight ∈ a_tb := a_in 1513 (by decide +kernel) rfl
theorem mnX12_weight : Cond.instanceMethod yX12_weight ∈ a_tb := a_in 1514 (by decide +kernel) rfl
theorem mseX12_weight : Cond.selects RX12 yX12_weight yX12_weight ∈ a_tb := a_in 1515 (by decide +kernel) rfl
theorem mcX12_weight : Cond.code yX12_weight cX12_weight 3 (some FieldType.int) ∈ a_tb := a_in 1516 (by decide +kernel) rfl
theorem mlX12_281 : Cond.methodLink RX12 281 yX12_weightOf ∈ a_tb := a_in 1517 (by decide +kernel) rfl
theorem mnX12_weightOf : Cond.instanceMethod yX12_weightOf ∈ a_tb := a_in 1519 (by decide +kernel) rfl
theorem mcX12_weightOf : Cond.code yX12_weightOf cX12_weightOf 6 (some FieldType.int) ∈ a_tb := a_in 1520 (by decide +kernel) rfl
theorem mlX12_278 : Cond.methodLink RX12 278 yX12_saysOf ∈ a_tb := a_in 1521 (by decide +kernel) rfl
theorem mnX12_saysOf : Cond.instanceMethod yX12_saysOf ∈ a_tb := a_in 1523 (by decide +kernel) rfl
theorem mcX12_saysOf : Cond.code yX12_saysOf cX12_saysOf 5 (some FieldType.int) ∈ a_tb := a_in 1524 (by decide +kernel) rfl
theorem mlX12_274 : Cond.methodLink RX12 274 yX12_worked ∈ a_tb := a_in 1525 (by decide +kernel) rfl
theorem mnX12_worked : Cond.instanceMethod yX12_worked ∈ a_tb := a_in 1527 (by decide +kernel) rfl
theorem mcX12_worked : Cond.code yX12_worked cX12_worked 4 (some FieldType.int) ∈ a_tb := a_in 1528 (by decide +kernel) rfl
theorem mlX12_271 : Cond.methodLink RX12 271 yX12_over ∈ a_tb := a_in 1529 (by decide +kernel) rfl
theorem mnX12_over : Cond.instanceMethod yX12_over ∈ a_tb := a_in 1531 (by decide +kernel) rfl
theorem mcX12_over : Cond.code yX12_over cX12_over 4 (some FieldType.int) ∈ a_tb := a_in 1532 (by decide +kernel) rfl
theorem mlL_67 : Cond.methodLink RL 67 yX12_equation ∈ a_tb := a_in 1533 (by decide +kernel) rfl
theorem mnX12_equation : Cond.instanceMethod yX12_equation ∈ a_tb := a_in 1534 (by decide +kernel) rfl
theorem mseX12_equation : Cond.selects RX12 yX12_equation yX12_equation ∈ a_tb := a_in 1535 (by decide +kernel) rfl
theorem mcX12_equation : Cond.code yX12_equation cX12_equation 7 (some FieldType.int) ∈ a_tb := a_in 1536 (by decide +kernel) rfl
theorem mlX12_303 : Cond.methodLink RX12 303 yX12_holds ∈ a_tb := a_in 1537 (by decide +kernel) rfl
theorem mnX12_holds : Cond.instanceMethod yX12_holds ∈ a_tb := a_in 1539 (by decide +kernel) rfl
theorem mcX12_holds : Cond.code yX12_holds cX12_holds 7 (some FieldType.boolean) ∈ a_tb := a_in 1540 (by decide +kernel) rfl
theorem mlX12_293 : Cond.methodLink RX12 293 yX12_rowIs ∈ a_tb := a_in 1541 (by decide +kernel) rfl
theorem mnX12_rowIs : Cond.instanceMethod yX12_rowIs ∈ a_tb := a_in 1543 (by decide +kernel) rfl
theorem mcX12_rowIs : Cond.code yX12_rowIs cX12_rowIs 4 none ∈ a_tb := a_in 1544 (by decide +kernel) rfl
theorem mlX12_296 : Cond.methodLink RX12 296 yX12_laysWeights ∈ a_tb := a_in 1545 (by decide +kernel) rfl
theorem mnX12_laysWeights : Cond.instanceMethod yX12_laysWeights ∈ a_tb := a_in 1547 (by decide +kernel) rfl
theorem mcX12_laysWeights : Cond.code yX12_laysWeights cX12_laysWeights 2 none ∈ a_tb := a_in 1548 (by decide +kernel) rfl
theorem mlX12_299 : Cond.methodLink RX12 299 yX12_exchanges ∈ a_tb := a_in 1549 (by decide +kernel) rfl
theorem mnX12_exchanges : Cond.instanceMethod yX12_exchanges ∈ a_tb := a_in 1551 (by decide +kernel) rfl
theorem mcX12_exchanges : Cond.code yX12_exchanges cX12_exchanges 6 none ∈ a_tb := a_in 1552 (by decide +kernel) rfl
theorem mlL_71 : Cond.methodLink RL 71 yX12_sum ∈ a_tb := a_in 1553 (by decide +kernel) rfl
theorem mnX12_sum : Cond.instanceMethod yX12_sum ∈ a_tb := a_in 1554 (by decide +kernel) rfl
theorem mseX12_sum : Cond.selects RX12 yX12_sum yX12_sum ∈ a_tb := a_in 1555 (by decide +kernel) rfl
theorem mcX12_sum : Cond.code yX12_sum cX12_sum 3 (some FieldType.int) ∈ a_tb := a_in 1556 (by decide +kernel) rfl
theorem mlX12_314 : Cond.methodLink RX12 314 yX12_isState ∈ a_tb := a_in 1557 (by decide +kernel) rfl
theorem mnX12_isState : Cond.instanceMethod yX12_isState ∈ a_tb := a_in 1559 (by decide +kernel) rfl
theorem mcX12_isState : Cond.code yX12_isState cX12_isState 2 (some FieldType.boolean) ∈ a_tb := a_in 1560 (by decide +kernel) rfl
theorem mlX12_128 : Cond.methodLink RX12 128 yX12_states ∈ a_tb := a_in 1561 (by decide +kernel) rfl
theorem mnX12_states : Cond.instanceMethod yX12_states ∈ a_tb := a_in 1563 (by decide +kernel) rfl
theorem mcX12_states : Cond.code yX12_states cX12_states 1 (some FieldType.int) ∈ a_tb := a_in 1564 (by decide +kernel) rfl
theorem mlX12_317 : Cond.methodLink RX12 317 yX12_actedIs ∈ a_tb := a_in 1565 (by decide +kernel) rfl
theorem mnX12_actedIs : Cond.instanceMethod yX12_actedIs ∈ a_tb := a_in 1567 (by decide +kernel) rfl
theorem mcX12_actedIs : Cond.code yX12_actedIs cX12_actedIs 3 none ∈ a_tb := a_in 1568 (by decide +kernel) rfl
theorem mlX12_320 : Cond.methodLink RX12 320 yX12_sums ∈ a_tb := a_in 1569 (by decide +kernel) rfl
theorem mnX12_sums : Cond.instanceMethod yX12_sums ∈ a_tb := a_in 1571 (by decide +kernel) rfl
theorem mcX12_sums : Cond.code yX12_sums cX12_sums 1 none ∈ a_tb := a_in 1572 (by decide +kernel) rfl
theorem mlX12_310 : Cond.methodLink RX12 310 yX12_sumsBy ∈ a_tb := a_in 1573 (by decide +kernel) rfl
theorem mnX12_sumsBy : Cond.instanceMethod yX12_sumsBy ∈ a_tb := a_in 1575 (by decide +kernel) rfl
theorem mcX12_sumsBy : Cond.code yX12_sumsBy cX12_sumsBy 8 none ∈ a_tb := a_in 1576 (by decide +kernel) rfl
theorem mlX12_307 : Cond.methodLink RX12 307 yX12_takesNext ∈ a_tb := a_in 1577 (by decide +kernel) rfl
theorem mnX12_takesNext : Cond.instanceMethod yX12_takesNext ∈ a_tb := a_in 1579 (by decide +kernel) rfl
theorem mcX12_takesNext : Cond.code yX12_takesNext cX12_takesNext 2 none ∈ a_tb := a_in 1580 (by decide +kernel) rfl
theorem mlL_76 : Cond.methodLink RL 76 yX12_table ∈ a_tb := a_in 1581 (by decide +kernel) rfl
theorem mnX12_table : Cond.instanceMethod yX12_table ∈ a_tb := a_in 1582 (by decide +kernel) rfl
theorem mseX12_table : Cond.selects RX12 yX12_table yX12_table ∈ a_tb := a_in 1583 (by decide +kernel) rfl
theorem mcX12_table : Cond.code yX12_table cX12_table 4 (some FieldType.int) ∈ a_tb := a_in 1584 (by decide +kernel) rfl
theorem mlX12_323 : Cond.methodLink RX12 323 yX12_tables ∈ a_tb := a_in 1585 (by decide +kernel) rfl
theorem mnX12_tables : Cond.instanceMethod yX12_tables ∈ a_tb := a_in 1587 (by decide +kernel) rfl
theorem mcX12_tables : Cond.code yX12_tables cX12_tables 5 none ∈ a_tb := a_in 1588 (by decide +kernel) rfl
theorem mlL_80 : Cond.methodLink RL 80 yX12_commute ∈ a_tb := a_in 1589 (by decide +kernel) rfl
theorem mnX12_commute : Cond.instanceMethod yX12_commute ∈ a_tb := a_in 1590 (by decide +kernel) rfl
theorem mseX12_commute : Cond.selects RX12 yX12_commute yX12_commute ∈ a_tb := a_in 1591 (by decide +kernel) rfl
theorem mcX12_commute : Cond.code yX12_commute cX12_commute 5 (some FieldType.boolean) ∈ a_tb := a_in 1592 (by decide +kernel) rfl
theorem mlX12_326 : Cond.methodLink RX12 326 yX12_keepsOther ∈ a_tb := a_in 1593 (by decide +kernel) rfl
theorem mnX12_keepsOther : Cond.instanceMethod yX12_keepsOther ∈ a_tb := a_in 1595 (by decide +kernel) rfl
theorem mcX12_keepsOther : Cond.code yX12_keepsOther cX12_keepsOther 2 none ∈ a_tb := a_in 1596 (by decide +kernel) rfl
theorem mlX12_329 : Cond.methodLink RX12 329 yX12_isOther ∈ a_tb := a_in 1597 (by decide +kernel) rfl
theorem mnX12_isOther : Cond.instanceMethod yX12_isOther ∈ a_tb := a_in 1599 (by decide +kernel) rfl
theorem mcX12_isOther : Cond.code yX12_isOther cX12_isOther 3 (some FieldType.boolean) ∈ a_tb := a_in 1600 (by decide +kernel) rfl
theorem mlL_84 : Cond.methodLink RL 84 yX12_keeps ∈ a_tb := a_in 1601 (by decide +kernel) rfl
theorem mnX12_keeps : Cond.instanceMethod yX12_keeps ∈ a_tb := a_in 1602 (by decide +kernel) rfl
theorem mseX12_keeps : Cond.selects RX12 yX12_keeps yX12_keeps ∈ a_tb := a_in 1603 (by decide +kernel) rfl
theorem mcX12_keeps : Cond.code yX12_keeps cX12_keeps 4 (some FieldType.boolean) ∈ a_tb := a_in 1604 (by decide +kernel) rfl
theorem mlL_108 : Cond.methodLink RL 108 yX12_root ∈ a_tb := a_in 1605 (by decide +kernel) rfl
theorem mnX12_root : Cond.instanceMethod yX12_root ∈ a_tb := a_in 1606 (by decide +kernel) rfl
theorem mseX12_root : Cond.selects RX12 yX12_root yX12_root ∈ a_tb := a_in 1607 (by decide +kernel) rfl
theorem mcX12_root : Cond.code yX12_root cX12_root 1 (some FieldType.int) ∈ a_tb := a_in 1608 (by decide +kernel) rfl
theorem mlX12_342 : Cond.methodLink RX12 342 yX12_rootOf ∈ a_tb := a_in 1609 (by decide +kernel) rfl
theorem mnX12_rootOf : Cond.instanceMethod yX12_rootOf ∈ a_tb := a_in 1611 (by decide +kernel) rfl
theorem mcX12_rootOf : Cond.code yX12_rootOf cX12_rootOf 4 (some FieldType.int) ∈ a_tb := a_in 1612 (by decide +kernel) rfl
theorem mlL_88 : Cond.methodLink RL 88 yX12_size ∈ a_tb := a_in 1613 (by decide +kernel) rfl
theorem mnX12_size : Cond.instanceMethod yX12_size ∈ a_tb := a_in 1614 (by decide +kernel) rfl
theorem mseX12_size : Cond.selects RX12 yX12_size yX12_size ∈ a_tb := a_in 1615 (by decide +kernel) rfl
theorem mcX12_size : Cond.code yX12_size cX12_size 3 (some FieldType.int) ∈ a_tb := a_in 1616 (by decide +kernel) rfl
theorem mlX12_371 : Cond.methodLink RX12 371 yX12_isSector ∈ a_tb := a_in 1617 (by decide +kernel) rfl
theorem mnX12_isSector : Cond.instanceMethod yX12_isSector ∈ a_tb := a_in 1619 (by decide +kernel) rfl
theorem mcX12_isSector : Cond.code yX12_isSector cX12_isSector 2 (some FieldType.boolean) ∈ a_tb := a_in 1620 (by decide +kernel) rfl
theorem mlX12_374 : Cond.methodLink RX12 374 yX12_isTurn ∈ a_tb := a_in 1621 (by decide +kernel) rfl
theorem mnX12_isTurn : Cond.instanceMethod yX12_isTurn ∈ a_tb := a_in 1623 (by decide +kernel) rfl
theorem mcX12_isTurn : Cond.code yX12_isTurn cX12_isTurn 2 (some FieldType.boolean) ∈ a_tb := a_in 1624 (by decide +kernel) rfl
theorem mlX12_339 : Cond.methodLink RX12 339 yX12_laysSector ∈ a_tb := a_in 1625 (by decide +kernel) rfl
theorem mnX12_laysSector : Cond.instanceMethod yX12_laysSector ∈ a_tb := a_in 1627 (by decide +kernel) rfl
theorem mcX12_laysSector : Cond.code yX12_laysSector cX12_laysSector 3 none ∈ a_tb := a_in 1628 (by decide +kernel) rfl
theorem mlX12_336 : Cond.methodLink RX12 336 yX12_count ∈ a_tb := a_in 1629 (by decide +kernel) rfl
theorem mstX12_count : Cond.static yX12_count ∈ a_tb := a_in 1630 (by decide +kernel) rfl
theorem mcX12_count : Cond.code yX12_count cX12_count 3 (some FieldType.int) ∈ a_tb := a_in 1631 (by decide +kernel) rfl
theorem mlX12_354 : Cond.methodLink RX12 354 yX12_laysRounds ∈ a_tb := a_in 1632 (by decide +kernel) rfl
theorem mnX12_laysRounds : Cond.instanceMethod yX12_laysRounds ∈ a_tb := a_in 1634 (by decide +kernel) rfl
theorem mcX12_laysRounds : Cond.code yX12_laysRounds cX12_laysRounds 4 none ∈ a_tb := a_in 1635 (by decide +kernel) rfl
theorem mlX12_348 : Cond.methodLink RX12 348 yX12_leastOf ∈ a_tb := a_in 1636 (by decide +kernel) rfl
theorem mnX12_leastOf : Cond.instanceMethod yX12_leastOf ∈ a_tb := a_in 1638 (by decide +kernel) rfl
theorem mcX12_leastOf : Cond.code yX12_leastOf cX12_leastOf 4 (some FieldType.int) ∈ a_tb := a_in 1639 (by decide +kernel) rfl
theorem mlX12_345 : Cond.methodLink RX12 345 yX12_shifted ∈ a_tb := a_in 1640 (by decide +kernel) rfl
theorem mnX12_shifted : Cond.instanceMethod yX12_shifted ∈ a_tb := a_in 1642 (by decide +kernel) rfl
theorem mcX12_shifted : Cond.code yX12_shifted cX12_shifted 2 (some FieldType.int) ∈ a_tb := a_in 1643 (by decide +kernel) rfl
theorem mlX12_351 : Cond.methodLink RX12 351 yX12_roundOf ∈ a_tb := a_in 1644 (by decide +kernel) rfl
theorem mnX12_roundOf : Cond.instanceMethod yX12_roundOf ∈ a_tb := a_in 1646 (by decide +kernel) rfl
theorem mcX12_roundOf : Cond.code yX12_roundOf cX12_roundOf 4 (some FieldType.int) ∈ a_tb := a_in 1647 (by decide +kernel) rfl
theorem mlL_92 : Cond.methodLink RL 92 yX12_trace ∈ a_tb := a_in 1648 (by decide +kernel) rfl
theorem mnX12_trace : Cond.instanceMethod yX12_trace ∈ a_tb := a_in 1649 (by decide +kernel) rfl
theorem mseX12_trace : Cond.selects RX12 yX12_trace yX12_trace ∈ a_tb := a_in 1650 (by decide +kernel) rfl
theorem mcX12_trace : Cond.code yX12_trace cX12_trace 6 (some FieldType.int) ∈ a_tb := a_in 1651 (by decide +kernel) rfl
theorem mlL_96 : Cond.methodLink RL 96 yX12_poly ∈ a_tb := a_in 1652 (by decide +kernel) rfl
theorem mnX12_poly : Cond.instanceMethod yX12_poly ∈ a_tb := a_in 1653 (by decide +kernel) rfl
theorem mseX12_poly : Cond.selects RX12 yX12_poly yX12_poly ∈ a_tb := a_in 1654 (by decide +kernel) rfl
theorem mcX12_poly : Cond.code yX12_poly cX12_poly 4 (some FieldType.int) ∈ a_tb := a_in 1655 (by decide +kernel) rfl
theorem mlX12_377 : Cond.methodLink RX12 377 yX12_laysSquare ∈ a_tb := a_in 1656 (by decide +kernel) rfl
theorem mnX12_laysSquare : Cond.instanceMethod yX12_laysSquare ∈ a_tb := a_in 1658 (by decide +kernel) rfl
theorem mcX12_laysSquare : Cond.code yX12_laysSquare cX12_laysSquare 6 none ∈ a_tb := a_in 1659 (by decide +kernel) rfl
theorem mlX12_381 : Cond.methodLink RX12 381 yX12_laysTurn ∈ a_tb := a_in 1660 (by decide +kernel) rfl
theorem mnX12_laysTurn : Cond.instanceMethod yX12_laysTurn ∈ a_tb := a_in 1662 (by decide +kernel) rfl
theorem mcX12_laysTurn : Cond.code yX12_laysTurn cX12_laysTurn 10 none ∈ a_tb := a_in 1663 (by decide +kernel) rfl
theorem mlX12_357 : Cond.methodLink RX12 357 yX12_raised ∈ a_tb := a_in 1664 (by decide +kernel) rfl
theorem mnX12_raised : Cond.instanceMethod yX12_raised ∈ a_tb := a_in 1666 (by decide +kernel) rfl
theorem mcX12_raised : Cond.code yX12_raised cX12_raised 5 (some FieldType.int) ∈ a_tb := a_in 1667 (by decide +kernel) rfl
theorem mlX12_360 : Cond.methodLink RX12 360 yX12_left ∈ a_tb := a_in 1668 (by decide +kernel) rfl
theorem mnX12_left : Cond.instanceMethod yX12_left ∈ a_tb := a_in 1670 (by decide +kernel) rfl
theorem mcX12_left : Cond.code yX12_left cX12_left 4 (some FieldType.int) ∈ a_tb := a_in 1671 (by decide +kernel) rfl
theorem mlX12_384 : Cond.methodLink RX12 384 yX12_laysPoly ∈ a_tb := a_in 1672 (by decide +kernel) rfl
theorem mnX12_laysPoly : Cond.instanceMethod yX12_laysPoly ∈ a_tb := a_in 1674 (by decide +kernel) rfl
theorem mcX12_laysPoly : Cond.code yX12_laysPoly cX12_laysPoly 7 none ∈ a_tb := a_in 1675 (by decide +kernel) rfl
theorem mlX12_365 : Cond.methodLink RX12 365 yX12_bends ∈ a_tb := a_in 1676 (by decide +kernel) rfl
theorem mnX12_bends : Cond.instanceMethod yX12_bends ∈ a_tb := a_in 1678 (by decide +kernel) rfl
theorem mcX12_bends : Cond.code yX12_bends cX12_bends 6 none ∈ a_tb := a_in 1679 (by decide +kernel) rfl
theorem mlX12_362 : Cond.methodLink RX12 362 yX12_swaps ∈ a_tb := a_in 1680 (by decide +kernel) rfl
theorem mnX12_swaps : Cond.instanceMethod yX12_swaps ∈ a_tb := a_in 1682 (by decide +kernel) rfl
theorem mcX12_swaps : Cond.code yX12_swaps cX12_swaps 5 none ∈ a_tb := a_in 1683 (by decide +kernel) rfl
theorem mlX12_368 : Cond.methodLink RX12 368 yX12_adds ∈ a_tb := a_in 1684 (by decide +kernel) rfl
theorem mnX12_adds : Cond.instanceMethod yX12_adds ∈ a_tb := a_in 1686 (by decide +kernel) rfl
theorem mcX12_adds : Cond.code yX12_adds cX12_adds 5 none ∈ a_tb := a_in 1687 (by decide +kernel) rfl
theorem mlL_100 : Cond.methodLink RL 100 yX12_own ∈ a_tb := a_in 1688 (by decide +kernel) rfl
theorem mnX12_own : Cond.instanceMethod yX12_own ∈ a_tb := a_in 1689 (by decide +kernel) rfl
theorem mseX12_own : Cond.selects RX12 yX12_own yX12_own ∈ a_tb := a_in 1690 (by decide +kernel) rfl
theorem mcX12_own : Cond.code yX12_own cX12_own 5 (some FieldType.int) ∈ a_tb := a_in 1691 (by decide +kernel) rfl
theorem mlX12_387 : Cond.methodLink RX12 387 yX12_laysOwn ∈ a_tb := a_in 1692 (by decide +kernel) rfl
theorem mnX12_laysOwn : Cond.instanceMethod yX12_laysOwn ∈ a_tb := a_in 1694 (by decide +kernel) rfl
theorem mcX12_laysOwn : Cond.code yX12_laysOwn cX12_laysOwn 4 none ∈ a_tb := a_in 1695 (by decide +kernel) rfl
theorem mlX12_390 : Cond.methodLink RX12 390 yX12_oftenOf ∈ a_tb := a_in 1696 (by decide +kernel) rfl
theorem mnX12_oftenOf : Cond.instanceMethod yX12_oftenOf ∈ a_tb := a_in 1698 (by decide +kernel) rfl
theorem mcX12_oftenOf : Cond.code yX12_oftenOf cX12_oftenOf 7 (some FieldType.int) ∈ a_tb := a_in 1699 (by decide +kernel) rfl
theorem mlL_104 : Cond.methodLink RL 104 yX12_often ∈ a_tb := a_in 1700 (by decide +kernel) rfl
theorem mnX12_often : Cond.instanceMethod yX12_often ∈ a_tb := a_in 1701 (by decide +kernel) rfl
theorem mseX12_often : Cond.selects RX12 yX12_often yX12_often ∈ a_tb := a_in 1702 (by decide +kernel) rfl
theorem mcX12_often : Cond.code yX12_often cX12_often 3 (some FieldType.int) ∈ a_tb := a_in 1703 (by decide +kernel) rfl
theorem mlL_112 : Cond.methodLink RL 112 yX12_mean ∈ a_tb := a_in 1704 (by decide +kernel) rfl
theorem mnX12_mean : Cond.instanceMethod yX12_mean ∈ a_tb := a_in 1705 (by decide +kernel) rfl
theorem mseX12_mean : Cond.selects RX12 yX12_mean yX12_mean ∈ a_tb := a_in 1706 (by decide +kernel) rfl
theorem mcX12_mean : Cond.code yX12_mean cX12_mean 6 (some FieldType.int) ∈ a_tb := a_in 1707 (by decide +kernel) rfl
theorem mlL_116 : Cond.methodLink RL 116 yX12_pair ∈ a_tb := a_in 1708 (by decide +kernel) rfl
theorem mnX12_pair : Cond.instanceMethod yX12_pair ∈ a_tb := a_in 1709 (by decide +kernel) rfl
theorem mseX12_pair : Cond.selects RX12 yX12_pair yX12_pair ∈ a_tb := a_in 1710 (by decide +kernel) rfl
theorem mcX12_pair : Cond.code yX12_pair cX12_pair 6 (some FieldType.int) ∈ a_tb := a_in 1711 (by decide +kernel) rfl
theorem mlX12_408 : Cond.methodLink RX12 408 yX12_laysPair ∈ a_tb := a_in 1712 (by decide +kernel) rfl
theorem mnX12_laysPair : Cond.instanceMethod yX12_laysPair ∈ a_tb := a_in 1714 (by decide +kernel) rfl
theorem mcX12_laysPair : Cond.code yX12_laysPair cX12_laysPair 5 (some FieldType.boolean) ∈ a_tb := a_in 1715 (by decide +kernel) rfl
theorem mlX12_405 : Cond.methodLink RX12 405 yX12_isPair ∈ a_tb := a_in 1716 (by decide +kernel) rfl
theorem mnX12_isPair : Cond.instanceMethod yX12_isPair ∈ a_tb := a_in 1718 (by decide +kernel) rfl
theorem mcX12_isPair : Cond.code yX12_isPair cX12_isPair 5 (some FieldType.boolean) ∈ a_tb := a_in 1719 (by decide +kernel) rfl
theorem mlX12_393 : Cond.methodLink RX12 393 yX12_moves ∈ a_tb := a_in 1720 (by decide +kernel) rfl
theorem mnX12_moves : Cond.instanceMethod yX12_moves ∈ a_tb := a_in 1722 (by decide +kernel) rfl
theorem mcX12_moves : Cond.code yX12_moves cX12_moves 5 none ∈ a_tb := a_in 1723 (by decide +kernel) rfl
theorem mlX12_396 : Cond.methodLink RX12 396 yX12_laysPower ∈ a_tb := a_in 1724 (by decide +kernel) rfl
theorem mnX12_laysPower : Cond.instanceMethod yX12_laysPower ∈ a_tb := a_in 1726 (by decide +kernel) rfl
theorem mcX12_laysPower : Cond.code yX12_laysPower cX12_laysPower 4 none ∈ a_tb := a_in 1727 (by decide +kernel) rfl
theorem mlX12_399 : Cond.methodLink RX12 399 yX12_addsPower ∈ a_tb := a_in 1728 (by decide +kernel) rfl
theorem mnX12_addsPower : Cond.instanceMethod yX12_addsPower ∈ a_tb := a_in 1730 (by decide +kernel) rfl
theorem mcX12_addsPower : Cond.code yX12_addsPower cX12_addsPower 3 none ∈ a_tb := a_in 1731 (by decide +kernel) rfl
theorem mlL_120 : Cond.methodLink RL 120 yX12_set ∈ a_tb := a_in 1732 (by decide +kernel) rfl
theorem mnX12_set : Cond.instanceMethod yX12_set ∈ a_tb := a_in 1733 (by decide +kernel) rfl
theorem mseX12_set : Cond.selects RX12 yX12_set yX12_set ∈ a_tb := a_in 1734 (by decide +kernel) rfl
theorem mcX12_set : Cond.code yX12_set cX12_set 3 (some FieldType.boolean) ∈ a_tb := a_in 1735 (by decide +kernel) rfl
theorem mlL_124 : Cond.methodLink RL 124 yX12_act ∈ a_tb := a_in 1736 (by decide +kernel) rfl
theorem mnX12_act : Cond.instanceMethod yX12_act ∈ a_tb := a_in 1737 (by decide +kernel) rfl
theorem mseX12_act : Cond.selects RX12 yX12_act yX12_act ∈ a_tb := a_in 1738 (by decide +kernel) rfl
theorem mcX12_act : Cond.code yX12_act cX12_act 3 (some FieldType.boolean) ∈ a_tb := a_in 1739 (by decide +kernel) rfl
theorem mlX12_414 : Cond.methodLink RX12 414 yX12_canAct ∈ a_tb := a_in 1740 (by decide +kernel) rfl
theorem mnX12_canAct : Cond.instanceMethod yX12_canAct ∈ a_tb := a_in 1742 (by decide +kernel) rfl
theorem mcX12_canAct : Cond.code yX12_canAct cX12_canAct 3 (some FieldType.boolean) ∈ a_tb := a_in 1743 (by decide +kernel) rfl
theorem mlX12_417 : Cond.methodLink RX12 417 yX12_acts ∈ a_tb := a_in 1744 (by decide +kernel) rfl
theorem mnX12_acts : Cond.instanceMethod yX12_acts ∈ a_tb := a_in 1746 (by decide +kernel) rfl
theorem mcX12_acts : Cond.code yX12_acts cX12_acts 4 none ∈ a_tb := a_in 1747 (by decide +kernel) rfl
theorem mlX12_411 : Cond.methodLink RX12 411 yX12_cell ∈ a_tb := a_in 1748 (by decide +kernel) rfl
theorem mnX12_cell : Cond.instanceMethod yX12_cell ∈ a_tb := a_in 1750 (by decide +kernel) rfl
theorem mcX12_cell : Cond.code yX12_cell cX12_cell 2 (some FieldType.int) ∈ a_tb := a_in 1751 (by decide +kernel) rfl
theorem mlL_128 : Cond.methodLink RL 128 yX12_played ∈ a_tb := a_in 1752 (by decide +kernel) rfl
theorem mnX12_played : Cond.instanceMethod yX12_played ∈ a_tb := a_in 1753 (by decide +kernel) rfl
theorem mseX12_played : Cond.selects RX12 yX12_played yX12_played ∈ a_tb := a_in 1754 (by decide +kernel) rfl
theorem mcX12_played : Cond.code yX12_played cX12_played 5 (some FieldType.int) ∈ a_tb := a_in 1755 (by decide +kernel) rfl
theorem mlL_132 : Cond.methodLink RL 132 yX12_undo ∈ a_tb := a_in 1756 (by decide +kernel) rfl
theorem mnX12_undo : Cond.instanceMethod yX12_undo ∈ a_tb := a_in 1757 (by decide +kernel) rfl
theorem mseX12_undo : Cond.selects RX12 yX12_undo yX12_undo ∈ a_tb := a_in 1758 (by decide +kernel) rfl
theorem mcX12_undo : Cond.code yX12_undo cX12_undo 1 (some FieldType.int) ∈ a_tb := a_in 1759 (by decide +kernel) rfl
theorem mlL_136 : Cond.methodLink RL 136 yX12_redo ∈ a_tb := a_in 1760 (by decide +kernel) rfl
theorem mnX12_redo : Cond.instanceMethod yX12_redo ∈ a_tb := a_in 1761 (by decide +kernel) rfl
theorem mseX12_redo : Cond.selects RX12 yX12_redo yX12_redo ∈ a_tb := a_in 1762 (by decide +kernel) rfl
theorem mcX12_redo : Cond.code yX12_redo cX12_redo 1 (some FieldType.int) ∈ a_tb := a_in 1763 (by decide +kernel) rfl
theorem mlL_140 : Cond.methodLink RL 140 yX12_at ∈ a_tb := a_in 1764 (by decide +kernel) rfl
theorem mnX12_at : Cond.instanceMethod yX12_at ∈ a_tb := a_in 1765 (by decide +kernel) rfl
theorem mseX12_at : Cond.selects RX12 yX12_at yX12_at ∈ a_tb := a_in 1766 (by decide +kernel) rfl
theorem mcX12_at : Cond.code yX12_at cX12_at 2 (some FieldType.int) ∈ a_tb := a_in 1767 (by decide +kernel) rfl
theorem mlL_144 : Cond.methodLink RL 144 yX12_norm ∈ a_tb := a_in 1768 (by decide +kernel) rfl
theorem mnX12_norm : Cond.instanceMethod yX12_norm ∈ a_tb := a_in 1769 (by decide +kernel) rfl
theorem mseX12_norm : Cond.selects RX12 yX12_norm yX12_norm ∈ a_tb := a_in 1770 (by decide +kernel) rfl
theorem mcX12_norm : Cond.code yX12_norm cX12_norm 3 (some FieldType.int) ∈ a_tb := a_in 1771 (by decide +kernel) rfl
theorem mlL_148 : Cond.methodLink RL 148 yX12_power ∈ a_tb := a_in 1772 (by decide +kernel) rfl
theorem mnX12_power : Cond.instanceMethod yX12_power ∈ a_tb := a_in 1773 (by decide +kernel) rfl
theorem mseX12_power : Cond.selects RX12 yX12_power yX12_power ∈ a_tb := a_in 1774 (by decide +kernel) rfl
theorem mcX12_power : Cond.code yX12_power cX12_power 5 (some FieldType.int) ∈ a_tb := a_in 1775 (by decide +kernel) rfl
theorem mlL_152 : Cond.methodLink RL 152 yX12_image ∈ a_tb := a_in 1776 (by decide +kernel) rfl
theorem mnX12_image : Cond.instanceMethod yX12_image ∈ a_tb := a_in 1777 (by decide +kernel) rfl
theorem mseX12_image : Cond.selects RX12 yX12_image yX12_image ∈ a_tb := a_in 1778 (by decide +kernel) rfl
theorem mcX12_image : Cond.code yX12_image cX12_image 1 (some FieldType.int) ∈ a_tb := a_in 1779 (by decide +kernel) rfl
theorem mlL_156 : Cond.methodLink RL 156 yX12_back ∈ a_tb := a_in 1780 (by decide +kernel) rfl
theorem mnX12_back : Cond.instanceMethod yX12_back ∈ a_tb := a_in 1781 (by decide +kernel) rfl
theorem mseX12_back : Cond.selects RX12 yX12_back yX12_back ∈ a_tb := a_in 1782 (by decide +kernel) rfl
theorem mcX12_back : Cond.code yX12_back cX12_back 1 (some FieldType.int) ∈ a_tb := a_in 1783 (by decide +kernel) rfl
theorem mlL_160 : Cond.methodLink RL 160 yX12_about ∈ a_tb := a_in 1784 (by decide +kernel) rfl
theorem mnX12_about : Cond.instanceMethod yX12_about ∈ a_tb := a_in 1785 (by decide +kernel) rfl
theorem mseX12_about : Cond.selects RX12 yX12_about yX12_about ∈ a_tb := a_in 1786 (by decide +kernel) rfl
theorem mcX12_about : Cond.code yX12_about cX12_about 2 (some FieldType.int) ∈ a_tb := a_in 1787 (by decide +kernel) rfl
theorem mmX2_row : ∀ (own : String) (idx : Nat), a_ML own idx yX2_row cX2_row 2 (some (FieldType.array FieldType.int)) 1 := fun _ _ => ⟨mcX2_row, inX2, by decide +kernel, rfl⟩
theorem mmX10_stopOf : ∀ (own : String) (idx : Nat), a_ML own idx yX10_stopOf cX10_stopOf 4 (some FieldType.int) 1 := fun _ _ => ⟨mcX10_stopOf, inX10, by decide +kernel, rfl⟩
theorem mmX10_tokenOf : ∀ (own : String) (idx : Nat), a_ML own idx yX10_tokenOf cX10_tokenOf 4 (some FieldType.int) 2 := fun _ _ => ⟨mcX10_tokenOf, inX10, by decide +kernel, rfl⟩
theorem mmX10_wordOf : ∀ (own : String) (idx : Nat), a_ML own idx yX10_wordOf cX10_wordOf 3 (some FieldType.int) 2 := fun _ _ => ⟨mcX10_wordOf, inX10, by decide +kernel, rfl⟩
theorem mmX10_isWord : ∀ (own : String) (idx : Nat), a_ML own idx yX10_isWord cX10_isWord 5 (some FieldType.boolean) 3 := fun _ _ => ⟨mcX10_isWord, inX10, by decide +kernel, rfl⟩
theorem mmX10_numberOf : ∀ (own : String) (idx : Nat), a_ML own idx yX10_numberOf cX10_numberOf 5 (some FieldType.int) 2 := fun _ _ => ⟨mcX10_numberOf, inX10, by decide +kernel, rfl⟩
theorem mmX5_advance : ∀ (own : String) (idx : Nat), a_ML own idx yX5_advance cX5_advance 1 none 0 := fun _ _ => ⟨mcX5_advance, inX5, by decide +kernel, rfl⟩
theorem mmX5_readClause : ∀ (own : String) (idx : Nat), a_ML own idx yX5_readClause cX5_readClause 3 (some FieldType.boolean) 0 := fun _ _ => ⟨mcX5_readClause, inX5, by decide +kernel, rfl⟩
theorem mmX5_refuse : ∀ (own : String) (idx : Nat), a_ML own idx yX5_refuse cX5_refuse 2 (some FieldType.boolean) 1 := fun _ _ => ⟨mcX5_refuse, inX5, by decide +kernel, rfl⟩
theorem mmX5_readNumber : ∀ (own : String) (idx : Nat), a_ML own idx yX5_readNumber cX5_readNumber 2 (some FieldType.boolean) 1 := fun _ _ => ⟨mcX5_readNumber, inX5, by decide +kernel, rfl⟩
theorem mmX5_readSum : ∀ (own : String) (idx : Nat), a_ML own idx yX5_readSum cX5_readSum 5 (some FieldType.boolean) 1 := fun _ _ => ⟨mcX5_readSum, inX5, by decide +kernel, rfl⟩
theorem mmX5_readProduct : ∀ (own : String) (idx : Nat), a_ML own idx yX5_readProduct cX5_readProduct 5 (some FieldType.boolean) 1 := fun _ _ => ⟨mcX5_readProduct, inX5, by decide +kernel, rfl⟩
theorem mmX5_readOne : ∀ (own : String) (idx : Nat), a_ML own idx yX5_readOne cX5_readOne 4 (some FieldType.boolean) 1 := fun _ _ => ⟨mcX5_readOne, inX5, by decide +kernel, rfl⟩
theorem mmX5_readName : ∀ (own : String) (idx : Nat), a_ML own idx yX5_readName cX5_readName 1 (some FieldType.boolean) 0 := fun _ _ => ⟨mcX5_readName, inX5, by decide +kernel, rfl⟩
theorem mmX5_pass : ∀ (own : String) (idx : Nat), a_ML own idx yX5_pass cX5_pass 2 (some FieldType.boolean) 1 := fun _ _ => ⟨mcX5_pass, inX5, by decide +kernel, rfl⟩
theorem mmX11_isText : ∀ (own : String) (idx : Nat), a_ML own idx yX11_isText cX11_isText 2 (some FieldType.boolean) 1 := fun _ _ => ⟨mcX11_isText, inX11, by decide +kernel, rfl⟩
theorem mmX11_toldScript : ∀ (own : String) (idx : Nat), a_ML own idx yX11_toldScript cX11_toldScript 1 (some (FieldType.object "SolvedChains$Script")) 0 := fun _ _ => ⟨mcX11_toldScript, inX11, by decide +kernel, rfl⟩
theorem mmX7_reckoned : ∀ (own : String) (idx : Nat), a_ML own idx yX7_reckoned cX7_reckoned 7 (some FieldType.int) 3 := fun _ _ => ⟨mcX7_reckoned, inX7, by decide +kernel, rfl⟩
theorem mmX1_holds : ∀ (own : String) (idx : Nat), a_ML own idx yX1_holds cX1_holds 8 (some FieldType.boolean) 2 := fun _ _ => ⟨mcX1_holds, inX1, by decide +kernel, rfl⟩
theorem mmX1_wayBetween : ∀ (own : String) (idx : Nat), a_ML own idx yX1_wayBetween cX1_wayBetween 10 (some FieldType.int) 4 := fun _ _ => ⟨mcX1_wayBetween, inX1, by decide +kernel, rfl⟩
theorem mmX11_agreesInSectors : ∀ (own : String) (idx : Nat), a_ML own idx yX11_agreesInSectors cX11_agreesInSectors 6 (some FieldType.boolean) 2 := fun _ _ => ⟨mcX11_agreesInSectors, inX11, by decide +kernel, rfl⟩
theorem mmX6_isRoot : ∀ (own : String) (idx : Nat), a_ML own idx yX6_isRoot cX6_isRoot 4 (some FieldType.boolean) 1 := fun _ _ => ⟨mcX6_isRoot, inX6, by decide +kernel, rfl⟩
theorem mmX0_takeIn : ∀ (own : String) (idx : Nat), a_ML own idx yX0_takeIn cX0_takeIn 2 (some FieldType.int) 1 := fun _ _ => ⟨mcX0_takeIn, inX0, by decide +kernel, rfl⟩
theorem mmX0_place : ∀ (own : String) (idx : Nat), a_ML own idx yX0_place cX0_place 4 none 3 := fun _ _ => ⟨mcX0_place, inX0, by decide +kernel, rfl⟩
theorem mmX0_gatherRound : ∀ (own : String) (idx : Nat), a_ML own idx yX0_gatherRound cX0_gatherRound 10 none 4 := fun _ _ => ⟨mcX0_gatherRound, inX0, by decide +kernel, rfl⟩
theorem mmX11_hasSector : ∀ (own : String) (idx : Nat), a_ML own idx yX11_hasSector cX11_hasSector 4 (some FieldType.boolean) 2 := fun _ _ => ⟨mcX11_hasSector, inX11, by decide +kernel, rfl⟩
theorem mmX8_flatten : ∀ (own : String) (idx : Nat), a_ML own idx yX8_flatten cX8_flatten 5 none 0 := fun _ _ => ⟨mcX8_flatten, inX8, by decide +kernel, rfl⟩
theorem mmX8_pivotFor : ∀ (own : String) (idx : Nat), a_ML own idx yX8_pivotFor cX8_pivotFor 3 (some FieldType.int) 1 := fun _ _ => ⟨mcX8_pivotFor, inX8, by decide +kernel, rfl⟩
theorem mmX8_swapBoth : ∀ (own : String) (idx : Nat), a_ML own idx yX8_swapBoth cX8_swapBoth 4 none 2 := fun _ _ => ⟨mcX8_swapBoth, inX8, by decide +kernel, rfl⟩
theorem mmX8_swapCells : ∀ (own : String) (idx : Nat), a_ML own idx yX8_swapCells cX8_swapCells 4 none 2 := fun _ _ => ⟨mcX8_swapCells, inX8, by decide +kernel, rfl⟩
theorem mmX8_takeRowOff : ∀ (own : String) (idx : Nat), a_ML own idx yX8_takeRowOff cX8_takeRowOff 5 none 3 := fun _ _ => ⟨mcX8_takeRowOff, inX8, by decide +kernel, rfl⟩
theorem mmX8_findTerms : ∀ (own : String) (idx : Nat), a_ML own idx yX8_findTerms cX8_findTerms 4 none 0 := fun _ _ => ⟨mcX8_findTerms, inX8, by decide +kernel, rfl⟩
theorem mmX8_takeStepOff : ∀ (own : String) (idx : Nat), a_ML own idx yX8_takeStepOff cX8_takeStepOff 5 none 3 := fun _ _ => ⟨mcX8_takeStepOff, inX8, by decide +kernel, rfl⟩
theorem mmX8_dividesRest : ∀ (own : String) (idx : Nat), a_ML own idx yX8_dividesRest cX8_dividesRest 4 (some FieldType.boolean) 2 := fun _ _ => ⟨mcX8_dividesRest, inX8, by decide +kernel, rfl⟩
theorem mmX3_countRows : ∀ (own : String) (idx : Nat), a_ML own idx yX3_countRows cX3_countRows 4 none 2 := fun _ _ => ⟨mcX3_countRows, inX3, by decide +kernel, rfl⟩
theorem mmX3_fillBase : ∀ (own : String) (idx : Nat), a_ML own idx yX3_fillBase cX3_fillBase 3 none 0 := fun _ _ => ⟨mcX3_fillBase, inX3, by decide +kernel, rfl⟩
theorem mmX3_rowsFor : ∀ (own : String) (idx : Nat), a_ML own idx yX3_rowsFor cX3_rowsFor 2 (some FieldType.int) 1 := fun _ _ => ⟨mcX3_rowsFor, inX3, by decide +kernel, rfl⟩
theorem mmX3_countRow : ∀ (own : String) (idx : Nat), a_ML own idx yX3_countRow cX3_countRow 5 (some FieldType.int) 2 := fun _ _ => ⟨mcX3_countRow, inX3, by decide +kernel, rfl⟩
theorem mmX3_openRow : ∀ (own : String) (idx : Nat), a_ML own idx yX3_openRow cX3_openRow 7 none 2 := fun _ _ => ⟨mcX3_openRow, inX3, by decide +kernel, rfl⟩
theorem mmX3_lastsFor : ∀ (own : String) (idx : Nat), a_ML own idx yX3_lastsFor cX3_lastsFor 2 (some FieldType.int) 1 := fun _ _ => ⟨mcX3_lastsFor, inX3, by decide +kernel, rfl⟩
theorem mmX3_divides : ∀ (own : String) (idx : Nat), a_ML own idx yX3_divides cX3_divides 10 (some FieldType.boolean) 3 := fun _ _ => ⟨mcX3_divides, inX3, by decide +kernel, rfl⟩
theorem mmX3_countAt : ∀ (own : String) (idx : Nat), a_ML own idx yX3_countAt cX3_countAt 3 (some FieldType.int) 2 := fun _ _ => ⟨mcX3_countAt, inX3, by decide +kernel, rfl⟩
theorem mmX3_pick : ∀ (own : String) (idx : Nat), a_ML own idx yX3_pick cX3_pick 6 (some FieldType.boolean) 3 := fun _ _ => ⟨mcX3_pick, inX3, by decide +kernel, rfl⟩
theorem mmX3_tell : ∀ (own : String) (idx : Nat), a_ML own idx yX3_tell cX3_tell 5 none 3 := fun _ _ => ⟨mcX3_tell, inX3, by decide +kernel, rfl⟩
theorem mmX11_isTrue : ∀ (own : String) (idx : Nat), a_ML own idx yX11_isTrue cX11_isTrue 3 (some FieldType.int) 2 := fun _ _ => ⟨mcX11_isTrue, inX11, by decide +kernel, rfl⟩
theorem mmX11_enact : ∀ (own : String) (idx : Nat), a_ML own idx yX11_enact cX11_enact 7 (some FieldType.boolean) 2 := fun _ _ => ⟨mcX11_enact, inX11, by decide +kernel, rfl⟩
theorem mmX6_addSumOf : ∀ (own : String) (idx : Nat), a_ML own idx yX6_addSumOf cX6_addSumOf 6 none 3 := fun _ _ => ⟨mcX6_addSumOf, inX6, by decide +kernel, rfl⟩
theorem mmX1_passLetter : ∀ (own : String) (idx : Nat), a_ML own idx yX1_passLetter cX1_passLetter 11 none 3 := fun _ _ => ⟨mcX1_passLetter, inX1, by decide +kernel, rfl⟩
theorem mmX12_copies : ∀ (own : String) (idx : Nat), a_ML own idx yX12_copies cX12_copies 3 none 1 := fun _ _ => ⟨mcX12_copies, inX12, by decide +kernel, rfl⟩
theorem mmX12_forgets : ∀ (own : String) (idx : Nat), a_ML own idx yX12_forgets cX12_forgets 1 none 0 := fun _ _ => ⟨mcX12_forgets, inX12, by decide +kernel, rfl⟩
theorem mmX12_isNumber : ∀ (own : String) (idx : Nat), a_ML own idx yX12_isNumber cX12_isNumber 2 (some FieldType.boolean) 1 := fun _ _ => ⟨mcX12_isNumber, inX12, by decide +kernel, rfl⟩
theorem mmX12_put : ∀ (own : String) (idx : Nat), a_ML own idx yX12_put cX12_put 3 none 1 := fun _ _ => ⟨mcX12_put, inX12, by decide +kernel, rfl⟩
theorem mmX12_next : ∀ (own : String) (idx : Nat), a_ML own idx yX12_next cX12_next 5 none 0 := fun _ _ => ⟨mcX12_next, inX12, by decide +kernel, rfl⟩
theorem mmX12_begins : ∀ (own : String) (idx : Nat), a_ML own idx yX12_begins cX12_begins 2 none 0 := fun _ _ => ⟨mcX12_begins, inX12, by decide +kernel, rfl⟩
theorem mmX12_errs : ∀ (own : String) (idx : Nat), a_ML own idx yX12_errs cX12_errs 2 none 1 := fun _ _ => ⟨mcX12_errs, inX12, by decide +kernel, rfl⟩
theorem mmX12_emits : ∀ (own : String) (idx : Nat), a_ML own idx yX12_emits cX12_emits 3 none 2 := fun _ _ => ⟨mcX12_emits, inX12, by decide +kernel, rfl⟩
theorem mmX12_oneIsOver : ∀ (own : String) (idx : Nat), a_ML own idx yX12_oneIsOver cX12_oneIsOver 1 none 0 := fun _ _ => ⟨mcX12_oneIsOver, inX12, by decide +kernel, rfl⟩
theorem mmX12_top : ∀ (own : String) (idx : Nat), a_ML own idx yX12_top cX12_top 1 (some FieldType.int) 0 := fun _ _ => ⟨mcX12_top, inX12, by decide +kernel, rfl⟩
theorem mmX12_isSign : ∀ (own : String) (idx : Nat), a_ML own idx yX12_isSign cX12_isSign 2 (some FieldType.boolean) 1 := fun _ _ => ⟨mcX12_isSign, inX12, by decide +kernel, rfl⟩
theorem mmX12_opensSign : ∀ (own : String) (idx : Nat), a_ML own idx yX12_opensSign cX12_opensSign 2 (some FieldType.boolean) 1 := fun _ _ => ⟨mcX12_opensSign, inX12, by decide +kernel, rfl⟩
theorem mmX12_opensFrame : ∀ (own : String) (idx : Nat), a_ML own idx yX12_opensFrame cX12_opensFrame 2 none 1 := fun _ _ => ⟨mcX12_opensFrame, inX12, by decide +kernel, rfl⟩
theorem mmX12_goesOn : ∀ (own : String) (idx : Nat), a_ML own idx yX12_goesOn cX12_goesOn 2 none 0 := fun _ _ => ⟨mcX12_goesOn, inX12, by decide +kernel, rfl⟩
theorem mmX12_waitsFor : ∀ (own : String) (idx : Nat), a_ML own idx yX12_waitsFor cX12_waitsFor 2 none 1 := fun _ _ => ⟨mcX12_waitsFor, inX12, by decide +kernel, rfl⟩
theorem mmX12_works : ∀ (own : String) (idx : Nat), a_ML own idx yX12_works cX12_works 2 none 1 := fun _ _ => ⟨mcX12_works, inX12, by decide +kernel, rfl⟩
theorem mmX12_clauseIsOver : ∀ (own : String) (idx : Nat), a_ML own idx yX12_clauseIsOver cX12_clauseIsOver 1 none 0 := fun _ _ => ⟨mcX12_clauseIsOver, inX12, by decide +kernel, rfl⟩
theorem mmX12_clause : ∀ (own : String) (idx : Nat), a_ML own idx yX12_clause cX12_clause 1 none 0 := fun _ _ => ⟨mcX12_clause, inX12, by decide +kernel, rfl⟩
theorem mmX12_wasTold : ∀ (own : String) (idx : Nat), a_ML own idx yX12_wasTold cX12_wasTold 4 (some FieldType.boolean) 1 := fun _ _ => ⟨mcX12_wasTold, inX12, by decide +kernel, rfl⟩
theorem mmX12_number : ∀ (own : String) (idx : Nat), a_ML own idx yX12_number cX12_number 4 (some FieldType.int) 2 := fun _ _ => ⟨mcX12_number, inX12, by decide +kernel, rfl⟩
theorem mmX12_weightOf : ∀ (own : String) (idx : Nat), a_ML own idx yX12_weightOf cX12_weightOf 6 (some FieldType.int) 2 := fun _ _ => ⟨mcX12_weightOf, inX12, by decide +kernel, rfl⟩
theorem mmX12_saysOf : ∀ (own : String) (idx : Nat), a_ML own idx yX12_saysOf cX12_saysOf 5 (some FieldType.int) 2 := fun _ _ => ⟨mcX12_saysOf, inX12, by decide +kernel, rfl⟩
theorem mmX12_worked : ∀ (own : String) (idx : Nat), a_ML own idx yX12_worked cX12_worked 4 (some FieldType.int) 3 := fun _ _ => ⟨mcX12_worked, inX12, by decide +kernel, rfl⟩
theorem mmX12_over : ∀ (own : String) (idx : Nat), a_ML own idx yX12_over cX12_over 4 (some FieldType.int) 2 := fun _ _ => ⟨mcX12_over, inX12, by decide +kernel, rfl⟩
theorem mmX12_holds : ∀ (own : String) (idx : Nat), a_ML own idx yX12_holds cX12_holds 7 (some FieldType.boolean) 2 := fun _ _ => ⟨mcX12_holds, inX12, by decide +kernel, rfl⟩
theorem mmX12_rowIs : ∀ (own : String) (idx : Nat), a_ML own idx yX12_rowIs cX12_rowIs 4 none 2 := fun _ _ => ⟨mcX12_rowIs, inX12, by decide +kernel, rfl⟩
theorem mmX12_laysWeights : ∀ (own : String) (idx : Nat), a_ML own idx yX12_laysWeights cX12_laysWeights 2 none 1 := fun _ _ => ⟨mcX12_laysWeights, inX12, by decide +kernel, rfl⟩
theorem mmX12_exchanges : ∀ (own : String) (idx : Nat), a_ML own idx yX12_exchanges cX12_exchanges 6 none 3 := fun _ _ => ⟨mcX12_exchanges, inX12, by decide +kernel, rfl⟩
theorem mmX12_isState : ∀ (own : String) (idx : Nat), a_ML own idx yX12_isState cX12_isState 2 (some FieldType.boolean) 1 := fun _ _ => ⟨mcX12_isState, inX12, by decide +kernel, rfl⟩
theorem mmX12_states : ∀ (own : String) (idx : Nat), a_ML own idx yX12_states cX12_states 1 (some FieldType.int) 0 := fun _ _ => ⟨mcX12_states, inX12, by decide +kernel, rfl⟩
theorem mmX12_actedIs : ∀ (own : String) (idx : Nat), a_ML own idx yX12_actedIs cX12_actedIs 3 none 1 := fun _ _ => ⟨mcX12_actedIs, inX12, by decide +kernel, rfl⟩
theorem mmX12_sums : ∀ (own : String) (idx : Nat), a_ML own idx yX12_sums cX12_sums 1 none 0 := fun _ _ => ⟨mcX12_sums, inX12, by decide +kernel, rfl⟩
theorem mmX12_sumsBy : ∀ (own : String) (idx : Nat), a_ML own idx yX12_sumsBy cX12_sumsBy 8 none 2 := fun _ _ => ⟨mcX12_sumsBy, inX12, by decide +kernel, rfl⟩
theorem mmX12_takesNext : ∀ (own : String) (idx : Nat), a_ML own idx yX12_takesNext cX12_takesNext 2 none 0 := fun _ _ => ⟨mcX12_takesNext, inX12, by decide +kernel, rfl⟩
theorem mmX12_tables : ∀ (own : String) (idx : Nat), a_ML own idx yX12_tables cX12_tables 5 none 1 := fun _ _ => ⟨mcX12_tables, inX12, by decide +kernel, rfl⟩
theorem mmX12_keepsOther : ∀ (own : String) (idx : Nat), a_ML own idx yX12_keepsOther cX12_keepsOther 2 none 0 := fun _ _ => ⟨mcX12_keepsOther, inX12, by decide +kernel, rfl⟩
theorem mmX12_isOther : ∀ (own : String) (idx : Nat), a_ML own idx yX12_isOther cX12_isOther 3 (some FieldType.boolean) 0 := fun _ _ => ⟨mcX12_isOther, inX12, by decide +kernel, rfl⟩
theorem mmX12_rootOf : ∀ (own : String) (idx : Nat), a_ML own idx yX12_rootOf cX12_rootOf 4 (some FieldType.int) 0 := fun _ _ => ⟨mcX12_rootOf, inX12, by decide +kernel, rfl⟩
theorem mmX12_isSector : ∀ (own : String) (idx : Nat), a_ML own idx yX12_isSector cX12_isSector 2 (some FieldType.boolean) 1 := fun _ _ => ⟨mcX12_isSector, inX12, by decide +kernel, rfl⟩
theorem mmX12_isTurn : ∀ (own : String) (idx : Nat), a_ML own idx yX12_isTurn cX12_isTurn 2 (some FieldType.boolean) 1 := fun _ _ => ⟨mcX12_isTurn, inX12, by decide +kernel, rfl⟩
theorem mmX12_laysSector : ∀ (own : String) (idx : Nat), a_ML own idx yX12_laysSector cX12_laysSector 3 none 1 := fun _ _ => ⟨mcX12_laysSector, inX12, by decide +kernel, rfl⟩
theorem mmX12_laysRounds : ∀ (own : String) (idx : Nat), a_ML own idx yX12_laysRounds cX12_laysRounds 4 none 2 := fun _ _ => ⟨mcX12_laysRounds, inX12, by decide +kernel, rfl⟩
theorem mmX12_leastOf : ∀ (own : String) (idx : Nat), a_ML own idx yX12_leastOf cX12_leastOf 4 (some FieldType.int) 1 := fun _ _ => ⟨mcX12_leastOf, inX12, by decide +kernel, rfl⟩
theorem mmX12_shifted : ∀ (own : String) (idx : Nat), a_ML own idx yX12_shifted cX12_shifted 2 (some FieldType.int) 1 := fun _ _ => ⟨mcX12_shifted, inX12, by decide +kernel, rfl⟩
theorem mmX12_roundOf : ∀ (own : String) (idx : Nat), a_ML own idx yX12_roundOf cX12_roundOf 4 (some FieldType.int) 1 := fun _ _ => ⟨mcX12_roundOf, inX12, by decide +kernel, rfl⟩
theorem mmX12_laysSquare : ∀ (own : String) (idx : Nat), a_ML own idx yX12_laysSquare cX12_laysSquare 6 none 3 := fun _ _ => ⟨mcX12_laysSquare, inX12, by decide +kernel, rfl⟩
theorem mmX12_laysTurn : ∀ (own : String) (idx : Nat), a_ML own idx yX12_laysTurn cX12_laysTurn 10 none 2 := fun _ _ => ⟨mcX12_laysTurn, inX12, by decide +kernel, rfl⟩
theorem mmX12_raised : ∀ (own : String) (idx : Nat), a_ML own idx yX12_raised cX12_raised 5 (some FieldType.int) 2 := fun _ _ => ⟨mcX12_raised, inX12, by decide +kernel, rfl⟩
theorem mmX12_left : ∀ (own : String) (idx : Nat), a_ML own idx yX12_left cX12_left 4 (some FieldType.int) 1 := fun _ _ => ⟨mcX12_left, inX12, by decide +kernel, rfl⟩
theorem mmX12_laysPoly : ∀ (own : String) (idx : Nat), a_ML own idx yX12_laysPoly cX12_laysPoly 7 none 0 := fun _ _ => ⟨mcX12_laysPoly, inX12, by decide +kernel, rfl⟩
theorem mmX12_bends : ∀ (own : String) (idx : Nat), a_ML own idx yX12_bends cX12_bends 6 none 0 := fun _ _ => ⟨mcX12_bends, inX12, by decide +kernel, rfl⟩
theorem mmX12_swaps : ∀ (own : String) (idx : Nat), a_ML own idx yX12_swaps cX12_swaps 5 none 2 := fun _ _ => ⟨mcX12_swaps, inX12, by decide +kernel, rfl⟩
theorem mmX12_adds : ∀ (own : String) (idx : Nat), a_ML own idx yX12_adds cX12_adds 5 none 3 := fun _ _ => ⟨mcX12_adds, inX12, by decide +kernel, rfl⟩
theorem mmX12_laysOwn : ∀ (own : String) (idx : Nat), a_ML own idx yX12_laysOwn cX12_laysOwn 4 none 3 := fun _ _ => ⟨mcX12_laysOwn, inX12, by decide +kernel, rfl⟩
theorem mmX12_oftenOf : ∀ (own : String) (idx : Nat), a_ML own idx yX12_oftenOf cX12_oftenOf 7 (some FieldType.int) 1 := fun _ _ => ⟨mcX12_oftenOf, inX12, by decide +kernel, rfl⟩
theorem mmX12_laysPair : ∀ (own : String) (idx : Nat), a_ML own idx yX12_laysPair cX12_laysPair 5 (some FieldType.boolean) 2 := fun _ _ => ⟨mcX12_laysPair, inX12, by decide +kernel, rfl⟩
theorem mmX12_isPair : ∀ (own : String) (idx : Nat), a_ML own idx yX12_isPair cX12_isPair 5 (some FieldType.boolean) 1 := fun _ _ => ⟨mcX12_isPair, inX12, by decide +kernel, rfl⟩
theorem mmX12_moves : ∀ (own : String) (idx : Nat), a_ML own idx yX12_moves cX12_moves 5 none 2 := fun _ _ => ⟨mcX12_moves, inX12, by decide +kernel, rfl⟩
theorem mmX12_laysPower : ∀ (own : String) (idx : Nat), a_ML own idx yX12_laysPower cX12_laysPower 4 none 1 := fun _ _ => ⟨mcX12_laysPower, inX12, by decide +kernel, rfl⟩
theorem mmX12_addsPower : ∀ (own : String) (idx : Nat), a_ML own idx yX12_addsPower cX12_addsPower 3 none 0 := fun _ _ => ⟨mcX12_addsPower, inX12, by decide +kernel, rfl⟩
theorem mmX12_canAct : ∀ (own : String) (idx : Nat), a_ML own idx yX12_canAct cX12_canAct 3 (some FieldType.boolean) 2 := fun _ _ => ⟨mcX12_canAct, inX12, by decide +kernel, rfl⟩
theorem mmX12_acts : ∀ (own : String) (idx : Nat), a_ML own idx yX12_acts cX12_acts 4 none 2 := fun _ _ => ⟨mcX12_acts, inX12, by decide +kernel, rfl⟩
theorem mmX12_cell : ∀ (own : String) (idx : Nat), a_ML own idx yX12_cell cX12_cell 2 (some FieldType.int) 1 := fun _ _ => ⟨mcX12_cell, inX12, by decide +kernel, rfl⟩
theorem mmX11_init : ∀ (own : String) (idx : Nat), a_ML own idx yX11_init cX11_init 4 none 1 := fun _ _ => ⟨mcX11_init, inX11, by decide +kernel, rfl⟩
theorem mmX10_init : ∀ (own : String) (idx : Nat), a_ML own idx yX10_init cX10_init 1 none 0 := fun _ _ => ⟨mcX10_init, inX10, by decide +kernel, rfl⟩
theorem mmX7_init : ∀ (own : String) (idx : Nat), a_ML own idx yX7_init cX7_init 1 none 0 := fun _ _ => ⟨mcX7_init, inX7, by decide +kernel, rfl⟩
theorem mmX5_init : ∀ (own : String) (idx : Nat), a_ML own idx yX5_init cX5_init 3 none 2 := fun _ _ => ⟨mcX5_init, inX5, by decide +kernel, rfl⟩
theorem mmX1_init : ∀ (own : String) (idx : Nat), a_ML own idx yX1_init cX1_init 1 none 0 := fun _ _ => ⟨mcX1_init, inX1, by decide +kernel, rfl⟩
theorem mmX6_init : ∀ (own : String) (idx : Nat), a_ML own idx yX6_init cX6_init 1 none 0 := fun _ _ => ⟨mcX6_init, inX6, by decide +kernel, rfl⟩
theorem mmX0_init : ∀ (own : String) (idx : Nat), a_ML own idx yX0_init cX0_init 1 none 0 := fun _ _ => ⟨mcX0_init, inX0, by decide +kernel, rfl⟩
theorem mmX8_init : ∀ (own : String) (idx : Nat), a_ML own idx yX8_init cX8_init 2 none 1 := fun _ _ => ⟨mcX8_init, inX8, by decide +kernel, rfl⟩
theorem mmX4_init : ∀ (own : String) (idx : Nat), a_ML own idx yX4_init cX4_init 2 none 1 := fun _ _ => ⟨mcX4_init, inX4, by decide +kernel, rfl⟩
theorem mmX3_init : ∀ (own : String) (idx : Nat), a_ML own idx yX3_init cX3_init 1 none 0 := fun _ _ => ⟨mcX3_init, inX3, by decide +kernel, rfl⟩
theorem mmJ9_min_7cf53 : ∀ (own : String) (idx : Nat), a_ML own idx yJ9_min_7cf53 cJ9_min_7cf53 2 (some FieldType.int) 2 := fun _ _ => ⟨mcJ9_min_7cf53, inJ9, by decide +kernel, rfl⟩
theorem mmJ9_max_7cf53 : ∀ (own : String) (idx : Nat), a_ML own idx yJ9_max_7cf53 cJ9_max_7cf53 2 (some FieldType.int) 2 := fun _ _ => ⟨mcJ9_max_7cf53, inJ9, by decide +kernel, rfl⟩
theorem mmX9_init : ∀ (own : String) (idx : Nat), a_ML own idx yX9_init cX9_init 2 none 1 := fun _ _ => ⟨mcX9_init, inX9, by decide +kernel, rfl⟩
theorem mmX2_init : ∀ (own : String) (idx : Nat), a_ML own idx yX2_init cX2_init 1 none 0 := fun _ _ => ⟨mcX2_init, inX2, by decide +kernel, rfl⟩
theorem mmX11_chain : ∀ (own : String) (idx : Nat), a_ML own idx yX11_chain cX11_chain 3 (some FieldType.boolean) 2 := fun _ _ => ⟨mcX11_chain, inX11, by decide +kernel, rfl⟩
theorem mmX2_restart : ∀ (own : String) (idx : Nat), a_ML own idx yX2_restart cX2_restart 1 none 0 := fun _ _ => ⟨mcX2_restart, inX2, by decide +kernel, rfl⟩
theorem mmX11_clear : ∀ (own : String) (idx : Nat), a_ML own idx yX11_clear cX11_clear 2 none 1 := fun _ _ => ⟨mcX11_clear, inX11, by decide +kernel, rfl⟩
theorem mmX11_prime : ∀ (own : String) (idx : Nat), a_ML own idx yX11_prime cX11_prime 3 (some FieldType.boolean) 1 := fun _ _ => ⟨mcX11_prime, inX11, by decide +kernel, rfl⟩
theorem mmX11_isPrime : ∀ (own : String) (idx : Nat), a_ML own idx yX11_isPrime cX11_isPrime 2 (some FieldType.boolean) 1 := fun _ _ => ⟨mcX11_isPrime, inX11, by decide +kernel, rfl⟩
theorem mmX11_left : ∀ (own : String) (idx : Nat), a_ML own idx yX11_left cX11_left 3 (some FieldType.int) 2 := fun _ _ => ⟨mcX11_left, inX11, by decide +kernel, rfl⟩
theorem mmX2_takeBy : ∀ (own : String) (idx : Nat), a_ML own idx yX2_takeBy cX2_takeBy 5 none 1 := fun _ _ => ⟨mcX2_takeBy, inX2, by decide +kernel, rfl⟩
theorem mmJ9_floorMod_7cf53 : ∀ (own : String) (idx : Nat), a_ML own idx yJ9_floorMod_7cf53 cJ9_floorMod_7cf53 3 (some FieldType.int) 2 := fun _ _ => ⟨mcJ9_floorMod_7cf53, inJ9, by decide +kernel, rfl⟩
theorem mmX11_numbers : ∀ (own : String) (idx : Nat), a_ML own idx yX11_numbers cX11_numbers 4 (some FieldType.boolean) 2 := fun _ _ => ⟨mcX11_numbers, inX11, by decide +kernel, rfl⟩
theorem mmX6_isNumber : ∀ (own : String) (idx : Nat), a_ML own idx yX6_isNumber cX6_isNumber 2 (some FieldType.boolean) 1 := fun _ _ => ⟨mcX6_isNumber, inX6, by decide +kernel, rfl⟩
theorem mmX11_feed : ∀ (own : String) (idx : Nat), a_ML own idx yX11_feed cX11_feed 6 (some FieldType.int) 5 := fun _ _ => ⟨mcX11_feed, inX11, by decide +kernel, rfl⟩
theorem mmX10_add : ∀ (own : String) (idx : Nat), a_ML own idx yX10_add cX10_add 3 none 1 := fun _ _ => ⟨mcX10_add, inX10, by decide +kernel, rfl⟩
theorem mmX11_end : ∀ (own : String) (idx : Nat), a_ML own idx yX11_end cX11_end 2 (some FieldType.int) 1 := fun _ _ => ⟨mcX11_end, inX11, by decide +kernel, rfl⟩
theorem mmX11_text : ∀ (own : String) (idx : Nat), a_ML own idx yX11_text cX11_text 3 (some FieldType.int) 0 := fun _ _ => ⟨mcX11_text, inX11, by decide +kernel, rfl⟩
theorem mmX5_readInto : ∀ (own : String) (idx : Nat), a_ML own idx yX5_readInto cX5_readInto 4 (some FieldType.boolean) 1 := fun _ _ => ⟨mcX5_readInto, inX5, by decide +kernel, rfl⟩
theorem mmX7_restart : ∀ (own : String) (idx : Nat), a_ML own idx yX7_restart cX7_restart 3 none 1 := fun _ _ => ⟨mcX7_restart, inX7, by decide +kernel, rfl⟩
theorem mmX10_split : ∀ (own : String) (idx : Nat), a_ML own idx yX10_split cX10_split 4 none 0 := fun _ _ => ⟨mcX10_split, inX10, by decide +kernel, rfl⟩
theorem mmX10_sortOf : ∀ (own : String) (idx : Nat), a_ML own idx yX10_sortOf cX10_sortOf 1 (some FieldType.int) 1 := fun _ _ => ⟨mcX10_sortOf, inX10, by decide +kernel, rfl⟩
theorem mmX10_letterWord : ∀ (own : String) (idx : Nat), a_ML own idx yX10_letterWord cX10_letterWord 1 (some FieldType.int) 1 := fun _ _ => ⟨mcX10_letterWord, inX10, by decide +kernel, rfl⟩
theorem mmJ0_length_8abf5 : ∀ (own : String) (idx : Nat), a_ML own idx yJ0_length_8abf5 cJ0_length_8abf5 1 (some FieldType.int) 0 := fun _ _ => ⟨mcJ0_length_8abf5, inJ0, by decide +kernel, rfl⟩
theorem mmJ0_coder_7d493 : ∀ (own : String) (idx : Nat), a_ML own idx yJ0_coder_7d493 cJ0_coder_7d493 1 (some FieldType.byte) 0 := fun _ _ => ⟨mcJ0_coder_7d493, inJ0, by decide +kernel, rfl⟩
theorem mmJ0_charAt_5068e : ∀ (own : String) (idx : Nat), a_ML own idx yJ0_charAt_5068e cJ0_charAt_5068e 2 (some FieldType.char) 1 := fun _ _ => ⟨mcJ0_charAt_5068e, inJ0, by decide +kernel, rfl⟩
theorem mmJ0_isLatin1_aae02 : ∀ (own : String) (idx : Nat), a_ML own idx yJ0_isLatin1_aae02 cJ0_isLatin1_aae02 1 (some FieldType.boolean) 0 := fun _ _ => ⟨mcJ0_isLatin1_aae02, inJ0, by decide +kernel, rfl⟩
theorem mmJ1_charAt_3b067 : ∀ (own : String) (idx : Nat), a_ML own idx yJ1_charAt_3b067 cJ1_charAt_3b067 2 (some FieldType.char) 2 := fun _ _ => ⟨mcJ1_charAt_3b067, inJ1, by decide +kernel, rfl⟩
theorem mmJ0_checkIndex_df160 : ∀ (own : String) (idx : Nat), a_ML own idx yJ0_checkIndex_df160 cJ0_checkIndex_df160 2 none 2 := fun _ _ => ⟨mcJ0_checkIndex_df160, inJ0, by decide +kernel, rfl⟩
theorem mmJ3_checkIndex_8e157 : ∀ (own : String) (idx : Nat), a_ML own idx yJ3_checkIndex_8e157 cJ3_checkIndex_8e157 3 (some FieldType.int) 3 := fun _ _ => ⟨mcJ3_checkIndex_8e157, inJ3, by decide +kernel, rfl⟩
theorem mmJ2_charAt_3b067 : ∀ (own : String) (idx : Nat), a_ML own idx yJ2_charAt_3b067 cJ2_charAt_3b067 2 (some FieldType.char) 2 := fun _ _ => ⟨mcJ2_charAt_3b067, inJ2, by decide +kernel, rfl⟩
theorem mmJ2_checkIndex_2214a : ∀ (own : String) (idx : Nat), a_ML own idx yJ2_checkIndex_2214a cJ2_checkIndex_2214a 2 none 2 := fun _ _ => ⟨mcJ2_checkIndex_2214a, inJ2, by decide +kernel, rfl⟩
theorem mmJ2_length_9d52b : ∀ (own : String) (idx : Nat), a_ML own idx yJ2_length_9d52b cJ2_length_9d52b 1 (some FieldType.int) 1 := fun _ _ => ⟨mcJ2_length_9d52b, inJ2, by decide +kernel, rfl⟩
theorem mmJ2_getChar_3b067 : ∀ (own : String) (idx : Nat), a_ML own idx yJ2_getChar_3b067 cJ2_getChar_3b067 2 (some FieldType.char) 2 := fun _ _ => ⟨mcJ2_getChar_3b067, inJ2, by decide +kernel, rfl⟩
theorem mmX7_hasWeight : ∀ (own : String) (idx : Nat), a_ML own idx yX7_hasWeight cX7_hasWeight 2 (some FieldType.boolean) 1 := fun _ _ => ⟨mcX7_hasWeight, inX7, by decide +kernel, rfl⟩
theorem mmX7_open : ∀ (own : String) (idx : Nat), a_ML own idx yX7_open cX7_open 2 none 1 := fun _ _ => ⟨mcX7_open, inX7, by decide +kernel, rfl⟩
theorem mmX7_add : ∀ (own : String) (idx : Nat), a_ML own idx yX7_add cX7_add 3 none 1 := fun _ _ => ⟨mcX7_add, inX7, by decide +kernel, rfl⟩
theorem mmX10_start : ∀ (own : String) (idx : Nat), a_ML own idx yX10_start cX10_start 2 (some FieldType.int) 1 := fun _ _ => ⟨mcX10_start, inX10, by decide +kernel, rfl⟩
theorem mmX11_fault : ∀ (own : String) (idx : Nat), a_ML own idx yX11_fault cX11_fault 2 (some FieldType.int) 1 := fun _ _ => ⟨mcX11_fault, inX11, by decide +kernel, rfl⟩
theorem mmX5_hasRead : ∀ (own : String) (idx : Nat), a_ML own idx yX5_hasRead cX5_hasRead 1 (some FieldType.boolean) 0 := fun _ _ => ⟨mcX5_hasRead, inX5, by decide +kernel, rfl⟩
theorem mmX11_by : ∀ (own : String) (idx : Nat), a_ML own idx yX11_by cX11_by 2 (some FieldType.boolean) 1 := fun _ _ => ⟨mcX11_by, inX11, by decide +kernel, rfl⟩
theorem mmX11_weight : ∀ (own : String) (idx : Nat), a_ML own idx yX11_weight cX11_weight 3 (some FieldType.int) 2 := fun _ _ => ⟨mcX11_weight, inX11, by decide +kernel, rfl⟩
theorem mmX7_worth : ∀ (own : String) (idx : Nat), a_ML own idx yX7_worth cX7_worth 4 (some FieldType.int) 3 := fun _ _ => ⟨mcX7_worth, inX7, by decide +kernel, rfl⟩
theorem mmX7_named : ∀ (own : String) (idx : Nat), a_ML own idx yX7_named cX7_named 3 (some FieldType.int) 3 := fun _ _ => ⟨mcX7_named, inX7, by decide +kernel, rfl⟩
theorem mmX7_joined : ∀ (own : String) (idx : Nat), a_ML own idx yX7_joined cX7_joined 4 (some FieldType.int) 4 := fun _ _ => ⟨mcX7_joined, inX7, by decide +kernel, rfl⟩
theorem mmX11_raised : ∀ (own : String) (idx : Nat), a_ML own idx yX11_raised cX11_raised 6 (some FieldType.int) 3 := fun _ _ => ⟨mcX11_raised, inX11, by decide +kernel, rfl⟩
theorem mmX11_equation : ∀ (own : String) (idx : Nat), a_ML own idx yX11_equation cX11_equation 2 (some FieldType.int) 1 := fun _ _ => ⟨mcX11_equation, inX11, by decide +kernel, rfl⟩
theorem mmX1_look : ∀ (own : String) (idx : Nat), a_ML own idx yX1_look cX1_look 4 none 2 := fun _ _ => ⟨mcX1_look, inX1, by decide +kernel, rfl⟩
theorem mmX6_isLike : ∀ (own : String) (idx : Nat), a_ML own idx yX6_isLike cX6_isLike 2 (some FieldType.boolean) 1 := fun _ _ => ⟨mcX6_isLike, inX6, by decide +kernel, rfl⟩
theorem mmX6_copyFrom : ∀ (own : String) (idx : Nat), a_ML own idx yX6_copyFrom cX6_copyFrom 2 none 1 := fun _ _ => ⟨mcX6_copyFrom, inX6, by decide +kernel, rfl⟩
theorem mmX1_askAllPairs : ∀ (own : String) (idx : Nat), a_ML own idx yX1_askAllPairs cX1_askAllPairs 3 none 0 := fun _ _ => ⟨mcX1_askAllPairs, inX1, by decide +kernel, rfl⟩
theorem mmX11_sum : ∀ (own : String) (idx : Nat), a_ML own idx yX11_sum cX11_sum 4 (some FieldType.int) 2 := fun _ _ => ⟨mcX11_sum, inX11, by decide +kernel, rfl⟩
theorem mmX6_isState : ∀ (own : String) (idx : Nat), a_ML own idx yX6_isState cX6_isState 2 (some FieldType.boolean) 1 := fun _ _ => ⟨mcX6_isState, inX6, by decide +kernel, rfl⟩
theorem mmX6_states : ∀ (own : String) (idx : Nat), a_ML own idx yX6_states cX6_states 1 (some FieldType.int) 0 := fun _ _ => ⟨mcX6_states, inX6, by decide +kernel, rfl⟩
theorem mmX6_sumBetween : ∀ (own : String) (idx : Nat), a_ML own idx yX6_sumBetween cX6_sumBetween 7 (some FieldType.int) 2 := fun _ _ => ⟨mcX6_sumBetween, inX6, by decide +kernel, rfl⟩
theorem mmX6_bonds : ∀ (own : String) (idx : Nat), a_ML own idx yX6_bonds cX6_bonds 1 (some FieldType.int) 0 := fun _ _ => ⟨mcX6_bonds, inX6, by decide +kernel, rfl⟩
theorem mmX6_bond : ∀ (own : String) (idx : Nat), a_ML own idx yX6_bond cX6_bond 2 (some FieldType.int) 1 := fun _ _ => ⟨mcX6_bond, inX6, by decide +kernel, rfl⟩
theorem mmX6_areAlike : ∀ (own : String) (idx : Nat), a_ML own idx yX6_areAlike cX6_areAlike 3 (some FieldType.boolean) 2 := fun _ _ => ⟨mcX6_areAlike, inX6, by decide +kernel, rfl⟩
theorem mmX11_table : ∀ (own : String) (idx : Nat), a_ML own idx yX11_table cX11_table 5 (some FieldType.int) 3 := fun _ _ => ⟨mcX11_table, inX11, by decide +kernel, rfl⟩
theorem mmX1_tableBetween : ∀ (own : String) (idx : Nat), a_ML own idx yX1_tableBetween cX1_tableBetween 4 (some FieldType.int) 3 := fun _ _ => ⟨mcX1_tableBetween, inX1, by decide +kernel, rfl⟩
theorem mmJ6_bitCount_0f7a4 : ∀ (own : String) (idx : Nat), a_ML own idx yJ6_bitCount_0f7a4 cJ6_bitCount_0f7a4 1 (some FieldType.int) 1 := fun _ _ => ⟨mcJ6_bitCount_0f7a4, inJ6, by decide +kernel, rfl⟩
theorem mmX11_commute : ∀ (own : String) (idx : Nat), a_ML own idx yX11_commute cX11_commute 4 (some FieldType.boolean) 2 := fun _ _ => ⟨mcX11_commute, inX11, by decide +kernel, rfl⟩
theorem mmX0_gather : ∀ (own : String) (idx : Nat), a_ML own idx yX0_gather cX0_gather 6 none 3 := fun _ _ => ⟨mcX0_gather, inX0, by decide +kernel, rfl⟩
theorem mmX6_leastRoot : ∀ (own : String) (idx : Nat), a_ML own idx yX6_leastRoot cX6_leastRoot 2 (some FieldType.int) 0 := fun _ _ => ⟨mcX6_leastRoot, inX6, by decide +kernel, rfl⟩
theorem mmX6_shifted : ∀ (own : String) (idx : Nat), a_ML own idx yX6_shifted cX6_shifted 2 (some FieldType.int) 1 := fun _ _ => ⟨mcX6_shifted, inX6, by decide +kernel, rfl⟩
theorem mmX4_fillTable : ∀ (own : String) (idx : Nat), a_ML own idx yX4_fillTable cX4_fillTable 7 none 3 := fun _ _ => ⟨mcX4_fillTable, inX4, by decide +kernel, rfl⟩
theorem mmX0_head : ∀ (own : String) (idx : Nat), a_ML own idx yX0_head cX0_head 2 (some FieldType.int) 1 := fun _ _ => ⟨mcX0_head, inX0, by decide +kernel, rfl⟩
theorem mmX0_fillSum : ∀ (own : String) (idx : Nat), a_ML own idx yX0_fillSum cX0_fillSum 9 none 2 := fun _ _ => ⟨mcX0_fillSum, inX0, by decide +kernel, rfl⟩
theorem mmX4_agree : ∀ (own : String) (idx : Nat), a_ML own idx yX4_agree cX4_agree 7 (some FieldType.boolean) 1 := fun _ _ => ⟨mcX4_agree, inX4, by decide +kernel, rfl⟩
theorem mmX11_keeps : ∀ (own : String) (idx : Nat), a_ML own idx yX11_keeps cX11_keeps 2 (some FieldType.boolean) 1 := fun _ _ => ⟨mcX11_keeps, inX11, by decide +kernel, rfl⟩
theorem mmX11_size : ∀ (own : String) (idx : Nat), a_ML own idx yX11_size cX11_size 3 (some FieldType.int) 2 := fun _ _ => ⟨mcX11_size, inX11, by decide +kernel, rfl⟩
theorem mmX6_isCount : ∀ (own : String) (idx : Nat), a_ML own idx yX6_isCount cX6_isCount 2 (some FieldType.boolean) 1 := fun _ _ => ⟨mcX6_isCount, inX6, by decide +kernel, rfl⟩
theorem mmX11_trace : ∀ (own : String) (idx : Nat), a_ML own idx yX11_trace cX11_trace 3 (some FieldType.int) 2 := fun _ _ => ⟨mcX11_trace, inX11, by decide +kernel, rfl⟩
theorem mmX8_look : ∀ (own : String) (idx : Nat), a_ML own idx yX8_look cX8_look 4 none 3 := fun _ _ => ⟨mcX8_look, inX8, by decide +kernel, rfl⟩
theorem mmX11_over : ∀ (own : String) (idx : Nat), a_ML own idx yX11_over cX11_over 3 (some FieldType.int) 3 := fun _ _ => ⟨mcX11_over, inX11, by decide +kernel, rfl⟩
theorem mmX8_traceOf : ∀ (own : String) (idx : Nat), a_ML own idx yX8_traceOf cX8_traceOf 5 (some FieldType.int) 1 := fun _ _ => ⟨mcX8_traceOf, inX8, by decide +kernel, rfl⟩
theorem mmX11_poly : ∀ (own : String) (idx : Nat), a_ML own idx yX11_poly cX11_poly 4 (some FieldType.int) 3 := fun _ _ => ⟨mcX11_poly, inX11, by decide +kernel, rfl⟩
theorem mmX11_own : ∀ (own : String) (idx : Nat), a_ML own idx yX11_own cX11_own 3 (some FieldType.int) 2 := fun _ _ => ⟨mcX11_own, inX11, by decide +kernel, rfl⟩
theorem mmX8_howManyOwn : ∀ (own : String) (idx : Nat), a_ML own idx yX8_howManyOwn cX8_howManyOwn 3 (some FieldType.int) 0 := fun _ _ => ⟨mcX8_howManyOwn, inX8, by decide +kernel, rfl⟩
theorem mmX8_valueAt : ∀ (own : String) (idx : Nat), a_ML own idx yX8_valueAt cX8_valueAt 4 (some FieldType.int) 1 := fun _ _ => ⟨mcX8_valueAt, inX8, by decide +kernel, rfl⟩
theorem mmX8_ownAt : ∀ (own : String) (idx : Nat), a_ML own idx yX8_ownAt cX8_ownAt 4 (some FieldType.int) 1 := fun _ _ => ⟨mcX8_ownAt, inX8, by decide +kernel, rfl⟩
theorem mmX11_often : ∀ (own : String) (idx : Nat), a_ML own idx yX11_often cX11_often 3 (some FieldType.int) 2 := fun _ _ => ⟨mcX11_often, inX11, by decide +kernel, rfl⟩
theorem mmX8_howOften : ∀ (own : String) (idx : Nat), a_ML own idx yX8_howOften cX8_howOften 3 (some FieldType.int) 1 := fun _ _ => ⟨mcX8_howOften, inX8, by decide +kernel, rfl⟩
theorem mmX11_root : ∀ (own : String) (idx : Nat), a_ML own idx yX11_root cX11_root 1 (some FieldType.int) 0 := fun _ _ => ⟨mcX11_root, inX11, by decide +kernel, rfl⟩
theorem mmX11_mean : ∀ (own : String) (idx : Nat), a_ML own idx yX11_mean cX11_mean 6 (some FieldType.int) 2 := fun _ _ => ⟨mcX11_mean, inX11, by decide +kernel, rfl⟩
theorem mmX6_alikeAt : ∀ (own : String) (idx : Nat), a_ML own idx yX6_alikeAt cX6_alikeAt 6 (some FieldType.int) 2 := fun _ _ => ⟨mcX6_alikeAt, inX6, by decide +kernel, rfl⟩
theorem mmX11_pair : ∀ (own : String) (idx : Nat), a_ML own idx yX11_pair cX11_pair 5 (some FieldType.int) 3 := fun _ _ => ⟨mcX11_pair, inX11, by decide +kernel, rfl⟩
theorem mmX3_howMany : ∀ (own : String) (idx : Nat), a_ML own idx yX3_howMany cX3_howMany 5 (some FieldType.int) 2 := fun _ _ => ⟨mcX3_howMany, inX3, by decide +kernel, rfl⟩
theorem mmX3_find : ∀ (own : String) (idx : Nat), a_ML own idx yX3_find cX3_find 7 (some FieldType.boolean) 3 := fun _ _ => ⟨mcX3_find, inX3, by decide +kernel, rfl⟩
theorem mmX3_energy : ∀ (own : String) (idx : Nat), a_ML own idx yX3_energy cX3_energy 2 (some FieldType.int) 1 := fun _ _ => ⟨mcX3_energy, inX3, by decide +kernel, rfl⟩
theorem mmX3_move : ∀ (own : String) (idx : Nat), a_ML own idx yX3_move cX3_move 2 (some FieldType.int) 1 := fun _ _ => ⟨mcX3_move, inX3, by decide +kernel, rfl⟩
theorem mmX11_set : ∀ (own : String) (idx : Nat), a_ML own idx yX11_set cX11_set 2 (some FieldType.boolean) 1 := fun _ _ => ⟨mcX11_set, inX11, by decide +kernel, rfl⟩
theorem mmX2_vector : ∀ (own : String) (idx : Nat), a_ML own idx yX2_vector cX2_vector 1 (some (FieldType.array FieldType.int)) 0 := fun _ _ => ⟨mcX2_vector, inX2, by decide +kernel, rfl⟩
theorem mmX11_act : ∀ (own : String) (idx : Nat), a_ML own idx yX11_act cX11_act 3 (some FieldType.boolean) 2 := fun _ _ => ⟨mcX11_act, inX11, by decide +kernel, rfl⟩
theorem mmX2_open : ∀ (own : String) (idx : Nat), a_ML own idx yX2_open cX2_open 1 none 0 := fun _ _ => ⟨mcX2_open, inX2, by decide +kernel, rfl⟩
theorem mmX2_earlier : ∀ (own : String) (idx : Nat), a_ML own idx yX2_earlier cX2_earlier 1 (some (FieldType.array FieldType.int)) 0 := fun _ _ => ⟨mcX2_earlier, inX2, by decide +kernel, rfl⟩
theorem mmX6_shiftOver : ∀ (own : String) (idx : Nat), a_ML own idx yX6_shiftOver cX6_shiftOver 4 none 2 := fun _ _ => ⟨mcX6_shiftOver, inX6, by decide +kernel, rfl⟩
theorem mmX6_turnOver : ∀ (own : String) (idx : Nat), a_ML own idx yX6_turnOver cX6_turnOver 5 none 3 := fun _ _ => ⟨mcX6_turnOver, inX6, by decide +kernel, rfl⟩
theorem mmX6_sumOver : ∀ (own : String) (idx : Nat), a_ML own idx yX6_sumOver cX6_sumOver 4 none 2 := fun _ _ => ⟨mcX6_sumOver, inX6, by decide +kernel, rfl⟩
theorem mmX1_tableOver : ∀ (own : String) (idx : Nat), a_ML own idx yX1_tableOver cX1_tableOver 7 none 3 := fun _ _ => ⟨mcX1_tableOver, inX1, by decide +kernel, rfl⟩
theorem mmX11_played : ∀ (own : String) (idx : Nat), a_ML own idx yX11_played cX11_played 5 (some FieldType.int) 1 := fun _ _ => ⟨mcX11_played, inX11, by decide +kernel, rfl⟩
theorem mmX7_kindOf : ∀ (own : String) (idx : Nat), a_ML own idx yX7_kindOf cX7_kindOf 2 (some FieldType.int) 1 := fun _ _ => ⟨mcX7_kindOf, inX7, by decide +kernel, rfl⟩
theorem mmX7_argument : ∀ (own : String) (idx : Nat), a_ML own idx yX7_argument cX7_argument 4 (some FieldType.int) 2 := fun _ _ => ⟨mcX7_argument, inX7, by decide +kernel, rfl⟩
theorem mmX11_undo : ∀ (own : String) (idx : Nat), a_ML own idx yX11_undo cX11_undo 2 (some FieldType.int) 0 := fun _ _ => ⟨mcX11_undo, inX11, by decide +kernel, rfl⟩
theorem mmX11_redo : ∀ (own : String) (idx : Nat), a_ML own idx yX11_redo cX11_redo 2 (some FieldType.int) 0 := fun _ _ => ⟨mcX11_redo, inX11, by decide +kernel, rfl⟩
theorem mmX11_at : ∀ (own : String) (idx : Nat), a_ML own idx yX11_at cX11_at 2 (some FieldType.int) 1 := fun _ _ => ⟨mcX11_at, inX11, by decide +kernel, rfl⟩
theorem mmX11_norm : ∀ (own : String) (idx : Nat), a_ML own idx yX11_norm cX11_norm 4 (some FieldType.int) 0 := fun _ _ => ⟨mcX11_norm, inX11, by decide +kernel, rfl⟩
theorem mmX11_power : ∀ (own : String) (idx : Nat), a_ML own idx yX11_power cX11_power 6 (some FieldType.int) 3 := fun _ _ => ⟨mcX11_power, inX11, by decide +kernel, rfl⟩
theorem mmX11_image : ∀ (own : String) (idx : Nat), a_ML own idx yX11_image cX11_image 1 (some FieldType.int) 0 := fun _ _ => ⟨mcX11_image, inX11, by decide +kernel, rfl⟩
theorem mmX9_copyFrom : ∀ (own : String) (idx : Nat), a_ML own idx yX9_copyFrom cX9_copyFrom 2 none 1 := fun _ _ => ⟨mcX9_copyFrom, inX9, by decide +kernel, rfl⟩
theorem mmX2_copyFrom : ∀ (own : String) (idx : Nat), a_ML own idx yX2_copyFrom cX2_copyFrom 3 none 1 := fun _ _ => ⟨mcX2_copyFrom, inX2, by decide +kernel, rfl⟩
theorem mmX11_back : ∀ (own : String) (idx : Nat), a_ML own idx yX11_back cX11_back 1 (some FieldType.int) 0 := fun _ _ => ⟨mcX11_back, inX11, by decide +kernel, rfl⟩
theorem mmX11_about : ∀ (own : String) (idx : Nat), a_ML own idx yX11_about cX11_about 2 (some FieldType.int) 1 := fun _ _ => ⟨mcX11_about, inX11, by decide +kernel, rfl⟩
theorem mmL_cell : ∀ (own : String) (idx : Nat), a_ML own idx yL_cell cL_cell 2 (some FieldType.int) 2 := fun _ _ => ⟨mcL_cell, inL, by decide +kernel, rfl⟩
theorem mmX12_init : ∀ (own : String) (idx : Nat), a_ML own idx yX12_init cX12_init 2 none 1 := fun _ _ => ⟨mcX12_init, inX12, by decide +kernel, rfl⟩
theorem mmX12_chain : ∀ (own : String) (idx : Nat), a_ML own idx yX12_chain cX12_chain 4 (some FieldType.boolean) 2 := fun _ _ => ⟨mcX12_chain, inX12, by decide +kernel, rfl⟩
theorem mmX12_in : ∀ (own : String) (idx : Nat), a_ML own idx yX12_in cX12_in 3 (some FieldType.boolean) 3 := fun _ _ => ⟨mcX12_in, inX12, by decide +kernel, rfl⟩
theorem mmX12_prime : ∀ (own : String) (idx : Nat), a_ML own idx yX12_prime cX12_prime 4 (some FieldType.boolean) 1 := fun _ _ => ⟨mcX12_prime, inX12, by decide +kernel, rfl⟩
theorem mmX12_numbers : ∀ (own : String) (idx : Nat), a_ML own idx yX12_numbers cX12_numbers 3 (some FieldType.boolean) 2 := fun _ _ => ⟨mcX12_numbers, inX12, by decide +kernel, rfl⟩
theorem mmX12_feed : ∀ (own : String) (idx : Nat), a_ML own idx yX12_feed cX12_feed 6 (some FieldType.int) 5 := fun _ _ => ⟨mcX12_feed, inX12, by decide +kernel, rfl⟩
theorem mmX12_end : ∀ (own : String) (idx : Nat), a_ML own idx yX12_end cX12_end 2 (some FieldType.int) 1 := fun _ _ => ⟨mcX12_end, inX12, by decide +kernel, rfl⟩
theorem mmX12_text : ∀ (own : String) (idx : Nat), a_ML own idx yX12_text cX12_text 3 (some FieldType.int) 0 := fun _ _ => ⟨mcX12_text, inX12, by decide +kernel, rfl⟩
theorem mmX12_isLetter : ∀ (own : String) (idx : Nat), a_ML own idx yX12_isLetter cX12_isLetter 1 (some FieldType.boolean) 1 := fun _ _ => ⟨mcX12_isLetter, inX12, by decide +kernel, rfl⟩
theorem mmX12_wordOf : ∀ (own : String) (idx : Nat), a_ML own idx yX12_wordOf cX12_wordOf 2 (some FieldType.int) 1 := fun _ _ => ⟨mcX12_wordOf, inX12, by decide +kernel, rfl⟩
theorem mmX12_rank : ∀ (own : String) (idx : Nat), a_ML own idx yX12_rank cX12_rank 1 (some FieldType.int) 1 := fun _ _ => ⟨mcX12_rank, inX12, by decide +kernel, rfl⟩
theorem mmX12_fault : ∀ (own : String) (idx : Nat), a_ML own idx yX12_fault cX12_fault 2 (some FieldType.int) 1 := fun _ _ => ⟨mcX12_fault, inX12, by decide +kernel, rfl⟩
theorem mmX12_by : ∀ (own : String) (idx : Nat), a_ML own idx yX12_by cX12_by 2 (some FieldType.boolean) 1 := fun _ _ => ⟨mcX12_by, inX12, by decide +kernel, rfl⟩
theorem mmX12_weight : ∀ (own : String) (idx : Nat), a_ML own idx yX12_weight cX12_weight 3 (some FieldType.int) 2 := fun _ _ => ⟨mcX12_weight, inX12, by decide +kernel, rfl⟩
theorem mmX12_equation : ∀ (own : String) (idx : Nat), a_ML own idx yX12_equation cX12_equation 7 (some FieldType.int) 1 := fun _ _ => ⟨mcX12_equation, inX12, by decide +kernel, rfl⟩
theorem mmX12_sum : ∀ (own : String) (idx : Nat), a_ML own idx yX12_sum cX12_sum 3 (some FieldType.int) 2 := fun _ _ => ⟨mcX12_sum, inX12, by decide +kernel, rfl⟩
theorem mmX12_table : ∀ (own : String) (idx : Nat), a_ML own idx yX12_table cX12_table 4 (some FieldType.int) 3 := fun _ _ => ⟨mcX12_table, inX12, by decide +kernel, rfl⟩
theorem mmX12_commute : ∀ (own : String) (idx : Nat), a_ML own idx yX12_commute cX12_commute 5 (some FieldType.boolean) 2 := fun _ _ => ⟨mcX12_commute, inX12, by decide +kernel, rfl⟩
theorem mmX12_keeps : ∀ (own : String) (idx : Nat), a_ML own idx yX12_keeps cX12_keeps 4 (some FieldType.boolean) 1 := fun _ _ => ⟨mcX12_keeps, inX12, by decide +kernel, rfl⟩
theorem mmX12_root : ∀ (own : String) (idx : Nat), a_ML own idx yX12_root cX12_root 1 (some FieldType.int) 0 := fun _ _ => ⟨mcX12_root, inX12, by decide +kernel, rfl⟩
theorem mmX12_size : ∀ (own : String) (idx : Nat), a_ML own idx yX12_size cX12_size 3 (some FieldType.int) 2 := fun _ _ => ⟨mcX12_size, inX12, by decide +kernel, rfl⟩
theorem mmX12_count : ∀ (own : String) (idx : Nat), a_ML own idx yX12_count cX12_count 3 (some FieldType.int) 1 := fun _ _ => ⟨mcX12_count, inX12, by decide +kernel, rfl⟩
theorem mmX12_trace : ∀ (own : String) (idx : Nat), a_ML own idx yX12_trace cX12_trace 6 (some FieldType.int) 2 := fun _ _ => ⟨mcX12_trace, inX12, by decide +kernel, rfl⟩
theorem mmX12_poly : ∀ (own : String) (idx : Nat), a_ML own idx yX12_poly cX12_poly 4 (some FieldType.int) 3 := fun _ _ => ⟨mcX12_poly, inX12, by decide +kernel, rfl⟩
theorem mmX12_own : ∀ (own : String) (idx : Nat), a_ML own idx yX12_own cX12_own 5 (some FieldType.int) 2 := fun _ _ => ⟨mcX12_own, inX12, by decide +kernel, rfl⟩
theorem mmX12_often : ∀ (own : String) (idx : Nat), a_ML own idx yX12_often cX12_often 3 (some FieldType.int) 2 := fun _ _ => ⟨mcX12_often, inX12, by decide +kernel, rfl⟩
theorem mmX12_mean : ∀ (own : String) (idx : Nat), a_ML own idx yX12_mean cX12_mean 6 (some FieldType.int) 2 := fun _ _ => ⟨mcX12_mean, inX12, by decide +kernel, rfl⟩
theorem mmX12_pair : ∀ (own : String) (idx : Nat), a_ML own idx yX12_pair cX12_pair 6 (some FieldType.int) 3 := fun _ _ => ⟨mcX12_pair, inX12, by decide +kernel, rfl⟩
theorem mmX12_set : ∀ (own : String) (idx : Nat), a_ML own idx yX12_set cX12_set 3 (some FieldType.boolean) 1 := fun _ _ => ⟨mcX12_set, inX12, by decide +kernel, rfl⟩
theorem mmX12_act : ∀ (own : String) (idx : Nat), a_ML own idx yX12_act cX12_act 3 (some FieldType.boolean) 2 := fun _ _ => ⟨mcX12_act, inX12, by decide +kernel, rfl⟩
theorem mmX12_played : ∀ (own : String) (idx : Nat), a_ML own idx yX12_played cX12_played 5 (some FieldType.int) 1 := fun _ _ => ⟨mcX12_played, inX12, by decide +kernel, rfl⟩
theorem mmX12_undo : ∀ (own : String) (idx : Nat), a_ML own idx yX12_undo cX12_undo 1 (some FieldType.int) 0 := fun _ _ => ⟨mcX12_undo, inX12, by decide +kernel, rfl⟩
theorem mmX12_redo : ∀ (own : String) (idx : Nat), a_ML own idx yX12_redo cX12_redo 1 (some FieldType.int) 0 := fun _ _ => ⟨mcX12_redo, inX12, by decide +kernel, rfl⟩
theorem mmX12_at : ∀ (own : String) (idx : Nat), a_ML own idx yX12_at cX12_at 2 (some FieldType.int) 1 := fun _ _ => ⟨mcX12_at, inX12, by decide +kernel, rfl⟩
theorem mmX12_norm : ∀ (own : String) (idx : Nat), a_ML own idx yX12_norm cX12_norm 3 (some FieldType.int) 0 := fun _ _ => ⟨mcX12_norm, inX12, by decide +kernel, rfl⟩
theorem mmX12_power : ∀ (own : String) (idx : Nat), a_ML own idx yX12_power cX12_power 5 (some FieldType.int) 3 := fun _ _ => ⟨mcX12_power, inX12, by decide +kernel, rfl⟩
theorem mmX12_image : ∀ (own : String) (idx : Nat), a_ML own idx yX12_image cX12_image 1 (some FieldType.int) 0 := fun _ _ => ⟨mcX12_image, inX12, by decide +kernel, rfl⟩
theorem mmX12_back : ∀ (own : String) (idx : Nat), a_ML own idx yX12_back cX12_back 1 (some FieldType.int) 0 := fun _ _ => ⟨mcX12_back, inX12, by decide +kernel, rfl⟩
theorem mmX12_about : ∀ (own : String) (idx : Nat), a_ML own idx yX12_about cX12_about 2 (some FieldType.int) 1 := fun _ _ => ⟨mcX12_about, inX12, by decide +kernel, rfl⟩
