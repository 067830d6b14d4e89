theorem mfX11_type : MF yX11_type cX11_type 2 (some .int) 1 := ⟨(inR21 _ (List.mem_of_getElem? (i := 11) rfl)), (inR1 _ (List.mem_of_getElem? (i := 2) rfl)), by decide +kernel⟩
theorem mlL_13 : ML RL 13 yX11_type := (inR21 _ (List.mem_of_getElem? (i := 8) rfl))
theorem mvX11_type : MV yX11_type := ⟨(inR21 _ (List.mem_of_getElem? (i := 9) rfl)), (inR21 _ (List.mem_of_getElem? (i := 10) rfl))⟩
theorem mfX12_type : MF yX12_type cX12_type 2 (some .int) 1 := ⟨(inR21 _ (List.mem_of_getElem? (i := 23) rfl)), (inR1 _ (List.mem_of_getElem? (i := 5) rfl)), by decide +kernel⟩
theorem mlL_17 : ML RL 17 yX12_type := (inR21 _ (List.mem_of_getElem? (i := 20) rfl))
theorem mvX12_type : MV yX12_type := ⟨(inR21 _ (List.mem_of_getElem? (i := 21) rfl)), (inR21 _ (List.mem_of_getElem? (i := 22) rfl))⟩
theorem mfX11_clear : MF yX11_clear cX11_clear 2 (some .int) 0 := ⟨(inR22 _ (List.mem_of_getElem? (i := 7) rfl)), (inR1 _ (List.mem_of_getElem? (i := 2) rfl)), by decide +kernel⟩
theorem mlL_18 : ML RL 18 yX11_clear := (inR22 _ (List.mem_of_getElem? (i := 4) rfl))
theorem mvX11_clear : MV yX11_clear := ⟨(inR22 _ (List.mem_of_getElem? (i := 5) rfl)), (inR22 _ (List.mem_of_getElem? (i := 6) rfl))⟩
theorem mfX12_clear : MF yX12_clear cX12_clear 2 (some .int) 0 := ⟨(inR22 _ (List.mem_of_getElem? (i := 15) rfl)), (inR1 _ (List.mem_of_getElem? (i := 5) rfl)), by decide +kernel⟩
theorem mlL_22 : ML RL 22 yX12_clear := (inR22 _ (List.mem_of_getElem? (i := 12) rfl))
theorem mvX12_clear : MV yX12_clear := ⟨(inR22 _ (List.mem_of_getElem? (i := 13) rfl)), (inR22 _ (List.mem_of_getElem? (i := 14) rfl))⟩
theorem mfX11_load : MF yX11_load cX11_load 1 (some .int) 0 := ⟨(inR22 _ (List.mem_of_getElem? (i := 19) rfl)), (inR1 _ (List.mem_of_getElem? (i := 2) rfl)), by decide +kernel⟩
theorem mlL_23 : ML RL 23 yX11_load := (inR22 _ (List.mem_of_getElem? (i := 16) rfl))
theorem mvX11_load : MV yX11_load := ⟨(inR22 _ (List.mem_of_getElem? (i := 17) rfl)), (inR22 _ (List.mem_of_getElem? (i := 18) rfl))⟩
theorem mfX12_load : MF yX12_load cX12_load 3 (some .int) 0 := ⟨(inR26 _ (List.mem_of_getElem? (i := 1) rfl)), (inR1 _ (List.mem_of_getElem? (i := 5) rfl)), by decide +kernel⟩
theorem mlL_26 : ML RL 26 yX12_load := (inR25 _ (List.mem_of_getElem? (i := 22) rfl))
theorem mvX12_load : MV yX12_load := ⟨(inR25 _ (List.mem_of_getElem? (i := 23) rfl)), (inR26 _ (List.mem_of_getElem? (i := 0) rfl))⟩
theorem mlL_27 : ML RL 27 yX11_fault := (inR27 _ (List.mem_of_getElem? (i := 1) rfl))
theorem mfX12_fault : MF yX12_fault cX12_fault 1 (some .int) 0 := ⟨(inR27 _ (List.mem_of_getElem? (i := 8) rfl)), (inR1 _ (List.mem_of_getElem? (i := 5) rfl)), by decide +kernel⟩
theorem mlL_30 : ML RL 30 yX12_fault := (inR27 _ (List.mem_of_getElem? (i := 5) rfl))
theorem mvX12_fault : MV yX12_fault := ⟨(inR27 _ (List.mem_of_getElem? (i := 6) rfl)), (inR27 _ (List.mem_of_getElem? (i := 7) rfl))⟩
theorem mfX11_production : MF yX11_production cX11_production 3 (some .int) 2 := ⟨(inR27 _ (List.mem_of_getElem? (i := 12) rfl)), (inR1 _ (List.mem_of_getElem? (i := 2) rfl)), by decide +kernel⟩
theorem mlL_31 : ML RL 31 yX11_production := (inR27 _ (List.mem_of_getElem? (i := 9) rfl))
theorem mvX11_production : MV yX11_production := ⟨(inR27 _ (List.mem_of_getElem? (i := 10) rfl)), (inR27 _ (List.mem_of_getElem? (i := 11) rfl))⟩
theorem mfX12_production : MF yX12_production cX12_production 3 (some .int) 2 := ⟨(inR27 _ (List.mem_of_getElem? (i := 22) rfl)), (inR1 _ (List.mem_of_getElem? (i := 5) rfl)), by decide +kernel⟩
theorem mlL_35 : ML RL 35 yX12_production := (inR27 _ (List.mem_of_getElem? (i := 19) rfl))
theorem mvX12_production : MV yX12_production := ⟨(inR27 _ (List.mem_of_getElem? (i := 20) rfl)), (inR27 _ (List.mem_of_getElem? (i := 21) rfl))⟩
theorem mfX11_symbol : MF yX11_symbol cX11_symbol 3 (some .int) 2 := ⟨(inR28 _ (List.mem_of_getElem? (i := 6) rfl)), (inR1 _ (List.mem_of_getElem? (i := 2) rfl)), by decide +kernel⟩
theorem mlL_36 : ML RL 36 yX11_symbol := (inR28 _ (List.mem_of_getElem? (i := 3) rfl))
theorem mvX11_symbol : MV yX11_symbol := ⟨(inR28 _ (List.mem_of_getElem? (i := 4) rfl)), (inR28 _ (List.mem_of_getElem? (i := 5) rfl))⟩
theorem mfX12_symbol : MF yX12_symbol cX12_symbol 3 (some .int) 2 := ⟨(inR28 _ (List.mem_of_getElem? (i := 11) rfl)), (inR1 _ (List.mem_of_getElem? (i := 5) rfl)), by decide +kernel⟩
theorem mlL_39 : ML RL 39 yX12_symbol := (inR28 _ (List.mem_of_getElem? (i := 8) rfl))
theorem mvX12_symbol : MV yX12_symbol := ⟨(inR28 _ (List.mem_of_getElem? (i := 9) rfl)), (inR28 _ (List.mem_of_getElem? (i := 10) rfl))⟩
theorem mlL_40 : ML RL 40 yX11_nonterminal := (inR28 _ (List.mem_of_getElem? (i := 12) rfl))
theorem mfX12_nonterminal : MF yX12_nonterminal cX12_nonterminal 3 (some .int) 2 := ⟨(inR29 _ (List.mem_of_getElem? (i := 16) rfl)), (inR1 _ (List.mem_of_getElem? (i := 5) rfl)), by decide +kernel⟩
theorem mlL_43 : ML RL 43 yX12_nonterminal := (inR29 _ (List.mem_of_getElem? (i := 13) rfl))
theorem mvX12_nonterminal : MV yX12_nonterminal := ⟨(inR29 _ (List.mem_of_getElem? (i := 14) rfl)), (inR29 _ (List.mem_of_getElem? (i := 15) rfl))⟩
theorem mfX11_first : MF yX11_first cX11_first 4 (some .int) 3 := ⟨(inR30 _ (List.mem_of_getElem? (i := 8) rfl)), (inR1 _ (List.mem_of_getElem? (i := 2) rfl)), by decide +kernel⟩
theorem mlL_44 : ML RL 44 yX11_first := (inR30 _ (List.mem_of_getElem? (i := 5) rfl))
theorem mvX11_first : MV yX11_first := ⟨(inR30 _ (List.mem_of_getElem? (i := 6) rfl)), (inR30 _ (List.mem_of_getElem? (i := 7) rfl))⟩
theorem mfX12_first : MF yX12_first cX12_first 4 (some .int) 3 := ⟨(inR31 _ (List.mem_of_getElem? (i := 7) rfl)), (inR1 _ (List.mem_of_getElem? (i := 5) rfl)), by decide +kernel⟩
theorem mlL_48 : ML RL 48 yX12_first := (inR31 _ (List.mem_of_getElem? (i := 4) rfl))
theorem mvX12_first : MV yX12_first := ⟨(inR31 _ (List.mem_of_getElem? (i := 5) rfl)), (inR31 _ (List.mem_of_getElem? (i := 6) rfl))⟩
theorem mfX11_follow : MF yX11_follow cX11_follow 4 (some .int) 3 := ⟨(inR31 _ (List.mem_of_getElem? (i := 21) rfl)), (inR1 _ (List.mem_of_getElem? (i := 2) rfl)), by decide +kernel⟩
theorem mlL_49 : ML RL 49 yX11_follow := (inR31 _ (List.mem_of_getElem? (i := 18) rfl))
theorem mvX11_follow : MV yX11_follow := ⟨(inR31 _ (List.mem_of_getElem? (i := 19) rfl)), (inR31 _ (List.mem_of_getElem? (i := 20) rfl))⟩
theorem mfX12_follow : MF yX12_follow cX12_follow 4 (some .int) 3 := ⟨(inR32 _ (List.mem_of_getElem? (i := 5) rfl)), (inR1 _ (List.mem_of_getElem? (i := 5) rfl)), by decide +kernel⟩
theorem mlL_52 : ML RL 52 yX12_follow := (inR32 _ (List.mem_of_getElem? (i := 2) rfl))
theorem mvX12_follow : MV yX12_follow := ⟨(inR32 _ (List.mem_of_getElem? (i := 3) rfl)), (inR32 _ (List.mem_of_getElem? (i := 4) rfl))⟩
theorem mfX11_ahead : MF yX11_ahead cX11_ahead 4 (some .int) 3 := ⟨(inR32 _ (List.mem_of_getElem? (i := 9) rfl)), (inR1 _ (List.mem_of_getElem? (i := 2) rfl)), by decide +kernel⟩
theorem mlL_53 : ML RL 53 yX11_ahead := (inR32 _ (List.mem_of_getElem? (i := 6) rfl))
theorem mvX11_ahead : MV yX11_ahead := ⟨(inR32 _ (List.mem_of_getElem? (i := 7) rfl)), (inR32 _ (List.mem_of_getElem? (i := 8) rfl))⟩
theorem mfX12_ahead : MF yX12_ahead cX12_ahead 4 (some .int) 3 := ⟨(inR32 _ (List.mem_of_getElem? (i := 17) rfl)), (inR1 _ (List.mem_of_getElem? (i := 5) rfl)), by decide +kernel⟩
theorem mlL_56 : ML RL 56 yX12_ahead := (inR32 _ (List.mem_of_getElem? (i := 14) rfl))
theorem mvX12_ahead : MV yX12_ahead := ⟨(inR32 _ (List.mem_of_getElem? (i := 15) rfl)), (inR32 _ (List.mem_of_getElem? (i := 16) rfl))⟩
theorem mlL_57 : ML RL 57 yX11_words := (inR32 _ (List.mem_of_getElem? (i := 18) rfl))
theorem mfX12_words : MF yX12_words cX12_words 4 (some .int) 3 := ⟨(inR33 _ (List.mem_of_getElem? (i := 12) rfl)), (inR1 _ (List.mem_of_getElem? (i := 5) rfl)), by decide +kernel⟩
theorem mlL_60 : ML RL 60 yX12_words := (inR33 _ (List.mem_of_getElem? (i := 9) rfl))
theorem mvX12_words : MV yX12_words := ⟨(inR33 _ (List.mem_of_getElem? (i := 10) rfl)), (inR33 _ (List.mem_of_getElem? (i := 11) rfl))⟩
theorem mfX11_word : MF yX11_word cX11_word 7 (some .int) 3 := ⟨(inR33 _ (List.mem_of_getElem? (i := 20) rfl)), (inR1 _ (List.mem_of_getElem? (i := 2) rfl)), by decide +kernel⟩
theorem mlL_61 : ML RL 61 yX11_word := (inR33 _ (List.mem_of_getElem? (i := 17) rfl))
theorem mvX11_word : MV yX11_word := ⟨(inR33 _ (List.mem_of_getElem? (i := 18) rfl)), (inR33 _ (List.mem_of_getElem? (i := 19) rfl))⟩
theorem mfX12_word : MF yX12_word cX12_word 6 (some .int) 3 := ⟨(inR34 _ (List.mem_of_getElem? (i := 0) rfl)), (inR1 _ (List.mem_of_getElem? (i := 5) rfl)), by decide +kernel⟩
theorem mlL_64 : ML RL 64 yX12_word := (inR33 _ (List.mem_of_getElem? (i := 21) rfl))
theorem mvX12_word : MV yX12_word := ⟨(inR33 _ (List.mem_of_getElem? (i := 22) rfl)), (inR33 _ (List.mem_of_getElem? (i := 23) rfl))⟩
theorem mlL_65 : ML RL 65 yX11_marks := (inR34 _ (List.mem_of_getElem? (i := 1) rfl))
theorem mfX12_marks : MF yX12_marks cX12_marks 3 (some .int) 2 := ⟨(inR34 _ (List.mem_of_getElem? (i := 9) rfl)), (inR1 _ (List.mem_of_getElem? (i := 5) rfl)), by decide +kernel⟩
theorem mlL_68 : ML RL 68 yX12_marks := (inR34 _ (List.mem_of_getElem? (i := 6) rfl))
theorem mvX12_marks : MV yX12_marks := ⟨(inR34 _ (List.mem_of_getElem? (i := 7) rfl)), (inR34 _ (List.mem_of_getElem? (i := 8) rfl))⟩
theorem mlL_69 : ML RL 69 yX11_depth := (inR34 _ (List.mem_of_getElem? (i := 14) rfl))
theorem mfX12_depth : MF yX12_depth cX12_depth 2 (some .int) 1 := ⟨(inR35 _ (List.mem_of_getElem? (i := 1) rfl)), (inR1 _ (List.mem_of_getElem? (i := 5) rfl)), by decide +kernel⟩
theorem mlL_72 : ML RL 72 yX12_depth := (inR34 _ (List.mem_of_getElem? (i := 22) rfl))
theorem mvX12_depth : MV yX12_depth := ⟨(inR34 _ (List.mem_of_getElem? (i := 23) rfl)), (inR35 _ (List.mem_of_getElem? (i := 0) rfl))⟩
theorem mlL_73 : ML RL 73 yX11_approximate := (inR35 _ (List.mem_of_getElem? (i := 14) rfl))
theorem mfX12_approximate : MF yX12_approximate cX12_approximate 2 (some .int) 1 := ⟨(inR36 _ (List.mem_of_getElem? (i := 1) rfl)), (inR1 _ (List.mem_of_getElem? (i := 5) rfl)), by decide +kernel⟩
theorem mlL_76 : ML RL 76 yX12_approximate := (inR35 _ (List.mem_of_getElem? (i := 22) rfl))
theorem mvX12_approximate : MV yX12_approximate := ⟨(inR35 _ (List.mem_of_getElem? (i := 23) rfl)), (inR36 _ (List.mem_of_getElem? (i := 0) rfl))⟩
theorem mlL_77 : ML RL 77 yX11_deepest := (inR36 _ (List.mem_of_getElem? (i := 10) rfl))
theorem mlL_81 : ML RL 81 yX12_deepest := (inR36 _ (List.mem_of_getElem? (i := 15) rfl))
theorem mlL_82 : ML RL 82 yX11_clash := (inR36 _ (List.mem_of_getElem? (i := 19) rfl))
theorem mfX12_clash : MF yX12_clash cX12_clash 3 (some .int) 2 := ⟨(inR37 _ (List.mem_of_getElem? (i := 3) rfl)), (inR1 _ (List.mem_of_getElem? (i := 5) rfl)), by decide +kernel⟩
theorem mlL_85 : ML RL 85 yX12_clash := (inR37 _ (List.mem_of_getElem? (i := 0) rfl))
theorem mvX12_clash : MV yX12_clash := ⟨(inR37 _ (List.mem_of_getElem? (i := 1) rfl)), (inR37 _ (List.mem_of_getElem? (i := 2) rfl))⟩
theorem mfX11_clashWord : MF yX11_clashWord cX11_clashWord 7 (some .int) 3 := ⟨(inR37 _ (List.mem_of_getElem? (i := 7) rfl)), (inR1 _ (List.mem_of_getElem? (i := 2) rfl)), by decide +kernel⟩
theorem mlL_86 : ML RL 86 yX11_clashWord := (inR37 _ (List.mem_of_getElem? (i := 4) rfl))
theorem mvX11_clashWord : MV yX11_clashWord := ⟨(inR37 _ (List.mem_of_getElem? (i := 5) rfl)), (inR37 _ (List.mem_of_getElem? (i := 6) rfl))⟩
theorem mfX12_clashWord : MF yX12_clashWord cX12_clashWord 4 (some .int) 3 := ⟨(inR37 _ (List.mem_of_getElem? (i := 11) rfl)), (inR1 _ (List.mem_of_getElem? (i := 5) rfl)), by decide +kernel⟩
theorem mlL_89 : ML RL 89 yX12_clashWord := (inR37 _ (List.mem_of_getElem? (i := 8) rfl))
theorem mvX12_clashWord : MV yX12_clashWord := ⟨(inR37 _ (List.mem_of_getElem? (i := 9) rfl)), (inR37 _ (List.mem_of_getElem? (i := 10) rfl))⟩
theorem mfX11_parse : MF yX11_parse cX11_parse 2 (some .int) 0 := ⟨(inR37 _ (List.mem_of_getElem? (i := 15) rfl)), (inR1 _ (List.mem_of_getElem? (i := 2) rfl)), by decide +kernel⟩
theorem mlL_90 : ML RL 90 yX11_parse := (inR37 _ (List.mem_of_getElem? (i := 12) rfl))
theorem mvX11_parse : MV yX11_parse := ⟨(inR37 _ (List.mem_of_getElem? (i := 13) rfl)), (inR37 _ (List.mem_of_getElem? (i := 14) rfl))⟩
theorem mfX12_parse : MF yX12_parse cX12_parse 7 (some .int) 0 := ⟨(inR39 _ (List.mem_of_getElem? (i := 12) rfl)), (inR1 _ (List.mem_of_getElem? (i := 5) rfl)), by decide +kernel⟩
theorem mlL_93 : ML RL 93 yX12_parse := (inR39 _ (List.mem_of_getElem? (i := 9) rfl))
theorem mvX12_parse : MV yX12_parse := ⟨(inR39 _ (List.mem_of_getElem? (i := 10) rfl)), (inR39 _ (List.mem_of_getElem? (i := 11) rfl))⟩
theorem mfX11_chosen : MF yX11_chosen cX11_chosen 2 (some .int) 1 := ⟨(inR40 _ (List.mem_of_getElem? (i := 11) rfl)), (inR1 _ (List.mem_of_getElem? (i := 2) rfl)), by decide +kernel⟩
theorem mlL_94 : ML RL 94 yX11_chosen := (inR40 _ (List.mem_of_getElem? (i := 8) rfl))
theorem mvX11_chosen : MV yX11_chosen := ⟨(inR40 _ (List.mem_of_getElem? (i := 9) rfl)), (inR40 _ (List.mem_of_getElem? (i := 10) rfl))⟩
theorem mfX12_chosen : MF yX12_chosen cX12_chosen 2 (some .int) 1 := ⟨(inR40 _ (List.mem_of_getElem? (i := 23) rfl)), (inR1 _ (List.mem_of_getElem? (i := 5) rfl)), by decide +kernel⟩
theorem mlL_97 : ML RL 97 yX12_chosen := (inR40 _ (List.mem_of_getElem? (i := 20) rfl))
theorem mvX12_chosen : MV yX12_chosen := ⟨(inR40 _ (List.mem_of_getElem? (i := 21) rfl)), (inR40 _ (List.mem_of_getElem? (i := 22) rfl))⟩
theorem mlL_98 : ML RL 98 yX11_derivations := (inR41 _ (List.mem_of_getElem? (i := 0) rfl))
theorem mlL_101 : ML RL 101 yX12_derivations := (inR43 _ (List.mem_of_getElem? (i := 9) rfl))
theorem mfX11_step : MF yX11_step cX11_step 4 (some .int) 2 := ⟨(inR44 _ (List.mem_of_getElem? (i := 12) rfl)), (inR1 _ (List.mem_of_getElem? (i := 2) rfl)), by decide +kernel⟩
theorem mlL_102 : ML RL 102 yX11_step := (inR44 _ (List.mem_of_getElem? (i := 9) rfl))
theorem mvX11_step : MV yX11_step := ⟨(inR44 _ (List.mem_of_getElem? (i := 10) rfl)), (inR44 _ (List.mem_of_getElem? (i := 11) rfl))⟩
theorem mfX12_step : MF yX12_step cX12_step 4 (some .int) 2 := ⟨(inR46 _ (List.mem_of_getElem? (i := 7) rfl)), (inR1 _ (List.mem_of_getElem? (i := 5) rfl)), by decide +kernel⟩
theorem mlL_105 : ML RL 105 yX12_step := (inR46 _ (List.mem_of_getElem? (i := 4) rfl))
theorem mvX12_step : MV yX12_step := ⟨(inR46 _ (List.mem_of_getElem? (i := 5) rfl)), (inR46 _ (List.mem_of_getElem? (i := 6) rfl))⟩
theorem mfX11_ambiguous : MF yX11_ambiguous cX11_ambiguous 1 (some .int) 0 := ⟨(inR47 _ (List.mem_of_getElem? (i := 0) rfl)), (inR1 _ (List.mem_of_getElem? (i := 2) rfl)), by decide +kernel⟩
theorem mlL_106 : ML RL 106 yX11_ambiguous := (inR46 _ (List.mem_of_getElem? (i := 21) rfl))
theorem mvX11_ambiguous : MV yX11_ambiguous := ⟨(inR46 _ (List.mem_of_getElem? (i := 22) rfl)), (inR46 _ (List.mem_of_getElem? (i := 23) rfl))⟩
theorem mfX12_ambiguous : MF yX12_ambiguous cX12_ambiguous 7 (some .int) 0 := ⟨(inR48 _ (List.mem_of_getElem? (i := 14) rfl)), (inR1 _ (List.mem_of_getElem? (i := 5) rfl)), by decide +kernel⟩
theorem mlL_109 : ML RL 109 yX12_ambiguous := (inR48 _ (List.mem_of_getElem? (i := 11) rfl))
theorem mvX12_ambiguous : MV yX12_ambiguous := ⟨(inR48 _ (List.mem_of_getElem? (i := 12) rfl)), (inR48 _ (List.mem_of_getElem? (i := 13) rfl))⟩
theorem mlL_110 : ML RL 110 yX11_told := (inR48 _ (List.mem_of_getElem? (i := 15) rfl))
theorem mfX12_told : MF yX12_told cX12_told 2 (some .int) 1 := ⟨(inR49 _ (List.mem_of_getElem? (i := 3) rfl)), (inR1 _ (List.mem_of_getElem? (i := 5) rfl)), by decide +kernel⟩
theorem mlL_113 : ML RL 113 yX12_told := (inR49 _ (List.mem_of_getElem? (i := 0) rfl))
theorem mvX12_told : MV yX12_told := ⟨(inR49 _ (List.mem_of_getElem? (i := 1) rfl)), (inR49 _ (List.mem_of_getElem? (i := 2) rfl))⟩
theorem mfX11_undo : MF yX11_undo cX11_undo 1 (some .int) 0 := ⟨(inR49 _ (List.mem_of_getElem? (i := 11) rfl)), (inR1 _ (List.mem_of_getElem? (i := 2) rfl)), by decide +kernel⟩
theorem mlL_114 : ML RL 114 yX11_undo := (inR49 _ (List.mem_of_getElem? (i := 8) rfl))
theorem mvX11_undo : MV yX11_undo := ⟨(inR49 _ (List.mem_of_getElem? (i := 9) rfl)), (inR49 _ (List.mem_of_getElem? (i := 10) rfl))⟩
theorem mfX12_undo : MF yX12_undo cX12_undo 2 (some .int) 0 := ⟨(inR49 _ (List.mem_of_getElem? (i := 19) rfl)), (inR1 _ (List.mem_of_getElem? (i := 5) rfl)), by decide +kernel⟩
theorem mlL_117 : ML RL 117 yX12_undo := (inR49 _ (List.mem_of_getElem? (i := 16) rfl))
theorem mvX12_undo : MV yX12_undo := ⟨(inR49 _ (List.mem_of_getElem? (i := 17) rfl)), (inR49 _ (List.mem_of_getElem? (i := 18) rfl))⟩
theorem mfX11_digest : MF yX11_digest cX11_digest 4 (some .long) 0 := ⟨(inR49 _ (List.mem_of_getElem? (i := 23) rfl)), (inR1 _ (List.mem_of_getElem? (i := 2) rfl)), by decide +kernel⟩
theorem mlL_118 : ML RL 118 yX11_digest := (inR49 _ (List.mem_of_getElem? (i := 20) rfl))
theorem mvX11_digest : MV yX11_digest := ⟨(inR49 _ (List.mem_of_getElem? (i := 21) rfl)), (inR49 _ (List.mem_of_getElem? (i := 22) rfl))⟩
theorem mfX12_digest : MF yX12_digest cX12_digest 3 (some .long) 0 := ⟨(inR50 _ (List.mem_of_getElem? (i := 21) rfl)), (inR1 _ (List.mem_of_getElem? (i := 5) rfl)), by decide +kernel⟩
theorem mlL_122 : ML RL 122 yX12_digest := (inR50 _ (List.mem_of_getElem? (i := 18) rfl))
theorem mvX12_digest : MV yX12_digest := ⟨(inR50 _ (List.mem_of_getElem? (i := 19) rfl)), (inR50 _ (List.mem_of_getElem? (i := 20) rfl))⟩
theorem oX11w : isO 174 0 11 fl11 := ⟨by decide, oX11.2⟩
/-- the script: an array that is no cell of the world -/
def SX (Γ : CT) (b L : Nat) (xs : Nat → Int32) : Prop := match Γ with
  | (_, _, _, _, s, _, _, _, _, _, _, _, _, E) => va_X b L xs s s.heap ∧ b < s.heap.size ∧ ¬ AE E b
theorem rf_sld {α : Type} {Γ : CT} {Q : α → PH → State → Prop} {σ : PH} {pc : Nat} {lv : List (Nat × Value)} {st : List Value} {cc : ByteArray} {own : String} {rm : Room} {ret : Option FieldType} {nL B : Nat} (C : CX Γ cc own rm ret nL B) {b L : Nat} {xs : Nat → Int32} {i : Int32} {K : Int32 → Option (α × PH)} (X : SX Γ b L xs) (d : decode cc pc = .ok (.iaload, 1)) (k : ∀ v : Int32, RF Γ Q (K v) σ (pc + 1) lv (.int v :: st)) : RF Γ Q (ra L i xs K) σ pc lv (.int i :: .ref b :: st) := by
  obtain ⟨p, l, e, R, s, m, args, below, meth, c, nL', cs, ss, E⟩ := Γ
  obtain ⟨hx, hb, hml, hown, hts, hK, hZ, hr, hlk, rfl, rfl, hB, hcs⟩ := C
  intro r σ' h H locs ls w hl
  obtain ⟨hin, h⟩ := ra_some h
  exact va_sld hx hb X.1 X.2.1 X.2.2 w.2.2.1 (inb_vp hin) d (k _ r σ' h H locs ls w hl)
theorem rf_slen {α : Type} {Γ : CT} {Q : α → PH → State → Prop} {x : Option (α × PH)} {σ : PH} {pc : Nat} {lv : List (Nat × Value)} {st : List Value} {cc : ByteArray} {own : String} {rm : Room} {ret : Option FieldType} {nL B : Nat} (C : CX Γ cc own rm ret nL B) {b L : Nat} {xs : Nat → Int32} (X : SX Γ b L xs) (d : decode cc pc = .ok (.arraylength, 1)) (k : RF Γ Q x σ (pc + 1) lv (.int (nI L) :: st)) : RF Γ Q x σ pc lv (.ref b :: st) := by
  obtain ⟨p, l, e, R, s, m, args, below, meth, c, nL', cs, ss, E⟩ := Γ
  obtain ⟨hx, hb, hml, hown, hts, hK, hZ, hr, hlk, rfl, rfl, hB, hcs⟩ := C
  exact fun r σ' h H locs ls w hl => va_slen hx hb X.1 X.2.1 X.2.2 w.2.2.1 d (k r σ' h H locs ls w hl)
/-- what the law's end is -/
def LQ (Γ : CT) (_ : Unit) (_ : PH) : State → Prop := match Γ with
  | (_, _, _, _, s, _, args, below, _, _, _, _, _, _) => lw_Z below args s
def LE (Γ : CT) (b : Nat) : Prop := match Γ with
  | (_, _, _, R, s, _, args, _, _, _, _, cs, ss, E) => R = room_1 ∧ args = #[Value.ref b] ∧ cs ≤ 600000 ∧ ss ≤ 7302250 ∧ ∀ q, AE E q → s.heap.size ≤ q
theorem rf_lend {Γ : CT} {σ : PH} {pc : Nat} {lv : List (Nat × Value)} {own : String} {rm : Room} {nL B b : Nat} (C : CX Γ code own rm ret nL B) (hE : LE Γ b) (d : decode code pc = .ok (.ireturn, 1)) : RF Γ (LQ Γ) (some ((), σ)) σ pc lv [.int 1] := by
  obtain ⟨p, l, e, R, s, m, args, below, meth, c, nL', cs, ss, E⟩ := Γ
  obtain ⟨hx, hb, hml, hown, hts, hK, hZ, hr, hlk, rfl, rfl, hB, hcs⟩ := C
  obtain ⟨h1, h2, h3, h4, h5⟩ := hE
  subst h1; subst h2
  intro r σ' h H locs ls w hl
  refine va_forget (fun q hq => h5 _ (w.2.2.1.2.2 q hq)) ?_
  refine W.widen (k := 600000) (n := 7302250) h3 h4 ?_
  exact lw_ret hx hb hr hlk d
/-- the law's loop as a function: some, if it comes to its end with 1 -/
def flaw (n L : Nat) (xs : Nat → Int32) (s0 : PH) : Option (Unit × PH) :=
(lt (nI 0) fun (v1 : Int32) =>
(loo2 (fun (recrec4 : Int32 → PH → Option (Unit × PH)) (v2 : Int32) (s3 : PH) =>
(if ((nI L) - (nI 4)) < v2 then
(some ((), s3))
else
(ra L v2 xs fun (v5 : Int32) =>
(jn (fun (s6 : PH) =>
(lt (v2 + (nI 4)) fun (v8 : Int32) =>
(recrec4 v8 s6))) (fun (j7 : PH → Option (Unit × PH)) =>
(if (v5 &&& (nI 31)) = (nI 0) then
(ra L (v2 + (nI 1)) xs fun (v10 : Int32) =>
(bd (fX11_type v10 s3) fun (r12 : Int32) (s11 : PH) =>
(ra L (v2 + (nI 1)) xs fun (v13 : Int32) =>
(bd (fX12_type v13 s11) fun (r15 : Int32) (s14 : PH) =>
(if r12 = r15 then
(j7 s14)
else
none)))))
else
(if (v5 &&& (nI 31)) = (nI 1) then
(bd (fX11_clear s3) fun (r18 : Int32) (s17 : PH) =>
(bd (fX12_clear s17) fun (r20 : Int32) (s19 : PH) =>
(if r18 = r20 then
(j7 s19)
else
none)))
else
(if (v5 &&& (nI 31)) = (nI 2) then
(bd (fX11_load n s3) fun (r23 : Int32) (s22 : PH) =>
(bd (fX12_load n s22) fun (r25 : Int32) (s24 : PH) =>
(if r23 = r25 then
(j7 s24)
else
none)))
else
(if (v5 &&& (nI 31)) = (nI 3) then
(bd (fX11_fault s3) fun (r28 : Int32) (s27 : PH) =>
(bd (fX12_fault s27) fun (r30 : Int32) (s29 : PH) =>
(if r28 = r30 then
(j7 s29)
else
none)))
else
(if (v5 &&& (nI 31)) = (nI 4) then
(ra L (v2 + (nI 1)) xs fun (v32 : Int32) =>
(ra L (v2 + (nI 2)) xs fun (v33 : Int32) =>
(bd (fX11_production v32 v33 s3) fun (r35 : Int32) (s34 : PH) =>
(ra L (v2 + (nI 1)) xs fun (v36 : Int32) =>
(ra L (v2 + (nI 2)) xs fun (v37 : Int32) =>
(bd (fX12_production v36 v37 s34) fun (r39 : Int32) (s38 : PH) =>
(if r35 = r39 then
(j7 s38)
else
none)))))))
else
(if (v5 &&& (nI 31)) = (nI 5) then
(ra L (v2 + (nI 1)) xs fun (v41 : Int32) =>
(ra L (v2 + (nI 2)) xs fun (v42 : Int32) =>
(bd (fX11_symbol v41 v42 s3) fun (r44 : Int32) (s43 : PH) =>
(ra L (v2 + (nI 1)) xs fun (v45 : Int32) =>
(ra L (v2 + (nI 2)) xs fun (v46 : Int32) =>
(bd (fX12_symbol v45 v46 s43) fun (r48 : Int32) (s47 : PH) =>
(if r44 = r48 then
(j7 s47)
else
none)))))))
else
(if (v5 &&& (nI 31)) = (nI 6) then
(ra L (v2 + (nI 1)) xs fun (v50 : Int32) =>
(ra L (v2 + (nI 2)) xs fun (v51 : Int32) =>
(bd (fX11_nonterminal v50 v51 s3) fun (r53 : Int32) (s52 : PH) =>
(ra L (v2 + (nI 1)) xs fun (v54 : Int32) =>
(ra L (v2 + (nI 2)) xs fun (v55 : Int32) =>
(bd (fX12_nonterminal n v54 v55 s52) fun (r57 : Int32) (s56 : PH) =>
(if r53 = r57 then
(j7 s56)
else
none)))))))
else
(if (v5 &&& (nI 31)) = (nI 7) then
(ra L (v2 + (nI 1)) xs fun (v59 : Int32) =>
(ra L (v2 + (nI 2)) xs fun (v60 : Int32) =>
(ra L (v2 + (nI 3)) xs fun (v61 : Int32) =>
(bd (fX11_first n v59 v60 v61 s3) fun (r63 : Int32) (s62 : PH) =>
(ra L (v2 + (nI 1)) xs fun (v64 : Int32) =>
(ra L (v2 + (nI 2)) xs fun (v65 : Int32) =>
(ra L (v2 + (nI 3)) xs fun (v66 : Int32) =>
(bd (fX12_first n v64 v65 v66 s62) fun (r68 : Int32) (s67 : PH) =>
(if r63 = r68 then
(j7 s67)
else
none)))))))))
else
(if (v5 &&& (nI 31)) = (nI 8) then
(ra L (v2 + (nI 1)) xs fun (v70 : Int32) =>
(ra L (v2 + (nI 2)) xs fun (v71 : Int32) =>
(ra L (v2 + (nI 3)) xs fun (v72 : Int32) =>
(bd (fX11_follow n v70 v71 v72 s3) fun (r74 : Int32) (s73 : PH) =>
(ra L (v2 + (nI 1)) xs fun (v75 : Int32) =>
(ra L (v2 + (nI 2)) xs fun (v76 : Int32) =>
(ra L (v2 + (nI 3)) xs fun (v77 : Int32) =>
(bd (fX12_follow n v75 v76 v77 s73) fun (r79 : Int32) (s78 : PH) =>
(if r74 = r79 then
(j7 s78)
else
none)))))))))
else
(if (v5 &&& (nI 31)) = (nI 9) then
(ra L (v2 + (nI 1)) xs fun (v81 : Int32) =>
(ra L (v2 + (nI 2)) xs fun (v82 : Int32) =>
(ra L (v2 + (nI 3)) xs fun (v83 : Int32) =>
(bd (fX11_ahead n v81 v82 v83 s3) fun (r85 : Int32) (s84 : PH) =>
(ra L (v2 + (nI 1)) xs fun (v86 : Int32) =>
(ra L (v2 + (nI 2)) xs fun (v87 : Int32) =>
(ra L (v2 + (nI 3)) xs fun (v88 : Int32) =>
(bd (fX12_ahead n v86 v87 v88 s84) fun (r90 : Int32) (s89 : PH) =>
(if r85 = r90 then
(j7 s89)
else
none)))))))))
else
(if (v5 &&& (nI 31)) = (nI 10) then
(ra L (v2 + (nI 1)) xs fun (v92 : Int32) =>
(ra L (v2 + (nI 2)) xs fun (v93 : Int32) =>
(ra L (v2 + (nI 3)) xs fun (v94 : Int32) =>
(bd (fX11_words n v92 v93 v94 s3) fun (r96 : Int32) (s95 : PH) =>
(ra L (v2 + (nI 1)) xs fun (v97 : Int32) =>
(ra L (v2 + (nI 2)) xs fun (v98 : Int32) =>
(ra L (v2 + (nI 3)) xs fun (v99 : Int32) =>
(bd (fX12_words n v97 v98 v99 s95) fun (r101 : Int32) (s100 : PH) =>
(if r96 = r101 then
(j7 s100)
else
none)))))))))
else
(if (v5 &&& (nI 31)) = (nI 11) then
(ra L (v2 + (nI 1)) xs fun (v103 : Int32) =>
(ra L (v2 + (nI 2)) xs fun (v104 : Int32) =>
(ra L (v2 + (nI 3)) xs fun (v105 : Int32) =>
(bd (fX11_word n v103 v104 v105 s3) fun (r107 : Int32) (s106 : PH) =>
(ra L (v2 + (nI 1)) xs fun (v108 : Int32) =>
(ra L (v2 + (nI 2)) xs fun (v109 : Int32) =>
(ra L (v2 + (nI 3)) xs fun (v110 : Int32) =>
(bd (fX12_word n v108 v109 v110 s106) fun (r112 : Int32) (s111 : PH) =>
(if r107 = r112 then
(j7 s111)
else
none)))))))))
else
(if (v5 &&& (nI 31)) = (nI 12) then
(ra L (v2 + (nI 1)) xs fun (v114 : Int32) =>
(ra L (v2 + (nI 2)) xs fun (v115 : Int32) =>
(bd (fX11_marks n v114 v115 s3) fun (r117 : Int32) (s116 : PH) =>
(ra L (v2 + (nI 1)) xs fun (v118 : Int32) =>
(ra L (v2 + (nI 2)) xs fun (v119 : Int32) =>
(bd (fX12_marks n v118 v119 s116) fun (r121 : Int32) (s120 : PH) =>
(if r117 = r121 then
(j7 s120)
else
none)))))))
else
(if (v5 &&& (nI 31)) = (nI 13) then
(ra L (v2 + (nI 1)) xs fun (v123 : Int32) =>
(bd (fX11_depth v123 s3) fun (r125 : Int32) (s124 : PH) =>
(ra L (v2 + (nI 1)) xs fun (v126 : Int32) =>
(bd (fX12_depth n v126 s124) fun (r128 : Int32) (s127 : PH) =>
(if r125 = r128 then
(j7 s127)
else
none)))))
else
(if (v5 &&& (nI 31)) = (nI 14) then
(ra L (v2 + (nI 1)) xs fun (v130 : Int32) =>
(bd (fX11_approximate v130 s3) fun (r132 : Int32) (s131 : PH) =>
(ra L (v2 + (nI 1)) xs fun (v133 : Int32) =>
(bd (fX12_approximate n v133 s131) fun (r135 : Int32) (s134 : PH) =>
(if r132 = r135 then
(j7 s134)
else
none)))))
else
(if (v5 &&& (nI 31)) = (nI 15) then
(ra L (v2 + (nI 1)) xs fun (v137 : Int32) =>
(jn (fun (v138 : Int32) (s139 : PH) =>
(bd (fX11_deepest n v138 s139) fun (r142 : Int32) (s141 : PH) =>
(ra L (v2 + (nI 1)) xs fun (v143 : Int32) =>
(jn (fun (v144 : Int32) (s145 : PH) =>
(bd (fX12_deepest n v144 s145) fun (r148 : Int32) (s147 : PH) =>
(if r142 = r148 then
(j7 s147)
else
none))) (fun (j146 : Int32 → PH → Option (Unit × PH)) =>
(if v143 = 0 then
(j146 (nI 0) s141)
else
(j146 (nI 1) s141))))))) (fun (j140 : Int32 → PH → Option (Unit × PH)) =>
(if v137 = 0 then
(j140 (nI 0) s3)
else
(j140 (nI 1) s3)))))
else
(if (v5 &&& (nI 31)) = (nI 16) then
(ra L (v2 + (nI 1)) xs fun (v150 : Int32) =>
(ra L (v2 + (nI 2)) xs fun (v151 : Int32) =>
(bd (fX11_clash n v150 v151 s3) fun (r153 : Int32) (s152 : PH) =>
(ra L (v2 + (nI 1)) xs fun (v154 : Int32) =>
(ra L (v2 + (nI 2)) xs fun (v155 : Int32) =>
(bd (fX12_clash n v154 v155 s152) fun (r157 : Int32) (s156 : PH) =>
(if r153 = r157 then
(j7 s156)
else
none)))))))
else
(if (v5 &&& (nI 31)) = (nI 17) then
(ra L (v2 + (nI 1)) xs fun (v159 : Int32) =>
(ra L (v2 + (nI 2)) xs fun (v160 : Int32) =>
(ra L (v2 + (nI 3)) xs fun (v161 : Int32) =>
(bd (fX11_clashWord n v159 v160 v161 s3) fun (r163 : Int32) (s162 : PH) =>
(ra L (v2 + (nI 1)) xs fun (v164 : Int32) =>
(ra L (v2 + (nI 2)) xs fun (v165 : Int32) =>
(ra L (v2 + (nI 3)) xs fun (v166 : Int32) =>
(bd (fX12_clashWord n v164 v165 v166 s162) fun (r168 : Int32) (s167 : PH) =>
(if r163 = r168 then
(j7 s167)
else
none)))))))))
else
(if (v5 &&& (nI 31)) = (nI 18) then
(bd (fX11_parse n s3) fun (r171 : Int32) (s170 : PH) =>
(bd (fX12_parse n s170) fun (r173 : Int32) (s172 : PH) =>
(if r171 = r173 then
(j7 s172)
else
none)))
else
(if (v5 &&& (nI 31)) = (nI 19) then
(ra L (v2 + (nI 1)) xs fun (v175 : Int32) =>
(bd (fX11_chosen v175 s3) fun (r177 : Int32) (s176 : PH) =>
(ra L (v2 + (nI 1)) xs fun (v178 : Int32) =>
(bd (fX12_chosen v178 s176) fun (r180 : Int32) (s179 : PH) =>
(if r177 = r180 then
(j7 s179)
else
none)))))
else
(if (v5 &&& (nI 31)) = (nI 20) then
(bd (fX11_derivations n s3) fun (r183 : Int32) (s182 : PH) =>
(bd (fX12_derivations n s182) fun (r185 : Int32) (s184 : PH) =>
(if r183 = r185 then
(j7 s184)
else
none)))
else
(if (v5 &&& (nI 31)) = (nI 21) then
(ra L (v2 + (nI 1)) xs fun (v187 : Int32) =>
(ra L (v2 + (nI 2)) xs fun (v188 : Int32) =>
(bd (fX11_step n v187 v188 s3) fun (r190 : Int32) (s189 : PH) =>
(ra L (v2 + (nI 1)) xs fun (v191 : Int32) =>
(ra L (v2 + (nI 2)) xs fun (v192 : Int32) =>
(bd (fX12_step n v191 v192 s189) fun (r194 : Int32) (s193 : PH) =>
(if r190 = r194 then
(j7 s193)
else
none)))))))
else
(if (v5 &&& (nI 31)) = (nI 22) then
(bd (fX11_ambiguous n s3) fun (r197 : Int32) (s196 : PH) =>
(bd (fX12_ambiguous n s196) fun (r199 : Int32) (s198 : PH) =>
(if r197 = r199 then
(j7 s198)
else
none)))
else
(if (v5 &&& (nI 31)) = (nI 23) then
(ra L (v2 + (nI 1)) xs fun (v201 : Int32) =>
(bd (fX11_told v201 s3) fun (r203 : Int32) (s202 : PH) =>
(ra L (v2 + (nI 1)) xs fun (v204 : Int32) =>
(bd (fX12_told n v204 s202) fun (r206 : Int32) (s205 : PH) =>
(if r203 = r206 then
(j7 s205)
else
none)))))
else
(if (v5 &&& (nI 31)) = (nI 24) then
(bd (fX11_undo n s3) fun (r209 : Int32) (s208 : PH) =>
(bd (fX12_undo n s208) fun (r211 : Int32) (s210 : PH) =>
(if r209 = r211 then
(j7 s210)
else
none)))
else
(if (v5 &&& (nI 31)) = (nI 25) then
(bd (fX11_digest n s3) fun (r214 : Int64) (s213 : PH) =>
(bd (fX12_digest n s213) fun (r216 : Int64) (s215 : PH) =>
(if r214 = r216 then
(j7 s215)
else
none)))
else
(j7 s3)))))))))))))))))))))))))))))))) n v1 s0))
set_option maxRecDepth 100000 in
set_option maxHeartbeats 20000000 in
theorem rf_law {Γ : CT} {b L n : Nat} {xs : Nat → Int32} {s0 : PH} (C : CX Γ code RL room_1 ret 4 174) (X : SX Γ b L xs) (hE : LE Γ b) : RF Γ (LQ Γ) (flaw n L xs s0) s0 16 [(2, .ref ((gE Γ).2.1 148)), (1, .ref ((gE Γ).2.1 0)), (0, .ref b)] [] := by
  unfold flaw
  refine rf_iconst C (v := (nI 0)) dL_law_16 rfl ?_
  refine rf_istore_n C (fun v1 => [(3, .int v1), (2, .ref ((gE Γ).2.1 148)), (1, .ref ((gE Γ).2.1 0)), (0, .ref b)]) dL_law_17 rfl (by decide) (fun _ => rfl) (fun v1 => ?_)
  refine rf_sub [3, 2, 1, 0] rfl ?_
  refine rf_loo2 (fun _ _ => True) (fun _ s3 => s3) (fun v2 s3 => [(0, .ref b), (1, .ref ((gE Γ).2.1 0)), (2, .ref ((gE Γ).2.1 148)), (3, .int v2)]) (fun recrec4 hrec4 v2 s3 _ => ?_) n v1 s0 trivial
  refine rf_iload_n C dL_law_18 rfl 3 rfl ?_
  refine rf_aload_n C dL_law_19 rfl 0 rfl ?_
  refine rf_slen C X dL_law_20 ?_
  refine rf_iconst C (v := (nI 4)) dL_law_21 rfl ?_
  refine rf_isub C dL_law_22 ?_
  refine rf_icmp_gt C 873 dL_law_23 (by decide) (fun _ => ?_) (fun _ => ?_)
  · refine rf_iconst C (v := (nI 1)) dL_law_873 rfl ?_
    exact rf_lend C hE dL_law_874
  refine rf_aload_n C dL_law_26 rfl 0 rfl ?_
  refine rf_iload_n C dL_law_27 rfl 3 rfl ?_
  refine rf_sld C X dL_law_28 (fun v5 => ?_)
  refine rf_bipush C (v := (nI 31)) dL_law_29 rfl ?_
  refine rf_iand C dL_law_31 ?_
  refine rf_jn1 (fun _ => True) (fun  s6 => s6) (fun s6 => [(0, .ref b), (1, .ref ((gE Γ).2.1 0)), (2, .ref ((gE Γ).2.1 148)), (3, .int v2)]) (fun s6 => []) 867 (fun s6 _ => ?_) (fun j7 hj7 => ?_)
  · refine rf_iinc C (fun v8 => [(3, .int v8), (0, .ref b), (1, .ref ((gE Γ).2.1 0)), (2, .ref ((gE Γ).2.1 148))]) dL_law_867 3 rfl rfl (by decide) (fun _ => rfl) (fun v8 => ?_)
    refine rf_goto C 18 dL_law_870 (by decide) ?_
    exact rf_sub [1, 2, 3, 0] rfl (hrec4 v8 s6 trivial)
  refine rf_ite (fun hk9 => ?_) (fun hk9 => ?_)
  · refine rf_swIn C 152 dL_law_32 (by rw [hk9]; decide) (by rw [hk9]; decide) (by rw [hk9]; rfl) (by decide) ?_
    refine rf_aload_n C dL_law_152 rfl 1 rfl ?_
    refine rf_aload_n C dL_law_153 rfl 0 rfl ?_
    refine rf_iload_n C dL_law_154 rfl 3 rfl ?_
    refine rf_iconst C (v := (nI 1)) dL_law_155 rfl ?_
    refine rf_iadd C dL_law_156 ?_
    refine rf_sld C X dL_law_157 (fun v10 => ?_)
    refine rf_callVi C (rmc := rmOf 1 21) [.int v10] (by decide) (mX11_type (gL Γ) v10 s3) mfX11_type mvX11_type mlL_13 rfl oX11w rfl rfl rfl (Nat.le_of_ble_eq_true rfl) ⟨Nat.le_of_ble_eq_true rfl, Nat.le_of_ble_eq_true rfl⟩ dL_law_158 (fun r12 s11 => ?_)
    refine rf_aload_n C dL_law_161 rfl 2 rfl ?_
    refine rf_aload_n C dL_law_162 rfl 0 rfl ?_
    refine rf_iload_n C dL_law_163 rfl 3 rfl ?_
    refine rf_iconst C (v := (nI 1)) dL_law_164 rfl ?_
    refine rf_iadd C dL_law_165 ?_
    refine rf_sld C X dL_law_166 (fun v13 => ?_)
    refine rf_callVi C (rmc := rmOf 1 22) [.int v13] (by decide) (mX12_type (gL Γ) v13 s11) mfX12_type mvX12_type mlL_17 rfl oX12 rfl rfl rfl (Nat.le_of_ble_eq_true rfl) ⟨Nat.le_of_ble_eq_true rfl, Nat.le_of_ble_eq_true rfl⟩ dL_law_167 (fun r15 s14 => ?_)
    refine rf_icmp_eq C 867 dL_law_170 (by decide) (fun _ => ?_) (fun _ => ?_)
    · exact rf_sub [0, 1, 2, 3] rfl (hj7 s14 trivial)
    refine rf_iconst C (v := (nI 0)) dL_law_173 rfl ?_
    exact RF.none
  refine rf_ite (fun hk16 => ?_) (fun hk16 => ?_)
  · refine rf_swIn C 175 dL_law_32 (by rw [hk16]; decide) (by rw [hk16]; decide) (by rw [hk16]; rfl) (by decide) ?_
    refine rf_aload_n C dL_law_175 rfl 1 rfl ?_
    refine rf_callVi C (rmc := rmOf 1 20) [] (by decide) (mX11_clear (gL Γ) s3) mfX11_clear mvX11_clear mlL_18 rfl oX11w rfl rfl rfl (Nat.le_of_ble_eq_true rfl) ⟨Nat.le_of_ble_eq_true rfl, Nat.le_of_ble_eq_true rfl⟩ dL_law_176 (fun r18 s17 => ?_)
    refine rf_aload_n C dL_law_179 rfl 2 rfl ?_
    refine rf_callVi C (rmc := rmOf 0 0) [] (by decide) (mX12_clear (gL Γ) s17) mfX12_clear mvX12_clear mlL_22 rfl oX12 rfl rfl rfl (Nat.le_of_ble_eq_true rfl) ⟨Nat.le_of_ble_eq_true rfl, Nat.le_of_ble_eq_true rfl⟩ dL_law_180 (fun r20 s19 => ?_)
    refine rf_icmp_eq C 867 dL_law_183 (by decide) (fun _ => ?_) (fun _ => ?_)
    · exact rf_sub [0, 1, 2, 3] rfl (hj7 s19 trivial)
    refine rf_iconst C (v := (nI 0)) dL_law_186 rfl ?_
    exact RF.none
  refine rf_ite (fun hk21 => ?_) (fun hk21 => ?_)
  · refine rf_swIn C 188 dL_law_32 (by rw [hk21]; decide) (by rw [hk21]; decide) (by rw [hk21]; rfl) (by decide) ?_
    refine rf_aload_n C dL_law_188 rfl 1 rfl ?_
    refine rf_callVi C (rmc := rmOf 7 161) [] (by decide) (mX11_load (gL Γ) n s3) mfX11_load mvX11_load mlL_23 rfl oX11w rfl rfl rfl (Nat.le_of_ble_eq_true rfl) ⟨Nat.le_of_ble_eq_true rfl, Nat.le_of_ble_eq_true rfl⟩ dL_law_189 (fun r23 s22 => ?_)
    refine rf_aload_n C dL_law_192 rfl 2 rfl ?_
    refine rf_callVi C (rmc := rmOf 7 156) [] (by decide) (mX12_load (gL Γ) n s22) mfX12_load mvX12_load mlL_26 rfl oX12 rfl rfl rfl (Nat.le_of_ble_eq_true rfl) ⟨Nat.le_of_ble_eq_true rfl, Nat.le_of_ble_eq_true rfl⟩ dL_law_193 (fun r25 s24 => ?_)
    refine rf_icmp_eq C 867 dL_law_196 (by decide) (fun _ => ?_) (fun _ => ?_)
    · exact rf_sub [0, 1, 2, 3] rfl (hj7 s24 trivial)
    refine rf_iconst C (v := (nI 0)) dL_law_199 rfl ?_
    exact RF.none
  refine rf_ite (fun hk26 => ?_) (fun hk26 => ?_)
  · refine rf_swIn C 201 dL_law_32 (by rw [hk26]; decide) (by rw [hk26]; decide) (by rw [hk26]; rfl) (by decide) ?_
    refine rf_aload_n C dL_law_201 rfl 1 rfl ?_
    refine rf_callVi C (rmc := rmOf 1 20) [] (by decide) (mX11_fault (gL Γ) s3) mfX11_fault mvX11_fault mlL_27 rfl oX11w rfl rfl rfl (Nat.le_of_ble_eq_true rfl) ⟨Nat.le_of_ble_eq_true rfl, Nat.le_of_ble_eq_true rfl⟩ dL_law_202 (fun r28 s27 => ?_)
    refine rf_aload_n C dL_law_205 rfl 2 rfl ?_
    refine rf_callVi C (rmc := rmOf 0 0) [] (by decide) (mX12_fault (gL Γ) s27) mfX12_fault mvX12_fault mlL_30 rfl oX12 rfl rfl rfl (Nat.le_of_ble_eq_true rfl) ⟨Nat.le_of_ble_eq_true rfl, Nat.le_of_ble_eq_true rfl⟩ dL_law_206 (fun r30 s29 => ?_)
    refine rf_icmp_eq C 867 dL_law_209 (by decide) (fun _ => ?_) (fun _ => ?_)
    · exact rf_sub [0, 1, 2, 3] rfl (hj7 s29 trivial)
    refine rf_iconst C (v := (nI 0)) dL_law_212 rfl ?_
    exact RF.none
  refine rf_ite (fun hk31 => ?_) (fun hk31 => ?_)
  · refine rf_swIn C 214 dL_law_32 (by rw [hk31]; decide) (by rw [hk31]; decide) (by rw [hk31]; rfl) (by decide) ?_
    refine rf_aload_n C dL_law_214 rfl 1 rfl ?_
    refine rf_aload_n C dL_law_215 rfl 0 rfl ?_
    refine rf_iload_n C dL_law_216 rfl 3 rfl ?_
    refine rf_iconst C (v := (nI 1)) dL_law_217 rfl ?_
    refine rf_iadd C dL_law_218 ?_
    refine rf_sld C X dL_law_219 (fun v32 => ?_)
    refine rf_aload_n C dL_law_220 rfl 0 rfl ?_
    refine rf_iload_n C dL_law_221 rfl 3 rfl ?_
    refine rf_iconst C (v := (nI 2)) dL_law_222 rfl ?_
    refine rf_iadd C dL_law_223 ?_
    refine rf_sld C X dL_law_224 (fun v33 => ?_)
    refine rf_callVi C (rmc := rmOf 1 21) [.int v32, .int v33] (by decide) (mX11_production (gL Γ) v32 v33 s3) mfX11_production mvX11_production mlL_31 rfl oX11w rfl rfl rfl (Nat.le_of_ble_eq_true rfl) ⟨Nat.le_of_ble_eq_true rfl, Nat.le_of_ble_eq_true rfl⟩ dL_law_225 (fun r35 s34 => ?_)
    refine rf_aload_n C dL_law_228 rfl 2 rfl ?_
    refine rf_aload_n C dL_law_229 rfl 0 rfl ?_
    refine rf_iload_n C dL_law_230 rfl 3 rfl ?_
    refine rf_iconst C (v := (nI 1)) dL_law_231 rfl ?_
    refine rf_iadd C dL_law_232 ?_
    refine rf_sld C X dL_law_233 (fun v36 => ?_)
    refine rf_aload_n C dL_law_234 rfl 0 rfl ?_
    refine rf_iload_n C dL_law_235 rfl 3 rfl ?_
    refine rf_iconst C (v := (nI 2)) dL_law_236 rfl ?_
    refine rf_iadd C dL_law_237 ?_
    refine rf_sld C X dL_law_238 (fun v37 => ?_)
    refine rf_callVi C (rmc := rmOf 2 43) [.int v36, .int v37] (by decide) (mX12_production (gL Γ) v36 v37 s34) mfX12_production mvX12_production mlL_35 rfl oX12 rfl rfl rfl (Nat.le_of_ble_eq_true rfl) ⟨Nat.le_of_ble_eq_true rfl, Nat.le_of_ble_eq_true rfl⟩ dL_law_239 (fun r39 s38 => ?_)
    refine rf_icmp_eq C 867 dL_law_242 (by decide) (fun _ => ?_) (fun _ => ?_)
    · exact rf_sub [0, 1, 2, 3] rfl (hj7 s38 trivial)
    refine rf_iconst C (v := (nI 0)) dL_law_245 rfl ?_
    exact RF.none
  refine rf_ite (fun hk40 => ?_) (fun hk40 => ?_)
  · refine rf_swIn C 247 dL_law_32 (by rw [hk40]; decide) (by rw [hk40]; decide) (by rw [hk40]; rfl) (by decide) ?_
    refine rf_aload_n C dL_law_247 rfl 1 rfl ?_
    refine rf_aload_n C dL_law_248 rfl 0 rfl ?_
    refine rf_iload_n C dL_law_249 rfl 3 rfl ?_
    refine rf_iconst C (v := (nI 1)) dL_law_250 rfl ?_
    refine rf_iadd C dL_law_251 ?_
    refine rf_sld C X dL_law_252 (fun v41 => ?_)
    refine rf_aload_n C dL_law_253 rfl 0 rfl ?_
    refine rf_iload_n C dL_law_254 rfl 3 rfl ?_
    refine rf_iconst C (v := (nI 2)) dL_law_255 rfl ?_
    refine rf_iadd C dL_law_256 ?_
    refine rf_sld C X dL_law_257 (fun v42 => ?_)
    refine rf_callVi C (rmc := rmOf 1 22) [.int v41, .int v42] (by decide) (mX11_symbol (gL Γ) v41 v42 s3) mfX11_symbol mvX11_symbol mlL_36 rfl oX11w rfl rfl rfl (Nat.le_of_ble_eq_true rfl) ⟨Nat.le_of_ble_eq_true rfl, Nat.le_of_ble_eq_true rfl⟩ dL_law_258 (fun r44 s43 => ?_)
    refine rf_aload_n C dL_law_261 rfl 2 rfl ?_
    refine rf_aload_n C dL_law_262 rfl 0 rfl ?_
    refine rf_iload_n C dL_law_263 rfl 3 rfl ?_
    refine rf_iconst C (v := (nI 1)) dL_law_264 rfl ?_
    refine rf_iadd C dL_law_265 ?_
    refine rf_sld C X dL_law_266 (fun v45 => ?_)
    refine rf_aload_n C dL_law_267 rfl 0 rfl ?_
    refine rf_iload_n C dL_law_268 rfl 3 rfl ?_
    refine rf_iconst C (v := (nI 2)) dL_law_269 rfl ?_
    refine rf_iadd C dL_law_270 ?_
    refine rf_sld C X dL_law_271 (fun v46 => ?_)
    refine rf_callVi C (rmc := rmOf 2 43) [.int v45, .int v46] (by decide) (mX12_symbol (gL Γ) v45 v46 s43) mfX12_symbol mvX12_symbol mlL_39 rfl oX12 rfl rfl rfl (Nat.le_of_ble_eq_true rfl) ⟨Nat.le_of_ble_eq_true rfl, Nat.le_of_ble_eq_true rfl⟩ dL_law_272 (fun r48 s47 => ?_)
    refine rf_icmp_eq C 867 dL_law_275 (by decide) (fun _ => ?_) (fun _ => ?_)
    · exact rf_sub [0, 1, 2, 3] rfl (hj7 s47 trivial)
    refine rf_iconst C (v := (nI 0)) dL_law_278 rfl ?_
    exact RF.none
  refine rf_ite (fun hk49 => ?_) (fun hk49 => ?_)
  · refine rf_swIn C 280 dL_law_32 (by rw [hk49]; decide) (by rw [hk49]; decide) (by rw [hk49]; rfl) (by decide) ?_
    refine rf_aload_n C dL_law_280 rfl 1 rfl ?_
    refine rf_aload_n C dL_law_281 rfl 0 rfl ?_
    refine rf_iload_n C dL_law_282 rfl 3 rfl ?_
    refine rf_iconst C (v := (nI 1)) dL_law_283 rfl ?_
    refine rf_iadd C dL_law_284 ?_
    refine rf_sld C X dL_law_285 (fun v50 => ?_)
    refine rf_aload_n C dL_law_286 rfl 0 rfl ?_
    refine rf_iload_n C dL_law_287 rfl 3 rfl ?_
    refine rf_iconst C (v := (nI 2)) dL_law_288 rfl ?_
    refine rf_iadd C dL_law_289 ?_
    refine rf_sld C X dL_law_290 (fun v51 => ?_)
    refine rf_callVi C (rmc := rmOf 1 21) [.int v50, .int v51] (by decide) (mX11_nonterminal (gL Γ) v50 v51 s3) mfX11_nonterminal mvX11_nonterminal mlL_40 rfl oX11w rfl rfl rfl (Nat.le_of_ble_eq_true rfl) ⟨Nat.le_of_ble_eq_true rfl, Nat.le_of_ble_eq_true rfl⟩ dL_law_291 (fun r53 s52 => ?_)
    refine rf_aload_n C dL_law_294 rfl 2 rfl ?_
    refine rf_aload_n C dL_law_295 rfl 0 rfl ?_
    refine rf_iload_n C dL_law_296 rfl 3 rfl ?_
    refine rf_iconst C (v := (nI 1)) dL_law_297 rfl ?_
    refine rf_iadd C dL_law_298 ?_
    refine rf_sld C X dL_law_299 (fun v54 => ?_)
    refine rf_aload_n C dL_law_300 rfl 0 rfl ?_
    refine rf_iload_n C dL_law_301 rfl 3 rfl ?_
    refine rf_iconst C (v := (nI 2)) dL_law_302 rfl ?_
    refine rf_iadd C dL_law_303 ?_
    refine rf_sld C X dL_law_304 (fun v55 => ?_)
    refine rf_callVi C (rmc := rmOf 4 88) [.int v54, .int v55] (by decide) (mX12_nonterminal (gL Γ) n v54 v55 s52) mfX12_nonterminal mvX12_nonterminal mlL_43 rfl oX12 rfl rfl rfl (Nat.le_of_ble_eq_true rfl) ⟨Nat.le_of_ble_eq_true rfl, Nat.le_of_ble_eq_true rfl⟩ dL_law_305 (fun r57 s56 => ?_)
    refine rf_icmp_eq C 867 dL_law_308 (by decide) (fun _ => ?_) (fun _ => ?_)
    · exact rf_sub [0, 1, 2, 3] rfl (hj7 s56 trivial)
    refine rf_iconst C (v := (nI 0)) dL_law_311 rfl ?_
    exact RF.none
  refine rf_ite (fun hk58 => ?_) (fun hk58 => ?_)
  · refine rf_swIn C 313 dL_law_32 (by rw [hk58]; decide) (by rw [hk58]; decide) (by rw [hk58]; rfl) (by decide) ?_
    refine rf_aload_n C dL_law_313 rfl 1 rfl ?_
    refine rf_aload_n C dL_law_314 rfl 0 rfl ?_
    refine rf_iload_n C dL_law_315 rfl 3 rfl ?_
    refine rf_iconst C (v := (nI 1)) dL_law_316 rfl ?_
    refine rf_iadd C dL_law_317 ?_
    refine rf_sld C X dL_law_318 (fun v59 => ?_)
    refine rf_aload_n C dL_law_319 rfl 0 rfl ?_
    refine rf_iload_n C dL_law_320 rfl 3 rfl ?_
    refine rf_iconst C (v := (nI 2)) dL_law_321 rfl ?_
    refine rf_iadd C dL_law_322 ?_
    refine rf_sld C X dL_law_323 (fun v60 => ?_)
    refine rf_aload_n C dL_law_324 rfl 0 rfl ?_
    refine rf_iload_n C dL_law_325 rfl 3 rfl ?_
    refine rf_iconst C (v := (nI 3)) dL_law_326 rfl ?_
    refine rf_iadd C dL_law_327 ?_
    refine rf_sld C X dL_law_328 (fun v61 => ?_)
    refine rf_callVi C (rmc := rmOf 2 43) [.int v59, .int v60, .int v61] (by decide) (mX11_first (gL Γ) n v59 v60 v61 s3) mfX11_first mvX11_first mlL_44 rfl oX11w rfl rfl rfl (Nat.le_of_ble_eq_true rfl) ⟨Nat.le_of_ble_eq_true rfl, Nat.le_of_ble_eq_true rfl⟩ dL_law_329 (fun r63 s62 => ?_)
    refine rf_aload_n C dL_law_332 rfl 2 rfl ?_
    refine rf_aload_n C dL_law_333 rfl 0 rfl ?_
    refine rf_iload_n C dL_law_334 rfl 3 rfl ?_
    refine rf_iconst C (v := (nI 1)) dL_law_335 rfl ?_
    refine rf_iadd C dL_law_336 ?_
    refine rf_sld C X dL_law_337 (fun v64 => ?_)
    refine rf_aload_n C dL_law_338 rfl 0 rfl ?_
    refine rf_iload_n C dL_law_339 rfl 3 rfl ?_
    refine rf_iconst C (v := (nI 2)) dL_law_340 rfl ?_
    refine rf_iadd C dL_law_341 ?_
    refine rf_sld C X dL_law_342 (fun v65 => ?_)
    refine rf_aload_n C dL_law_343 rfl 0 rfl ?_
    refine rf_iload_n C dL_law_344 rfl 3 rfl ?_
    refine rf_iconst C (v := (nI 3)) dL_law_345 rfl ?_
    refine rf_iadd C dL_law_346 ?_
    refine rf_sld C X dL_law_347 (fun v66 => ?_)
    refine rf_callVi C (rmc := rmOf 3 65) [.int v64, .int v65, .int v66] (by decide) (mX12_first (gL Γ) n v64 v65 v66 s62) mfX12_first mvX12_first mlL_48 rfl oX12 rfl rfl rfl (Nat.le_of_ble_eq_true rfl) ⟨Nat.le_of_ble_eq_true rfl, Nat.le_of_ble_eq_true rfl⟩ dL_law_348 (fun r68 s67 => ?_)
    refine rf_icmp_eq C 867 dL_law_351 (by decide) (fun _ => ?_) (fun _ => ?_)
    · exact rf_sub [0, 1, 2, 3] rfl (hj7 s67 trivial)
    refine rf_iconst C (v := (nI 0)) dL_law_354 rfl ?_
    exact RF.none
  refine rf_ite (fun hk69 => ?_) (fun hk69 => ?_)
  · refine rf_swIn C 356 dL_law_32 (by rw [hk69]; decide) (by rw [hk69]; decide) (by rw [hk69]; rfl) (by decide) ?_
    refine rf_aload_n C dL_law_356 rfl 1 rfl ?_
    refine rf_aload_n C dL_law_357 rfl 0 rfl ?_
    refine rf_iload_n C dL_law_358 rfl 3 rfl ?_
    refine rf_iconst C (v := (nI 1)) dL_law_359 rfl ?_
    refine rf_iadd C dL_law_360 ?_
    refine rf_sld C X dL_law_361 (fun v70 => ?_)
    refine rf_aload_n C dL_law_362 rfl 0 rfl ?_
    refine rf_iload_n C dL_law_363 rfl 3 rfl ?_
    refine rf_iconst C (v := (nI 2)) dL_law_364 rfl ?_
    refine rf_iadd C dL_law_365 ?_
    refine rf_sld C X dL_law_366 (fun v71 => ?_)
    refine rf_aload_n C dL_law_367 rfl 0 rfl ?_
    refine rf_iload_n C dL_law_368 rfl 3 rfl ?_
    refine rf_iconst C (v := (nI 3)) dL_law_369 rfl ?_
    refine rf_iadd C dL_law_370 ?_
    refine rf_sld C X dL_law_371 (fun v72 => ?_)
    refine rf_callVi C (rmc := rmOf 2 43) [.int v70, .int v71, .int v72] (by decide) (mX11_follow (gL Γ) n v70 v71 v72 s3) mfX11_follow mvX11_follow mlL_49 rfl oX11w rfl rfl rfl (Nat.le_of_ble_eq_true rfl) ⟨Nat.le_of_ble_eq_true rfl, Nat.le_of_ble_eq_true rfl⟩ dL_law_372 (fun r74 s73 => ?_)
    refine rf_aload_n C dL_law_375 rfl 2 rfl ?_
    refine rf_aload_n C dL_law_376 rfl 0 rfl ?_
    refine rf_iload_n C dL_law_377 rfl 3 rfl ?_
    refine rf_iconst C (v := (nI 1)) dL_law_378 rfl ?_
    refine rf_iadd C dL_law_379 ?_
    refine rf_sld C X dL_law_380 (fun v75 => ?_)
    refine rf_aload_n C dL_law_381 rfl 0 rfl ?_
    refine rf_iload_n C dL_law_382 rfl 3 rfl ?_
    refine rf_iconst C (v := (nI 2)) dL_law_383 rfl ?_
    refine rf_iadd C dL_law_384 ?_
    refine rf_sld C X dL_law_385 (fun v76 => ?_)
    refine rf_aload_n C dL_law_386 rfl 0 rfl ?_
    refine rf_iload_n C dL_law_387 rfl 3 rfl ?_
    refine rf_iconst C (v := (nI 3)) dL_law_388 rfl ?_
    refine rf_iadd C dL_law_389 ?_
    refine rf_sld C X dL_law_390 (fun v77 => ?_)
    refine rf_callVi C (rmc := rmOf 3 65) [.int v75, .int v76, .int v77] (by decide) (mX12_follow (gL Γ) n v75 v76 v77 s73) mfX12_follow mvX12_follow mlL_52 rfl oX12 rfl rfl rfl (Nat.le_of_ble_eq_true rfl) ⟨Nat.le_of_ble_eq_true rfl, Nat.le_of_ble_eq_true rfl⟩ dL_law_391 (fun r79 s78 => ?_)
    refine rf_icmp_eq C 867 dL_law_394 (by decide) (fun _ => ?_) (fun _ => ?_)
    · exact rf_sub [0, 1, 2, 3] rfl (hj7 s78 trivial)
    refine rf_iconst C (v := (nI 0)) dL_law_397 rfl ?_
    exact RF.none
  refine rf_ite (fun hk80 => ?_) (fun hk80 => ?_)
  · refine rf_swIn C 399 dL_law_32 (by rw [hk80]; decide) (by rw [hk80]; decide) (by rw [hk80]; rfl) (by decide) ?_
    refine rf_aload_n C dL_law_399 rfl 1 rfl ?_
    refine rf_aload_n C dL_law_400 rfl 0 rfl ?_
    refine rf_iload_n C dL_law_401 rfl 3 rfl ?_
    refine rf_iconst C (v := (nI 1)) dL_law_402 rfl ?_
    refine rf_iadd C dL_law_403 ?_
    refine rf_sld C X dL_law_404 (fun v81 => ?_)
    refine rf_aload_n C dL_law_405 rfl 0 rfl ?_
    refine rf_iload_n C dL_law_406 rfl 3 rfl ?_
    refine rf_iconst C (v := (nI 2)) dL_law_407 rfl ?_
    refine rf_iadd C dL_law_408 ?_
    refine rf_sld C X dL_law_409 (fun v82 => ?_)
    refine rf_aload_n C dL_law_410 rfl 0 rfl ?_
    refine rf_iload_n C dL_law_411 rfl 3 rfl ?_
    refine rf_iconst C (v := (nI 3)) dL_law_412 rfl ?_
    refine rf_iadd C dL_law_413 ?_
    refine rf_sld C X dL_law_414 (fun v83 => ?_)
    refine rf_callVi C (rmc := rmOf 2 43) [.int v81, .int v82, .int v83] (by decide) (mX11_ahead (gL Γ) n v81 v82 v83 s3) mfX11_ahead mvX11_ahead mlL_53 rfl oX11w rfl rfl rfl (Nat.le_of_ble_eq_true rfl) ⟨Nat.le_of_ble_eq_true rfl, Nat.le_of_ble_eq_true rfl⟩ dL_law_415 (fun r85 s84 => ?_)
    refine rf_aload_n C dL_law_418 rfl 2 rfl ?_
    refine rf_aload_n C dL_law_419 rfl 0 rfl ?_
    refine rf_iload_n C dL_law_420 rfl 3 rfl ?_
    refine rf_iconst C (v := (nI 1)) dL_law_421 rfl ?_
    refine rf_iadd C dL_law_422 ?_
    refine rf_sld C X dL_law_423 (fun v86 => ?_)
    refine rf_aload_n C dL_law_424 rfl 0 rfl ?_
    refine rf_iload_n C dL_law_425 rfl 3 rfl ?_
    refine rf_iconst C (v := (nI 2)) dL_law_426 rfl ?_
    refine rf_iadd C dL_law_427 ?_
    refine rf_sld C X dL_law_428 (fun v87 => ?_)
    refine rf_aload_n C dL_law_429 rfl 0 rfl ?_
    refine rf_iload_n C dL_law_430 rfl 3 rfl ?_
    refine rf_iconst C (v := (nI 3)) dL_law_431 rfl ?_
    refine rf_iadd C dL_law_432 ?_
    refine rf_sld C X dL_law_433 (fun v88 => ?_)
    refine rf_callVi C (rmc := rmOf 2 46) [.int v86, .int v87, .int v88] (by decide) (mX12_ahead (gL Γ) n v86 v87 v88 s84) mfX12_ahead mvX12_ahead mlL_56 rfl oX12 rfl rfl rfl (Nat.le_of_ble_eq_true rfl) ⟨Nat.le_of_ble_eq_true rfl, Nat.le_of_ble_eq_true rfl⟩ dL_law_434 (fun r90 s89 => ?_)
    refine rf_icmp_eq C 867 dL_law_437 (by decide) (fun _ => ?_) (fun _ => ?_)
    · exact rf_sub [0, 1, 2, 3] rfl (hj7 s89 trivial)
    refine rf_iconst C (v := (nI 0)) dL_law_440 rfl ?_
    exact RF.none
  refine rf_ite (fun hk91 => ?_) (fun hk91 => ?_)
  · refine rf_swIn C 442 dL_law_32 (by rw [hk91]; decide) (by rw [hk91]; decide) (by rw [hk91]; rfl) (by decide) ?_
    refine rf_aload_n C dL_law_442 rfl 1 rfl ?_
    refine rf_aload_n C dL_law_443 rfl 0 rfl ?_
    refine rf_iload_n C dL_law_444 rfl 3 rfl ?_
    refine rf_iconst C (v := (nI 1)) dL_law_445 rfl ?_
    refine rf_iadd C dL_law_446 ?_
    refine rf_sld C X dL_law_447 (fun v92 => ?_)
    refine rf_aload_n C dL_law_448 rfl 0 rfl ?_
    refine rf_iload_n C dL_law_449 rfl 3 rfl ?_
    refine rf_iconst C (v := (nI 2)) dL_law_450 rfl ?_
    refine rf_iadd C dL_law_451 ?_
    refine rf_sld C X dL_law_452 (fun v93 => ?_)
    refine rf_aload_n C dL_law_453 rfl 0 rfl ?_
    refine rf_iload_n C dL_law_454 rfl 3 rfl ?_
    refine rf_iconst C (v := (nI 3)) dL_law_455 rfl ?_
    refine rf_iadd C dL_law_456 ?_
    refine rf_sld C X dL_law_457 (fun v94 => ?_)
    refine rf_callVi C (rmc := rmOf 2 44) [.int v92, .int v93, .int v94] (by decide) (mX11_words (gL Γ) n v92 v93 v94 s3) mfX11_words mvX11_words mlL_57 rfl oX11w rfl rfl rfl (Nat.le_of_ble_eq_true rfl) ⟨Nat.le_of_ble_eq_true rfl, Nat.le_of_ble_eq_true rfl⟩ dL_law_458 (fun r96 s95 => ?_)
    refine rf_aload_n C dL_law_461 rfl 2 rfl ?_
    refine rf_aload_n C dL_law_462 rfl 0 rfl ?_
    refine rf_iload_n C dL_law_463 rfl 3 rfl ?_
    refine rf_iconst C (v := (nI 1)) dL_law_464 rfl ?_
    refine rf_iadd C dL_law_465 ?_
    refine rf_sld C X dL_law_466 (fun v97 => ?_)
    refine rf_aload_n C dL_law_467 rfl 0 rfl ?_
    refine rf_iload_n C dL_law_468 rfl 3 rfl ?_
    refine rf_iconst C (v := (nI 2)) dL_law_469 rfl ?_
    refine rf_iadd C dL_law_470 ?_
    refine rf_sld C X dL_law_471 (fun v98 => ?_)
    refine rf_aload_n C dL_law_472 rfl 0 rfl ?_
    refine rf_iload_n C dL_law_473 rfl 3 rfl ?_
    refine rf_iconst C (v := (nI 3)) dL_law_474 rfl ?_
    refine rf_iadd C dL_law_475 ?_
    refine rf_sld C X dL_law_476 (fun v99 => ?_)
    refine rf_callVi C (rmc := rmOf 3 65) [.int v97, .int v98, .int v99] (by decide) (mX12_words (gL Γ) n v97 v98 v99 s95) mfX12_words mvX12_words mlL_60 rfl oX12 rfl rfl rfl (Nat.le_of_ble_eq_true rfl) ⟨Nat.le_of_ble_eq_true rfl, Nat.le_of_ble_eq_true rfl⟩ dL_law_477 (fun r101 s100 => ?_)
    refine rf_icmp_eq C 867 dL_law_480 (by decide) (fun _ => ?_) (fun _ => ?_)
    · exact rf_sub [0, 1, 2, 3] rfl (hj7 s100 trivial)
    refine rf_iconst C (v := (nI 0)) dL_law_483 rfl ?_
    exact RF.none
  refine rf_ite (fun hk102 => ?_) (fun hk102 => ?_)
  · refine rf_swIn C 485 dL_law_32 (by rw [hk102]; decide) (by rw [hk102]; decide) (by rw [hk102]; rfl) (by decide) ?_
    refine rf_aload_n C dL_law_485 rfl 1 rfl ?_
    refine rf_aload_n C dL_law_486 rfl 0 rfl ?_
    refine rf_iload_n C dL_law_487 rfl 3 rfl ?_
    refine rf_iconst C (v := (nI 1)) dL_law_488 rfl ?_
    refine rf_iadd C dL_law_489 ?_
    refine rf_sld C X dL_law_490 (fun v103 => ?_)
    refine rf_aload_n C dL_law_491 rfl 0 rfl ?_
    refine rf_iload_n C dL_law_492 rfl 3 rfl ?_
    refine rf_iconst C (v := (nI 2)) dL_law_493 rfl ?_
    refine rf_iadd C dL_law_494 ?_
    refine rf_sld C X dL_law_495 (fun v104 => ?_)
    refine rf_aload_n C dL_law_496 rfl 0 rfl ?_
    refine rf_iload_n C dL_law_497 rfl 3 rfl ?_
    refine rf_iconst C (v := (nI 3)) dL_law_498 rfl ?_
    refine rf_iadd C dL_law_499 ?_
    refine rf_sld C X dL_law_500 (fun v105 => ?_)
    refine rf_callVi C (rmc := rmOf 2 43) [.int v103, .int v104, .int v105] (by decide) (mX11_word (gL Γ) n v103 v104 v105 s3) mfX11_word mvX11_word mlL_61 rfl oX11w rfl rfl rfl (Nat.le_of_ble_eq_true rfl) ⟨Nat.le_of_ble_eq_true rfl, Nat.le_of_ble_eq_true rfl⟩ dL_law_501 (fun r107 s106 => ?_)
    refine rf_aload_n C dL_law_504 rfl 2 rfl ?_
    refine rf_aload_n C dL_law_505 rfl 0 rfl ?_
    refine rf_iload_n C dL_law_506 rfl 3 rfl ?_
    refine rf_iconst C (v := (nI 1)) dL_law_507 rfl ?_
    refine rf_iadd C dL_law_508 ?_
    refine rf_sld C X dL_law_509 (fun v108 => ?_)
    refine rf_aload_n C dL_law_510 rfl 0 rfl ?_
    refine rf_iload_n C dL_law_511 rfl 3 rfl ?_
    refine rf_iconst C (v := (nI 2)) dL_law_512 rfl ?_
    refine rf_iadd C dL_law_513 ?_
    refine rf_sld C X dL_law_514 (fun v109 => ?_)
    refine rf_aload_n C dL_law_515 rfl 0 rfl ?_
    refine rf_iload_n C dL_law_516 rfl 3 rfl ?_
    refine rf_iconst C (v := (nI 3)) dL_law_517 rfl ?_
    refine rf_iadd C dL_law_518 ?_
    refine rf_sld C X dL_law_519 (fun v110 => ?_)
    refine rf_callVi C (rmc := rmOf 2 43) [.int v108, .int v109, .int v110] (by decide) (mX12_word (gL Γ) n v108 v109 v110 s106) mfX12_word mvX12_word mlL_64 rfl oX12 rfl rfl rfl (Nat.le_of_ble_eq_true rfl) ⟨Nat.le_of_ble_eq_true rfl, Nat.le_of_ble_eq_true rfl⟩ dL_law_520 (fun r112 s111 => ?_)
    refine rf_icmp_eq C 867 dL_law_523 (by decide) (fun _ => ?_) (fun _ => ?_)
    · exact rf_sub [0, 1, 2, 3] rfl (hj7 s111 trivial)
    refine rf_iconst C (v := (nI 0)) dL_law_526 rfl ?_
    exact RF.none
  refine rf_ite (fun hk113 => ?_) (fun hk113 => ?_)
  · refine rf_swIn C 528 dL_law_32 (by rw [hk113]; decide) (by rw [hk113]; decide) (by rw [hk113]; rfl) (by decide) ?_
    refine rf_aload_n C dL_law_528 rfl 1 rfl ?_
    refine rf_aload_n C dL_law_529 rfl 0 rfl ?_
    refine rf_iload_n C dL_law_530 rfl 3 rfl ?_
    refine rf_iconst C (v := (nI 1)) dL_law_531 rfl ?_
    refine rf_iadd C dL_law_532 ?_
    refine rf_sld C X dL_law_533 (fun v114 => ?_)
    refine rf_aload_n C dL_law_534 rfl 0 rfl ?_
    refine rf_iload_n C dL_law_535 rfl 3 rfl ?_
    refine rf_iconst C (v := (nI 2)) dL_law_536 rfl ?_
    refine rf_iadd C dL_law_537 ?_
    refine rf_sld C X dL_law_538 (fun v115 => ?_)
    refine rf_callVi C (rmc := rmOf 2 48) [.int v114, .int v115] (by decide) (mX11_marks (gL Γ) n v114 v115 s3) mfX11_marks mvX11_marks mlL_65 rfl oX11w rfl rfl rfl (Nat.le_of_ble_eq_true rfl) ⟨Nat.le_of_ble_eq_true rfl, Nat.le_of_ble_eq_true rfl⟩ dL_law_539 (fun r117 s116 => ?_)
    refine rf_aload_n C dL_law_542 rfl 2 rfl ?_
    refine rf_aload_n C dL_law_543 rfl 0 rfl ?_
    refine rf_iload_n C dL_law_544 rfl 3 rfl ?_
    refine rf_iconst C (v := (nI 1)) dL_law_545 rfl ?_
    refine rf_iadd C dL_law_546 ?_
    refine rf_sld C X dL_law_547 (fun v118 => ?_)
    refine rf_aload_n C dL_law_548 rfl 0 rfl ?_
    refine rf_iload_n C dL_law_549 rfl 3 rfl ?_
    refine rf_iconst C (v := (nI 2)) dL_law_550 rfl ?_
    refine rf_iadd C dL_law_551 ?_
    refine rf_sld C X dL_law_552 (fun v119 => ?_)
    refine rf_callVi C (rmc := rmOf 3 66) [.int v118, .int v119] (by decide) (mX12_marks (gL Γ) n v118 v119 s116) mfX12_marks mvX12_marks mlL_68 rfl oX12 rfl rfl rfl (Nat.le_of_ble_eq_true rfl) ⟨Nat.le_of_ble_eq_true rfl, Nat.le_of_ble_eq_true rfl⟩ dL_law_553 (fun r121 s120 => ?_)
    refine rf_icmp_eq C 867 dL_law_556 (by decide) (fun _ => ?_) (fun _ => ?_)
    · exact rf_sub [0, 1, 2, 3] rfl (hj7 s120 trivial)
    refine rf_iconst C (v := (nI 0)) dL_law_559 rfl ?_
    exact RF.none
  refine rf_ite (fun hk122 => ?_) (fun hk122 => ?_)
  · refine rf_swIn C 561 dL_law_32 (by rw [hk122]; decide) (by rw [hk122]; decide) (by rw [hk122]; rfl) (by decide) ?_
    refine rf_aload_n C dL_law_561 rfl 1 rfl ?_
    refine rf_aload_n C dL_law_562 rfl 0 rfl ?_
    refine rf_iload_n C dL_law_563 rfl 3 rfl ?_
    refine rf_iconst C (v := (nI 1)) dL_law_564 rfl ?_
    refine rf_iadd C dL_law_565 ?_
    refine rf_sld C X dL_law_566 (fun v123 => ?_)
    refine rf_callVi C (rmc := rmOf 2 42) [.int v123] (by decide) (mX11_depth (gL Γ) v123 s3) mfX11_depth mvX11_depth mlL_69 rfl oX11w rfl rfl rfl (Nat.le_of_ble_eq_true rfl) ⟨Nat.le_of_ble_eq_true rfl, Nat.le_of_ble_eq_true rfl⟩ dL_law_567 (fun r125 s124 => ?_)
    refine rf_aload_n C dL_law_570 rfl 2 rfl ?_
    refine rf_aload_n C dL_law_571 rfl 0 rfl ?_
    refine rf_iload_n C dL_law_572 rfl 3 rfl ?_
    refine rf_iconst C (v := (nI 1)) dL_law_573 rfl ?_
    refine rf_iadd C dL_law_574 ?_
    refine rf_sld C X dL_law_575 (fun v126 => ?_)
    refine rf_callVi C (rmc := rmOf 4 93) [.int v126] (by decide) (mX12_depth (gL Γ) n v126 s124) mfX12_depth mvX12_depth mlL_72 rfl oX12 rfl rfl rfl (Nat.le_of_ble_eq_true rfl) ⟨Nat.le_of_ble_eq_true rfl, Nat.le_of_ble_eq_true rfl⟩ dL_law_576 (fun r128 s127 => ?_)
    refine rf_icmp_eq C 867 dL_law_579 (by decide) (fun _ => ?_) (fun _ => ?_)
    · exact rf_sub [0, 1, 2, 3] rfl (hj7 s127 trivial)
    refine rf_iconst C (v := (nI 0)) dL_law_582 rfl ?_
    exact RF.none
  refine rf_ite (fun hk129 => ?_) (fun hk129 => ?_)
  · refine rf_swIn C 584 dL_law_32 (by rw [hk129]; decide) (by rw [hk129]; decide) (by rw [hk129]; rfl) (by decide) ?_
    refine rf_aload_n C dL_law_584 rfl 1 rfl ?_
    refine rf_aload_n C dL_law_585 rfl 0 rfl ?_
    refine rf_iload_n C dL_law_586 rfl 3 rfl ?_
    refine rf_iconst C (v := (nI 1)) dL_law_587 rfl ?_
    refine rf_iadd C dL_law_588 ?_
    refine rf_sld C X dL_law_589 (fun v130 => ?_)
    refine rf_callVi C (rmc := rmOf 2 42) [.int v130] (by decide) (mX11_approximate (gL Γ) v130 s3) mfX11_approximate mvX11_approximate mlL_73 rfl oX11w rfl rfl rfl (Nat.le_of_ble_eq_true rfl) ⟨Nat.le_of_ble_eq_true rfl, Nat.le_of_ble_eq_true rfl⟩ dL_law_590 (fun r132 s131 => ?_)
    refine rf_aload_n C dL_law_593 rfl 2 rfl ?_
    refine rf_aload_n C dL_law_594 rfl 0 rfl ?_
    refine rf_iload_n C dL_law_595 rfl 3 rfl ?_
    refine rf_iconst C (v := (nI 1)) dL_law_596 rfl ?_
    refine rf_iadd C dL_law_597 ?_
    refine rf_sld C X dL_law_598 (fun v133 => ?_)
    refine rf_callVi C (rmc := rmOf 5 114) [.int v133] (by decide) (mX12_approximate (gL Γ) n v133 s131) mfX12_approximate mvX12_approximate mlL_76 rfl oX12 rfl rfl rfl (Nat.le_of_ble_eq_true rfl) ⟨Nat.le_of_ble_eq_true rfl, Nat.le_of_ble_eq_true rfl⟩ dL_law_599 (fun r135 s134 => ?_)
    refine rf_icmp_eq C 867 dL_law_602 (by decide) (fun _ => ?_) (fun _ => ?_)
    · exact rf_sub [0, 1, 2, 3] rfl (hj7 s134 trivial)
    refine rf_iconst C (v := (nI 0)) dL_law_605 rfl ?_
    exact RF.none
  refine rf_ite (fun hk136 => ?_) (fun hk136 => ?_)
  · refine rf_swIn C 607 dL_law_32 (by rw [hk136]; decide) (by rw [hk136]; decide) (by rw [hk136]; rfl) (by decide) ?_
    refine rf_aload_n C dL_law_607 rfl 1 rfl ?_
    refine rf_aload_n C dL_law_608 rfl 0 rfl ?_
    refine rf_iload_n C dL_law_609 rfl 3 rfl ?_
    refine rf_iconst C (v := (nI 1)) dL_law_610 rfl ?_
    refine rf_iadd C dL_law_611 ?_
    refine rf_sld C X dL_law_612 (fun v137 => ?_)
    refine rf_jn2 (fun _ _ => True) (fun _ s139 => s139) (fun v138 s139 => [(0, .ref b), (1, .ref ((gE Γ).2.1 0)), (2, .ref ((gE Γ).2.1 148)), (3, .int v2)]) (fun v138 s139 => [.int v138, .ref ((gE Γ).2.1 0)]) 621 (fun v138 s139 _ => ?_) (fun j140 hj140 => ?_)
    · refine rf_callVi C (rmc := rmOf 2 42) [.int v138] (by decide) (mX11_deepest (gL Γ) n v138 s139) mfX11_deepest mvX11_deepest mlL_77 rfl oX11w rfl rfl rfl (Nat.le_of_ble_eq_true rfl) ⟨Nat.le_of_ble_eq_true rfl, Nat.le_of_ble_eq_true rfl⟩ dL_law_621 (fun r142 s141 => ?_)
      refine rf_aload_n C dL_law_624 rfl 2 rfl ?_
      refine rf_aload_n C dL_law_625 rfl 0 rfl ?_
      refine rf_iload_n C dL_law_626 rfl 3 rfl ?_
      refine rf_iconst C (v := (nI 1)) dL_law_627 rfl ?_
      refine rf_iadd C dL_law_628 ?_
      refine rf_sld C X dL_law_629 (fun v143 => ?_)
      refine rf_jn2 (fun _ _ => True) (fun _ s145 => s145) (fun v144 s145 => [(0, .ref b), (1, .ref ((gE Γ).2.1 0)), (2, .ref ((gE Γ).2.1 148)), (3, .int v2)]) (fun v144 s145 => [.int v144, .ref ((gE Γ).2.1 148), .int r142]) 638 (fun v144 s145 _ => ?_) (fun j146 hj146 => ?_)
      · refine rf_callVi C (rmc := rmOf 5 114) [.int v144] (by decide) (mX12_deepest (gL Γ) n v144 s145) mfX12_deepest mvX12_deepest mlL_81 rfl oX12 rfl rfl rfl (Nat.le_of_ble_eq_true rfl) ⟨Nat.le_of_ble_eq_true rfl, Nat.le_of_ble_eq_true rfl⟩ dL_law_638 (fun r148 s147 => ?_)
        refine rf_icmp_eq C 867 dL_law_641 (by decide) (fun _ => ?_) (fun _ => ?_)
        · exact rf_sub [0, 1, 2, 3] rfl (hj7 s147 trivial)
        refine rf_iconst C (v := (nI 0)) dL_law_644 rfl ?_
        exact RF.none
      refine rf_if_eq C 637 dL_law_630 (by decide) (fun _ => ?_) (fun _ => ?_)
      · refine rf_iconst C (v := (nI 0)) dL_law_637 rfl ?_
        exact rf_sub [0, 1, 2, 3] rfl (hj146 (nI 0) s141 trivial)
      refine rf_iconst C (v := (nI 1)) dL_law_633 rfl ?_
      refine rf_goto C 638 dL_law_634 (by decide) ?_
      exact rf_sub [0, 1, 2, 3] rfl (hj146 (nI 1) s141 trivial)
    refine rf_if_eq C 620 dL_law_613 (by decide) (fun _ => ?_) (fun _ => ?_)
    · refine rf_iconst C (v := (nI 0)) dL_law_620 rfl ?_
      exact rf_sub [0, 1, 2, 3] rfl (hj140 (nI 0) s3 trivial)
    refine rf_iconst C (v := (nI 1)) dL_law_616 rfl ?_
    refine rf_goto C 621 dL_law_617 (by decide) ?_
    exact rf_sub [0, 1, 2, 3] rfl (hj140 (nI 1) s3 trivial)
  refine rf_ite (fun hk149 => ?_) (fun hk149 => ?_)
  · refine rf_swIn C 646 dL_law_32 (by rw [hk149]; decide) (by rw [hk149]; decide) (by rw [hk149]; rfl) (by decide) ?_
    refine rf_aload_n C dL_law_646 rfl 1 rfl ?_
    refine rf_aload_n C dL_law_647 rfl 0 rfl ?_
    refine rf_iload_n C dL_law_648 rfl 3 rfl ?_
    refine rf_iconst C (v := (nI 1)) dL_law_649 rfl ?_
    refine rf_iadd C dL_law_650 ?_
    refine rf_sld C X dL_law_651 (fun v150 => ?_)
    refine rf_aload_n C dL_law_652 rfl 0 rfl ?_
    refine rf_iload_n C dL_law_653 rfl 3 rfl ?_
    refine rf_iconst C (v := (nI 2)) dL_law_654 rfl ?_
    refine rf_iadd C dL_law_655 ?_
    refine rf_sld C X dL_law_656 (fun v151 => ?_)
    refine rf_callVi C (rmc := rmOf 2 48) [.int v150, .int v151] (by decide) (mX11_clash (gL Γ) n v150 v151 s3) mfX11_clash mvX11_clash mlL_82 rfl oX11w rfl rfl rfl (Nat.le_of_ble_eq_true rfl) ⟨Nat.le_of_ble_eq_true rfl, Nat.le_of_ble_eq_true rfl⟩ dL_law_657 (fun r153 s152 => ?_)
    refine rf_aload_n C dL_law_660 rfl 2 rfl ?_
    refine rf_aload_n C dL_law_661 rfl 0 rfl ?_
    refine rf_iload_n C dL_law_662 rfl 3 rfl ?_
    refine rf_iconst C (v := (nI 1)) dL_law_663 rfl ?_
    refine rf_iadd C dL_law_664 ?_
    refine rf_sld C X dL_law_665 (fun v154 => ?_)
    refine rf_aload_n C dL_law_666 rfl 0 rfl ?_
    refine rf_iload_n C dL_law_667 rfl 3 rfl ?_
    refine rf_iconst C (v := (nI 2)) dL_law_668 rfl ?_
    refine rf_iadd C dL_law_669 ?_
    refine rf_sld C X dL_law_670 (fun v155 => ?_)
    refine rf_callVi C (rmc := rmOf 3 71) [.int v154, .int v155] (by decide) (mX12_clash (gL Γ) n v154 v155 s152) mfX12_clash mvX12_clash mlL_85 rfl oX12 rfl rfl rfl (Nat.le_of_ble_eq_true rfl) ⟨Nat.le_of_ble_eq_true rfl, Nat.le_of_ble_eq_true rfl⟩ dL_law_671 (fun r157 s156 => ?_)
    refine rf_icmp_eq C 867 dL_law_674 (by decide) (fun _ => ?_) (fun _ => ?_)
    · exact rf_sub [0, 1, 2, 3] rfl (hj7 s156 trivial)
    refine rf_iconst C (v := (nI 0)) dL_law_677 rfl ?_
    exact RF.none
  refine rf_ite (fun hk158 => ?_) (fun hk158 => ?_)
  · refine rf_swIn C 679 dL_law_32 (by rw [hk158]; decide) (by rw [hk158]; decide) (by rw [hk158]; rfl) (by decide) ?_
    refine rf_aload_n C dL_law_679 rfl 1 rfl ?_
    refine rf_aload_n C dL_law_680 rfl 0 rfl ?_
    refine rf_iload_n C dL_law_681 rfl 3 rfl ?_
    refine rf_iconst C (v := (nI 1)) dL_law_682 rfl ?_
    refine rf_iadd C dL_law_683 ?_
    refine rf_sld C X dL_law_684 (fun v159 => ?_)
    refine rf_aload_n C dL_law_685 rfl 0 rfl ?_
    refine rf_iload_n C dL_law_686 rfl 3 rfl ?_
    refine rf_iconst C (v := (nI 2)) dL_law_687 rfl ?_
    refine rf_iadd C dL_law_688 ?_
    refine rf_sld C X dL_law_689 (fun v160 => ?_)
    refine rf_aload_n C dL_law_690 rfl 0 rfl ?_
    refine rf_iload_n C dL_law_691 rfl 3 rfl ?_
    refine rf_iconst C (v := (nI 3)) dL_law_692 rfl ?_
    refine rf_iadd C dL_law_693 ?_
    refine rf_sld C X dL_law_694 (fun v161 => ?_)
    refine rf_callVi C (rmc := rmOf 2 43) [.int v159, .int v160, .int v161] (by decide) (mX11_clashWord (gL Γ) n v159 v160 v161 s3) mfX11_clashWord mvX11_clashWord mlL_86 rfl oX11w rfl rfl rfl (Nat.le_of_ble_eq_true rfl) ⟨Nat.le_of_ble_eq_true rfl, Nat.le_of_ble_eq_true rfl⟩ dL_law_695 (fun r163 s162 => ?_)
    refine rf_aload_n C dL_law_698 rfl 2 rfl ?_
    refine rf_aload_n C dL_law_699 rfl 0 rfl ?_
    refine rf_iload_n C dL_law_700 rfl 3 rfl ?_
    refine rf_iconst C (v := (nI 1)) dL_law_701 rfl ?_
    refine rf_iadd C dL_law_702 ?_
    refine rf_sld C X dL_law_703 (fun v164 => ?_)
    refine rf_aload_n C dL_law_704 rfl 0 rfl ?_
    refine rf_iload_n C dL_law_705 rfl 3 rfl ?_
    refine rf_iconst C (v := (nI 2)) dL_law_706 rfl ?_
    refine rf_iadd C dL_law_707 ?_
    refine rf_sld C X dL_law_708 (fun v165 => ?_)
    refine rf_aload_n C dL_law_709 rfl 0 rfl ?_
    refine rf_iload_n C dL_law_710 rfl 3 rfl ?_
    refine rf_iconst C (v := (nI 3)) dL_law_711 rfl ?_
    refine rf_iadd C dL_law_712 ?_
    refine rf_sld C X dL_law_713 (fun v166 => ?_)
    refine rf_callVi C (rmc := rmOf 2 47) [.int v164, .int v165, .int v166] (by decide) (mX12_clashWord (gL Γ) n v164 v165 v166 s162) mfX12_clashWord mvX12_clashWord mlL_89 rfl oX12 rfl rfl rfl (Nat.le_of_ble_eq_true rfl) ⟨Nat.le_of_ble_eq_true rfl, Nat.le_of_ble_eq_true rfl⟩ dL_law_714 (fun r168 s167 => ?_)
    refine rf_icmp_eq C 867 dL_law_717 (by decide) (fun _ => ?_) (fun _ => ?_)
    · exact rf_sub [0, 1, 2, 3] rfl (hj7 s167 trivial)
    refine rf_iconst C (v := (nI 0)) dL_law_720 rfl ?_
    exact RF.none
  refine rf_ite (fun hk169 => ?_) (fun hk169 => ?_)
  · refine rf_swIn C 722 dL_law_32 (by rw [hk169]; decide) (by rw [hk169]; decide) (by rw [hk169]; rfl) (by decide) ?_
    refine rf_aload_n C dL_law_722 rfl 1 rfl ?_
    refine rf_callVi C (rmc := rmOf 4 95) [] (by decide) (mX11_parse (gL Γ) n s3) mfX11_parse mvX11_parse mlL_90 rfl oX11w rfl rfl rfl (Nat.le_of_ble_eq_true rfl) ⟨Nat.le_of_ble_eq_true rfl, Nat.le_of_ble_eq_true rfl⟩ dL_law_723 (fun r171 s170 => ?_)
    refine rf_aload_n C dL_law_726 rfl 2 rfl ?_
    refine rf_callVi C (rmc := rmOf 6 138) [] (by decide) (mX12_parse (gL Γ) n s170) mfX12_parse mvX12_parse mlL_93 rfl oX12 rfl rfl rfl (Nat.le_of_ble_eq_true rfl) ⟨Nat.le_of_ble_eq_true rfl, Nat.le_of_ble_eq_true rfl⟩ dL_law_727 (fun r173 s172 => ?_)
    refine rf_icmp_eq C 867 dL_law_730 (by decide) (fun _ => ?_) (fun _ => ?_)
    · exact rf_sub [0, 1, 2, 3] rfl (hj7 s172 trivial)
    refine rf_iconst C (v := (nI 0)) dL_law_733 rfl ?_
    exact RF.none
  refine rf_ite (fun hk174 => ?_) (fun hk174 => ?_)
  · refine rf_swIn C 735 dL_law_32 (by rw [hk174]; decide) (by rw [hk174]; decide) (by rw [hk174]; rfl) (by decide) ?_
    refine rf_aload_n C dL_law_735 rfl 1 rfl ?_
    refine rf_aload_n C dL_law_736 rfl 0 rfl ?_
    refine rf_iload_n C dL_law_737 rfl 3 rfl ?_
    refine rf_iconst C (v := (nI 1)) dL_law_738 rfl ?_
    refine rf_iadd C dL_law_739 ?_
    refine rf_sld C X dL_law_740 (fun v175 => ?_)
    refine rf_callVi C (rmc := rmOf 1 21) [.int v175] (by decide) (mX11_chosen (gL Γ) v175 s3) mfX11_chosen mvX11_chosen mlL_94 rfl oX11w rfl rfl rfl (Nat.le_of_ble_eq_true rfl) ⟨Nat.le_of_ble_eq_true rfl, Nat.le_of_ble_eq_true rfl⟩ dL_law_741 (fun r177 s176 => ?_)
    refine rf_aload_n C dL_law_744 rfl 2 rfl ?_
    refine rf_aload_n C dL_law_745 rfl 0 rfl ?_
    refine rf_iload_n C dL_law_746 rfl 3 rfl ?_
    refine rf_iconst C (v := (nI 1)) dL_law_747 rfl ?_
    refine rf_iadd C dL_law_748 ?_
    refine rf_sld C X dL_law_749 (fun v178 => ?_)
    refine rf_callVi C (rmc := rmOf 0 0) [.int v178] (by decide) (mX12_chosen (gL Γ) v178 s176) mfX12_chosen mvX12_chosen mlL_97 rfl oX12 rfl rfl rfl (Nat.le_of_ble_eq_true rfl) ⟨Nat.le_of_ble_eq_true rfl, Nat.le_of_ble_eq_true rfl⟩ dL_law_750 (fun r180 s179 => ?_)
    refine rf_icmp_eq C 867 dL_law_753 (by decide) (fun _ => ?_) (fun _ => ?_)
    · exact rf_sub [0, 1, 2, 3] rfl (hj7 s179 trivial)
    refine rf_iconst C (v := (nI 0)) dL_law_756 rfl ?_
    exact RF.none
  refine rf_ite (fun hk181 => ?_) (fun hk181 => ?_)
  · refine rf_swIn C 758 dL_law_32 (by rw [hk181]; decide) (by rw [hk181]; decide) (by rw [hk181]; rfl) (by decide) ?_
    refine rf_aload_n C dL_law_758 rfl 1 rfl ?_
    refine rf_callVi C (rmc := rmOf 5 139) [] (by decide) (mX11_derivations (gL Γ) n s3) mfX11_derivations mvX11_derivations mlL_98 rfl oX11w rfl rfl rfl (Nat.le_of_ble_eq_true rfl) ⟨Nat.le_of_ble_eq_true rfl, Nat.le_of_ble_eq_true rfl⟩ dL_law_759 (fun r183 s182 => ?_)
    refine rf_aload_n C dL_law_762 rfl 2 rfl ?_
    refine rf_callVi C (rmc := rmOf 4 95) [] (by decide) (mX12_derivations (gL Γ) n s182) mfX12_derivations mvX12_derivations mlL_101 rfl oX12 rfl rfl rfl (Nat.le_of_ble_eq_true rfl) ⟨Nat.le_of_ble_eq_true rfl, Nat.le_of_ble_eq_true rfl⟩ dL_law_763 (fun r185 s184 => ?_)
    refine rf_icmp_eq C 867 dL_law_766 (by decide) (fun _ => ?_) (fun _ => ?_)
    · exact rf_sub [0, 1, 2, 3] rfl (hj7 s184 trivial)
    refine rf_iconst C (v := (nI 0)) dL_law_769 rfl ?_
    exact RF.none
  refine rf_ite (fun hk186 => ?_) (fun hk186 => ?_)
  · refine rf_swIn C 771 dL_law_32 (by rw [hk186]; decide) (by rw [hk186]; decide) (by rw [hk186]; rfl) (by decide) ?_
    refine rf_aload_n C dL_law_771 rfl 1 rfl ?_
    refine rf_aload_n C dL_law_772 rfl 0 rfl ?_
    refine rf_iload_n C dL_law_773 rfl 3 rfl ?_
    refine rf_iconst C (v := (nI 1)) dL_law_774 rfl ?_
    refine rf_iadd C dL_law_775 ?_
    refine rf_sld C X dL_law_776 (fun v187 => ?_)
    refine rf_aload_n C dL_law_777 rfl 0 rfl ?_
    refine rf_iload_n C dL_law_778 rfl 3 rfl ?_
    refine rf_iconst C (v := (nI 2)) dL_law_779 rfl ?_
    refine rf_iadd C dL_law_780 ?_
    refine rf_sld C X dL_law_781 (fun v188 => ?_)
    refine rf_callVi C (rmc := rmOf 6 160) [.int v187, .int v188] (by decide) (mX11_step (gL Γ) n v187 v188 s3) mfX11_step mvX11_step mlL_102 rfl oX11w rfl rfl rfl (Nat.le_of_ble_eq_true rfl) ⟨Nat.le_of_ble_eq_true rfl, Nat.le_of_ble_eq_true rfl⟩ dL_law_782 (fun r190 s189 => ?_)
    refine rf_aload_n C dL_law_785 rfl 2 rfl ?_
    refine rf_aload_n C dL_law_786 rfl 0 rfl ?_
    refine rf_iload_n C dL_law_787 rfl 3 rfl ?_
    refine rf_iconst C (v := (nI 1)) dL_law_788 rfl ?_
    refine rf_iadd C dL_law_789 ?_
    refine rf_sld C X dL_law_790 (fun v191 => ?_)
    refine rf_aload_n C dL_law_791 rfl 0 rfl ?_
    refine rf_iload_n C dL_law_792 rfl 3 rfl ?_
    refine rf_iconst C (v := (nI 2)) dL_law_793 rfl ?_
    refine rf_iadd C dL_law_794 ?_
    refine rf_sld C X dL_law_795 (fun v192 => ?_)
    refine rf_callVi C (rmc := rmOf 5 116) [.int v191, .int v192] (by decide) (mX12_step (gL Γ) n v191 v192 s189) mfX12_step mvX12_step mlL_105 rfl oX12 rfl rfl rfl (Nat.le_of_ble_eq_true rfl) ⟨Nat.le_of_ble_eq_true rfl, Nat.le_of_ble_eq_true rfl⟩ dL_law_796 (fun r194 s193 => ?_)
    refine rf_icmp_eq C 867 dL_law_799 (by decide) (fun _ => ?_) (fun _ => ?_)
    · exact rf_sub [0, 1, 2, 3] rfl (hj7 s193 trivial)
    refine rf_iconst C (v := (nI 0)) dL_law_802 rfl ?_
    exact RF.none
  refine rf_ite (fun hk195 => ?_) (fun hk195 => ?_)
  · refine rf_swIn C 804 dL_law_32 (by rw [hk195]; decide) (by rw [hk195]; decide) (by rw [hk195]; rfl) (by decide) ?_
    refine rf_aload_n C dL_law_804 rfl 1 rfl ?_
    refine rf_callVi C (rmc := rmOf 6 160) [] (by decide) (mX11_ambiguous (gL Γ) n s3) mfX11_ambiguous mvX11_ambiguous mlL_106 rfl oX11w rfl rfl rfl (Nat.le_of_ble_eq_true rfl) ⟨Nat.le_of_ble_eq_true rfl, Nat.le_of_ble_eq_true rfl⟩ dL_law_805 (fun r197 s196 => ?_)
    refine rf_aload_n C dL_law_808 rfl 2 rfl ?_
    refine rf_callVi C (rmc := rmOf 4 95) [] (by decide) (mX12_ambiguous (gL Γ) n s196) mfX12_ambiguous mvX12_ambiguous mlL_109 rfl oX12 rfl rfl rfl (Nat.le_of_ble_eq_true rfl) ⟨Nat.le_of_ble_eq_true rfl, Nat.le_of_ble_eq_true rfl⟩ dL_law_809 (fun r199 s198 => ?_)
    refine rf_icmp_eq C 867 dL_law_812 (by decide) (fun _ => ?_) (fun _ => ?_)
    · exact rf_sub [0, 1, 2, 3] rfl (hj7 s198 trivial)
    refine rf_iconst C (v := (nI 0)) dL_law_815 rfl ?_
    exact RF.none
  refine rf_ite (fun hk200 => ?_) (fun hk200 => ?_)
  · refine rf_swIn C 817 dL_law_32 (by rw [hk200]; decide) (by rw [hk200]; decide) (by rw [hk200]; rfl) (by decide) ?_
    refine rf_aload_n C dL_law_817 rfl 1 rfl ?_
    refine rf_aload_n C dL_law_818 rfl 0 rfl ?_
    refine rf_iload_n C dL_law_819 rfl 3 rfl ?_
    refine rf_iconst C (v := (nI 1)) dL_law_820 rfl ?_
    refine rf_iadd C dL_law_821 ?_
    refine rf_sld C X dL_law_822 (fun v201 => ?_)
    refine rf_callVi C (rmc := rmOf 1 20) [.int v201] (by decide) (mX11_told (gL Γ) v201 s3) mfX11_told mvX11_told mlL_110 rfl oX11w rfl rfl rfl (Nat.le_of_ble_eq_true rfl) ⟨Nat.le_of_ble_eq_true rfl, Nat.le_of_ble_eq_true rfl⟩ dL_law_823 (fun r203 s202 => ?_)
    refine rf_aload_n C dL_law_826 rfl 2 rfl ?_
    refine rf_aload_n C dL_law_827 rfl 0 rfl ?_
    refine rf_iload_n C dL_law_828 rfl 3 rfl ?_
    refine rf_iconst C (v := (nI 1)) dL_law_829 rfl ?_
    refine rf_iadd C dL_law_830 ?_
    refine rf_sld C X dL_law_831 (fun v204 => ?_)
    refine rf_callVi C (rmc := rmOf 4 88) [.int v204] (by decide) (mX12_told (gL Γ) n v204 s202) mfX12_told mvX12_told mlL_113 rfl oX12 rfl rfl rfl (Nat.le_of_ble_eq_true rfl) ⟨Nat.le_of_ble_eq_true rfl, Nat.le_of_ble_eq_true rfl⟩ dL_law_832 (fun r206 s205 => ?_)
    refine rf_icmp_eq C 867 dL_law_835 (by decide) (fun _ => ?_) (fun _ => ?_)
    · exact rf_sub [0, 1, 2, 3] rfl (hj7 s205 trivial)
    refine rf_iconst C (v := (nI 0)) dL_law_838 rfl ?_
    exact RF.none
  refine rf_ite (fun hk207 => ?_) (fun hk207 => ?_)
  · refine rf_swIn C 840 dL_law_32 (by rw [hk207]; decide) (by rw [hk207]; decide) (by rw [hk207]; rfl) (by decide) ?_
    refine rf_aload_n C dL_law_840 rfl 1 rfl ?_
    refine rf_callVi C (rmc := rmOf 7 161) [] (by decide) (mX11_undo (gL Γ) n s3) mfX11_undo mvX11_undo mlL_114 rfl oX11w rfl rfl rfl (Nat.le_of_ble_eq_true rfl) ⟨Nat.le_of_ble_eq_true rfl, Nat.le_of_ble_eq_true rfl⟩ dL_law_841 (fun r209 s208 => ?_)
    refine rf_aload_n C dL_law_844 rfl 2 rfl ?_
    refine rf_callVi C (rmc := rmOf 7 156) [] (by decide) (mX12_undo (gL Γ) n s208) mfX12_undo mvX12_undo mlL_117 rfl oX12 rfl rfl rfl (Nat.le_of_ble_eq_true rfl) ⟨Nat.le_of_ble_eq_true rfl, Nat.le_of_ble_eq_true rfl⟩ dL_law_845 (fun r211 s210 => ?_)
    refine rf_icmp_eq C 867 dL_law_848 (by decide) (fun _ => ?_) (fun _ => ?_)
    · exact rf_sub [0, 1, 2, 3] rfl (hj7 s210 trivial)
    refine rf_iconst C (v := (nI 0)) dL_law_851 rfl ?_
    exact RF.none
  refine rf_ite (fun hk212 => ?_) (fun hk212 => ?_)
  · refine rf_swIn C 853 dL_law_32 (by rw [hk212]; decide) (by rw [hk212]; decide) (by rw [hk212]; rfl) (by decide) ?_
    refine rf_aload_n C dL_law_853 rfl 1 rfl ?_
    refine rf_callVl C (rmc := rmOf 4 96) [] (by decide) (mX11_digest (gL Γ) n s3) mfX11_digest mvX11_digest mlL_118 rfl oX11w rfl rfl rfl (Nat.le_of_ble_eq_true rfl) ⟨Nat.le_of_ble_eq_true rfl, Nat.le_of_ble_eq_true rfl⟩ dL_law_854 (fun r214 s213 => ?_)
    refine rf_aload_n C dL_law_857 rfl 2 rfl ?_
    refine rf_callVl C (rmc := rmOf 6 138) [] (by decide) (mX12_digest (gL Γ) n s213) mfX12_digest mvX12_digest mlL_122 rfl oX12 rfl rfl rfl (Nat.le_of_ble_eq_true rfl) ⟨Nat.le_of_ble_eq_true rfl, Nat.le_of_ble_eq_true rfl⟩ dL_law_858 (fun r216 s215 => ?_)
    refine rf_lcmp_eq C 867 dL_law_861 dL_law_862 (by decide) (fun _ => ?_) (fun _ => ?_)
    · exact rf_sub [0, 1, 2, 3] rfl (hj7 s215 trivial)
    refine rf_iconst C (v := (nI 0)) dL_law_865 rfl ?_
    exact RF.none
  refine rf_swOut C 867 dL_law_32 (by have nhk9 := lv_neT hk9 (show (nI 0).toInt = 0 from rfl); have nhk16 := lv_neT hk16 (show (nI 1).toInt = 1 from rfl); have nhk21 := lv_neT hk21 (show (nI 2).toInt = 2 from rfl); have nhk26 := lv_neT hk26 (show (nI 3).toInt = 3 from rfl); have nhk31 := lv_neT hk31 (show (nI 4).toInt = 4 from rfl); have nhk40 := lv_neT hk40 (show (nI 5).toInt = 5 from rfl); have nhk49 := lv_neT hk49 (show (nI 6).toInt = 6 from rfl); have nhk58 := lv_neT hk58 (show (nI 7).toInt = 7 from rfl); have nhk69 := lv_neT hk69 (show (nI 8).toInt = 8 from rfl); have nhk80 := lv_neT hk80 (show (nI 9).toInt = 9 from rfl); have nhk91 := lv_neT hk91 (show (nI 10).toInt = 10 from rfl); have nhk102 := lv_neT hk102 (show (nI 11).toInt = 11 from rfl); have nhk113 := lv_neT hk113 (show (nI 12).toInt = 12 from rfl); have nhk122 := lv_neT hk122 (show (nI 13).toInt = 13 from rfl); have nhk129 := lv_neT hk129 (show (nI 14).toInt = 14 from rfl); have nhk136 := lv_neT hk136 (show (nI 15).toInt = 15 from rfl); have nhk149 := lv_neT hk149 (show (nI 16).toInt = 16 from rfl); have nhk158 := lv_neT hk158 (show (nI 17).toInt = 17 from rfl); have nhk169 := lv_neT hk169 (show (nI 18).toInt = 18 from rfl); have nhk174 := lv_neT hk174 (show (nI 19).toInt = 19 from rfl); have nhk181 := lv_neT hk181 (show (nI 20).toInt = 20 from rfl); have nhk186 := lv_neT hk186 (show (nI 21).toInt = 21 from rfl); have nhk195 := lv_neT hk195 (show (nI 22).toInt = 22 from rfl); have nhk200 := lv_neT hk200 (show (nI 23).toInt = 23 from rfl); have nhk207 := lv_neT hk207 (show (nI 24).toInt = 24 from rfl); have nhk212 := lv_neT hk212 (show (nI 25).toInt = 25 from rfl); omega) (by decide) ?_
  exact rf_sub [0, 1, 2, 3] rfl (hj7 s3 trivial)
