theorem obX8_3 : Cond.methodLink RX8 3 objectInit ∈ wsL_law := (inR3 _ (List.mem_of_getElem? (i := 2) rfl))
theorem obi : Cond.instanceMethod objectInit ∈ wsL_law := (inR1 _ (List.mem_of_getElem? (i := 10) rfl))
theorem obc : Cond.code objectInit ⟨#[0xb1]⟩ 1 none ∈ wsL_law := (inR1 _ (List.mem_of_getElem? (i := 11) rfl))
theorem acI : Cond.arrayClass .int ∈ wsL_law := (inR3 _ (List.mem_of_getElem? (i := 3) rfl))
theorem obX7_3 : Cond.methodLink RX7 3 objectInit ∈ wsL_law := (inR3 _ (List.mem_of_getElem? (i := 8) rfl))
theorem clX7_15 : Cond.classLink RX7 15 RX4 ∈ wsL_law := (inR3 _ (List.mem_of_getElem? (i := 10) rfl))
theorem inst4 : Cond.instantiable RX4 7 ∈ wsL_law := (inR2 _ (List.mem_of_getElem? (i := 21) rfl))
theorem ini4 : Cond.initialized RX4 ∈ wsL_law := (inR2 _ (List.mem_of_getElem? (i := 22) rfl))
theorem blk4 : ∀ j, j < 7 → defaultValue (tyX4 j) = vp_V [.null, .null, .null, .null, .null, .int 0, .int 0] j := fun j hj => by rcases (show j = 0 ∨ j = 1 ∨ j = 2 ∨ j = 3 ∨ j = 4 ∨ j = 5 ∨ j = 6 by omega) with rfl | rfl | rfl | rfl | rfl | rfl | rfl <;> rfl
theorem mfX4_init : MF yX4_init cX4_init 1 none 0 := ⟨(inR3 _ (List.mem_of_getElem? (i := 17) rfl)), (inR2 _ (List.mem_of_getElem? (i := 22) rfl)), by decide +kernel⟩
theorem obX4_3 : Cond.methodLink RX4 3 objectInit ∈ wsL_law := (inR3 _ (List.mem_of_getElem? (i := 18) rfl))
theorem imX4_init : Cond.instanceMethod yX4_init ∈ wsL_law := (inR3 _ (List.mem_of_getElem? (i := 16) rfl))
theorem obX5_3 : Cond.methodLink RX5 3 objectInit ∈ wsL_law := (inR4 _ (List.mem_of_getElem? (i := 5) rfl))
theorem clX5_9 : Cond.classLink RX5 9 RX4 ∈ wsL_law := (inR4 _ (List.mem_of_getElem? (i := 6) rfl))
theorem obX9_3 : Cond.methodLink RX9 3 objectInit ∈ wsL_law := (inR4 _ (List.mem_of_getElem? (i := 11) rfl))
theorem obX3_3 : Cond.methodLink RX3 3 objectInit ∈ wsL_law := (inR5 _ (List.mem_of_getElem? (i := 1) rfl))
theorem clX3_9 : Cond.classLink RX3 9 RX10 ∈ wsL_law := (inR5 _ (List.mem_of_getElem? (i := 2) rfl))
theorem inst10 : Cond.instantiable RX10 3 ∈ wsL_law := (inR5 _ (List.mem_of_getElem? (i := 3) rfl))
theorem ini10 : Cond.initialized RX10 ∈ wsL_law := (inR5 _ (List.mem_of_getElem? (i := 4) rfl))
theorem blk10 : ∀ j, j < 3 → defaultValue (tyX10 j) = vp_V [.null, .long 0, .long 0] j := fun j hj => by rcases (show j = 0 ∨ j = 1 ∨ j = 2 by omega) with rfl | rfl | rfl <;> rfl
theorem mfX10_init : MF yX10_init cX10_init 1 none 0 := ⟨(inR5 _ (List.mem_of_getElem? (i := 14) rfl)), (inR5 _ (List.mem_of_getElem? (i := 4) rfl)), by decide +kernel⟩
theorem obX10_3 : Cond.methodLink RX10 3 objectInit ∈ wsL_law := (inR5 _ (List.mem_of_getElem? (i := 15) rfl))
theorem acJ : Cond.arrayClass .long ∈ wsL_law := (inR5 _ (List.mem_of_getElem? (i := 16) rfl))
theorem imX10_init : Cond.instanceMethod yX10_init ∈ wsL_law := (inR5 _ (List.mem_of_getElem? (i := 13) rfl))
theorem mfX3_newSets : MF yX3_newSets cX3_newSets 3 (some (.array (.object "LookaheadDepths$WordSet"))) 1 := ⟨(inR5 _ (List.mem_of_getElem? (i := 22) rfl)), (inR2 _ (List.mem_of_getElem? (i := 6) rfl)), by decide +kernel⟩
theorem mlcX3_52 : Cond.methodLink RX3 52 Lib.Math.max.name ∈ wsL_law := (inR5 _ (List.mem_of_getElem? (i := 23) rfl))
theorem mthmaxc : Cond.static Lib.Math.max.name ∈ wsL_law ∧ Cond.initialized "java/lang/Math" ∈ wsL_law ∧ Cond.code Lib.Math.max.name Lib.Math.max.code 2 (some .int) ∈ wsL_law := ⟨(inR6 _ (List.mem_of_getElem? (i := 0) rfl)), (inR6 _ (List.mem_of_getElem? (i := 1) rfl)), (inR6 _ (List.mem_of_getElem? (i := 2) rfl))⟩
theorem msX3_newSets : MS yX3_newSets := (inR5 _ (List.mem_of_getElem? (i := 21) rfl))
theorem mlcX3_18 : ML RX3 18 yX3_newSets := (inR5 _ (List.mem_of_getElem? (i := 20) rfl))
theorem mlcX3_45 : ML RX3 45 yX10_addEmptyWord := (inR6 _ (List.mem_of_getElem? (i := 3) rfl))
theorem mfX10_addLetter : MF yX10_addLetter cX10_addLetter 2 none 1 := ⟨(inR6 _ (List.mem_of_getElem? (i := 10) rfl)), (inR5 _ (List.mem_of_getElem? (i := 4) rfl)), by decide +kernel⟩
theorem mvX10_addLetter : MV yX10_addLetter := ⟨(inR6 _ (List.mem_of_getElem? (i := 8) rfl)), (inR6 _ (List.mem_of_getElem? (i := 9) rfl))⟩
theorem mlcX3_48 : ML RX3 48 yX10_addLetter := (inR6 _ (List.mem_of_getElem? (i := 7) rfl))
theorem obX6_3 : Cond.methodLink RX6 3 objectInit ∈ wsL_law := (inR6 _ (List.mem_of_getElem? (i := 13) rfl))
theorem obX2_5 : Cond.methodLink RX2 5 objectInit ∈ wsL_law := (inR6 _ (List.mem_of_getElem? (i := 21) rfl))
theorem clX2_1 : Cond.classLink RX2 1 RX1 ∈ wsL_law := (inR6 _ (List.mem_of_getElem? (i := 22) rfl))
theorem inst1 : Cond.instantiable RX1 4 ∈ wsL_law := (inR6 _ (List.mem_of_getElem? (i := 23) rfl))
theorem ini1 : Cond.initialized RX1 ∈ wsL_law := (inR7 _ (List.mem_of_getElem? (i := 0) rfl))
theorem blk1 : ∀ j, j < 4 → defaultValue (tyX1 j) = vp_V [.null, .null, .null, .null] j := fun j hj => by rcases (show j = 0 ∨ j = 1 ∨ j = 2 ∨ j = 3 by omega) with rfl | rfl | rfl | rfl <;> rfl
theorem mfX1_init : MF yX1_init cX1_init 2 none 1 := ⟨(inR7 _ (List.mem_of_getElem? (i := 14) rfl)), (inR7 _ (List.mem_of_getElem? (i := 0) rfl)), by decide +kernel⟩
theorem obX1_3 : Cond.methodLink RX1 3 objectInit ∈ wsL_law := (inR7 _ (List.mem_of_getElem? (i := 15) rfl))
theorem mlcX1_21 : Cond.methodLink RX1 21 Lib.Math.max.name ∈ wsL_law := (inR7 _ (List.mem_of_getElem? (i := 19) rfl))
theorem imX1_init : Cond.instanceMethod yX1_init ∈ wsL_law := (inR7 _ (List.mem_of_getElem? (i := 13) rfl))
theorem mlcX2_13 : ML RX2 13 yX1_init := (inR7 _ (List.mem_of_getElem? (i := 12) rfl))
theorem mlcX2_53 : ML RX2 53 yX1_setEntry := (inR7 _ (List.mem_of_getElem? (i := 21) rfl))
theorem obX0_3 : Cond.methodLink RX0 3 objectInit ∈ wsL_law := (inR8 _ (List.mem_of_getElem? (i := 3) rfl))
theorem clX0_9 : Cond.classLink RX0 9 RX1 ∈ wsL_law := (inR8 _ (List.mem_of_getElem? (i := 4) rfl))
theorem mlcX0_13 : ML RX0 13 yX1_init := (inR8 _ (List.mem_of_getElem? (i := 8) rfl))
