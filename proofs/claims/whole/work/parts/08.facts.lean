theorem wsL_R {w : Cond} (h : w ∈ wsL_law_r1 ++ (wsL_law_r2 ++ (wsL_law_r3 ++ (wsL_law_r4 ++ (wsL_law_r5 ++ (wsL_law_r6 ++ (wsL_law_r7 ++ (wsL_law_r8 ++ (wsL_law_r9 ++ (wsL_law_r10 ++ (wsL_law_r11 ++ (wsL_law_r12 ++ (wsL_law_r13 ++ (wsL_law_r14 ++ (wsL_law_r15 ++ (wsL_law_r16 ++ (wsL_law_r17 ++ (wsL_law_r18 ++ (wsL_law_r19 ++ (wsL_law_r20 ++ (wsL_law_r21 ++ (wsL_law_r22 ++ (wsL_law_r23 ++ (wsL_law_r24 ++ (wsL_law_r25 ++ (wsL_law_r26 ++ (wsL_law_r27 ++ (wsL_law_r28 ++ (wsL_law_r29 ++ (wsL_law_r30 ++ (wsL_law_r31 ++ (wsL_law_r32 ++ (wsL_law_r33 ++ (wsL_law_r34 ++ (wsL_law_r35 ++ (wsL_law_r36 ++ (wsL_law_r37 ++ (wsL_law_r38 ++ (wsL_law_r39 ++ (wsL_law_r40 ++ (wsL_law_r41 ++ (wsL_law_r42 ++ (wsL_law_r43 ++ (wsL_law_r44 ++ (wsL_law_r45 ++ (wsL_law_r46 ++ (wsL_law_r47 ++ (wsL_law_r48 ++ (wsL_law_r49 ++ (wsL_law_r50 ++ (wsL_law_r51))))))))))))))))))))))))))))))))))))))))))))))))))) : w ∈ wsL_law := List.mem_append_left _ (List.mem_append_left _ (List.mem_append_left _ (List.mem_append_left _ (List.mem_append_left _ (List.mem_append_left _ (List.mem_append_left _ (List.mem_append_left _ (List.mem_append_left _ (List.mem_append_left _ (List.mem_append_left _ (List.mem_append_left _ (List.mem_append_left _ (List.mem_append_left _ (h))))))))))))))
theorem inR1 : ∀ w ∈ wsL_law_r1, w ∈ wsL_law := fun w h => wsL_R (List.mem_append_left _ h)
theorem inR2 : ∀ w ∈ wsL_law_r2, w ∈ wsL_law := fun w h => wsL_R (List.mem_append_right _ (List.mem_append_left _ h))
theorem inR3 : ∀ w ∈ wsL_law_r3, w ∈ wsL_law := fun w h => wsL_R (List.mem_append_right _ (List.mem_append_right _ (List.mem_append_left _ h)))
theorem inR4 : ∀ w ∈ wsL_law_r4, w ∈ wsL_law := fun w h => wsL_R (List.mem_append_right _ (List.mem_append_right _ (List.mem_append_right _ (List.mem_append_left _ h))))
theorem inR5 : ∀ w ∈ wsL_law_r5, w ∈ wsL_law := fun w h => wsL_R (List.mem_append_right _ (List.mem_append_right _ (List.mem_append_right _ (List.mem_append_right _ (List.mem_append_left _ h)))))
theorem inR6 : ∀ w ∈ wsL_law_r6, w ∈ wsL_law := fun w h => wsL_R (List.mem_append_right _ (List.mem_append_right _ (List.mem_append_right _ (List.mem_append_right _ (List.mem_append_right _ (List.mem_append_left _ h))))))
theorem inR7 : ∀ w ∈ wsL_law_r7, w ∈ wsL_law := fun w h => wsL_R (List.mem_append_right _ (List.mem_append_right _ (List.mem_append_right _ (List.mem_append_right _ (List.mem_append_right _ (List.mem_append_right _ (List.mem_append_left _ h)))))))
theorem inR8 : ∀ w ∈ wsL_law_r8, w ∈ wsL_law := fun w h => wsL_R (List.mem_append_right _ (List.mem_append_right _ (List.mem_append_right _ (List.mem_append_right _ (List.mem_append_right _ (List.mem_append_right _ (List.mem_append_right _ (List.mem_append_left _ h))))))))
theorem inR9 : ∀ w ∈ wsL_law_r9, w ∈ wsL_law := fun w h => wsL_R (List.mem_append_right _ (List.mem_append_right _ (List.mem_append_right _ (List.mem_append_right _ (List.mem_append_right _ (List.mem_append_right _ (List.mem_append_right _ (List.mem_append_right _ (List.mem_append_left _ h)))))))))
theorem inR10 : ∀ w ∈ wsL_law_r10, w ∈ wsL_law := fun w h => wsL_R (List.mem_append_right _ (List.mem_append_right _ (List.mem_append_right _ (List.mem_append_right _ (List.mem_append_right _ (List.mem_append_right _ (List.mem_append_right _ (List.mem_append_right _ (List.mem_append_right _ (List.mem_append_left _ h))))))))))
theorem inR11 : ∀ w ∈ wsL_law_r11, w ∈ wsL_law := fun w h => wsL_R (List.mem_append_right _ (List.mem_append_right _ (List.mem_append_right _ (List.mem_append_right _ (List.mem_append_right _ (List.mem_append_right _ (List.mem_append_right _ (List.mem_append_right _ (List.mem_append_right _ (List.mem_append_right _ (List.mem_append_left _ h)))))))))))
theorem inR12 : ∀ w ∈ wsL_law_r12, w ∈ wsL_law := fun w h => wsL_R (List.mem_append_right _ (List.mem_append_right _ (List.mem_append_right _ (List.mem_append_right _ (List.mem_append_right _ (List.mem_append_right _ (List.mem_append_right _ (List.mem_append_right _ (List.mem_append_right _ (List.mem_append_right _ (List.mem_append_right _ (List.mem_append_left _ h))))))))))))
theorem inR13 : ∀ w ∈ wsL_law_r13, w ∈ wsL_law := fun w h => wsL_R (List.mem_append_right _ (List.mem_append_right _ (List.mem_append_right _ (List.mem_append_right _ (List.mem_append_right _ (List.mem_append_right _ (List.mem_append_right _ (List.mem_append_right _ (List.mem_append_right _ (List.mem_append_right _ (List.mem_append_right _ (List.mem_append_right _ (List.mem_append_left _ h)))))))))))))
theorem inR14 : ∀ w ∈ wsL_law_r14, w ∈ wsL_law := fun w h => wsL_R (List.mem_append_right _ (List.mem_append_right _ (List.mem_append_right _ (List.mem_append_right _ (List.mem_append_right _ (List.mem_append_right _ (List.mem_append_right _ (List.mem_append_right _ (List.mem_append_right _ (List.mem_append_right _ (List.mem_append_right _ (List.mem_append_right _ (List.mem_append_right _ (List.mem_append_left _ h))))))))))))))
theorem inR15 : ∀ w ∈ wsL_law_r15, w ∈ wsL_law := fun w h => wsL_R (List.mem_append_right _ (List.mem_append_right _ (List.mem_append_right _ (List.mem_append_right _ (List.mem_append_right _ (List.mem_append_right _ (List.mem_append_right _ (List.mem_append_right _ (List.mem_append_right _ (List.mem_append_right _ (List.mem_append_right _ (List.mem_append_right _ (List.mem_append_right _ (List.mem_append_right _ (List.mem_append_left _ h)))))))))))))))
theorem inR16 : ∀ w ∈ wsL_law_r16, w ∈ wsL_law := fun w h => wsL_R (List.mem_append_right _ (List.mem_append_right _ (List.mem_append_right _ (List.mem_append_right _ (List.mem_append_right _ (List.mem_append_right _ (List.mem_append_right _ (List.mem_append_right _ (List.mem_append_right _ (List.mem_append_right _ (List.mem_append_right _ (List.mem_append_right _ (List.mem_append_right _ (List.mem_append_right _ (List.mem_append_right _ (List.mem_append_left _ h))))))))))))))))
theorem inR17 : ∀ w ∈ wsL_law_r17, w ∈ wsL_law := fun w h => wsL_R (List.mem_append_right _ (List.mem_append_right _ (List.mem_append_right _ (List.mem_append_right _ (List.mem_append_right _ (List.mem_append_right _ (List.mem_append_right _ (List.mem_append_right _ (List.mem_append_right _ (List.mem_append_right _ (List.mem_append_right _ (List.mem_append_right _ (List.mem_append_right _ (List.mem_append_right _ (List.mem_append_right _ (List.mem_append_right _ (List.mem_append_left _ h)))))))))))))))))
theorem inR18 : ∀ w ∈ wsL_law_r18, w ∈ wsL_law := fun w h => wsL_R (List.mem_append_right _ (List.mem_append_right _ (List.mem_append_right _ (List.mem_append_right _ (List.mem_append_right _ (List.mem_append_right _ (List.mem_append_right _ (List.mem_append_right _ (List.mem_append_right _ (List.mem_append_right _ (List.mem_append_right _ (List.mem_append_right _ (List.mem_append_right _ (List.mem_append_right _ (List.mem_append_right _ (List.mem_append_right _ (List.mem_append_right _ (List.mem_append_left _ h))))))))))))))))))
theorem inR19 : ∀ w ∈ wsL_law_r19, w ∈ wsL_law := fun w h => wsL_R (List.mem_append_right _ (List.mem_append_right _ (List.mem_append_right _ (List.mem_append_right _ (List.mem_append_right _ (List.mem_append_right _ (List.mem_append_right _ (List.mem_append_right _ (List.mem_append_right _ (List.mem_append_right _ (List.mem_append_right _ (List.mem_append_right _ (List.mem_append_right _ (List.mem_append_right _ (List.mem_append_right _ (List.mem_append_right _ (List.mem_append_right _ (List.mem_append_right _ (List.mem_append_left _ h)))))))))))))))))))
theorem inR20 : ∀ w ∈ wsL_law_r20, w ∈ wsL_law := fun w h => wsL_R (List.mem_append_right _ (List.mem_append_right _ (List.mem_append_right _ (List.mem_append_right _ (List.mem_append_right _ (List.mem_append_right _ (List.mem_append_right _ (List.mem_append_right _ (List.mem_append_right _ (List.mem_append_right _ (List.mem_append_right _ (List.mem_append_right _ (List.mem_append_right _ (List.mem_append_right _ (List.mem_append_right _ (List.mem_append_right _ (List.mem_append_right _ (List.mem_append_right _ (List.mem_append_right _ (List.mem_append_left _ h))))))))))))))))))))
theorem inR21 : ∀ w ∈ wsL_law_r21, w ∈ wsL_law := fun w h => wsL_R (List.mem_append_right _ (List.mem_append_right _ (List.mem_append_right _ (List.mem_append_right _ (List.mem_append_right _ (List.mem_append_right _ (List.mem_append_right _ (List.mem_append_right _ (List.mem_append_right _ (List.mem_append_right _ (List.mem_append_right _ (List.mem_append_right _ (List.mem_append_right _ (List.mem_append_right _ (List.mem_append_right _ (List.mem_append_right _ (List.mem_append_right _ (List.mem_append_right _ (List.mem_append_right _ (List.mem_append_right _ (List.mem_append_left _ h)))))))))))))))))))))
theorem inR22 : ∀ w ∈ wsL_law_r22, w ∈ wsL_law := fun w h => wsL_R (List.mem_append_right _ (List.mem_append_right _ (List.mem_append_right _ (List.mem_append_right _ (List.mem_append_right _ (List.mem_append_right _ (List.mem_append_right _ (List.mem_append_right _ (List.mem_append_right _ (List.mem_append_right _ (List.mem_append_right _ (List.mem_append_right _ (List.mem_append_right _ (List.mem_append_right _ (List.mem_append_right _ (List.mem_append_right _ (List.mem_append_right _ (List.mem_append_right _ (List.mem_append_right _ (List.mem_append_right _ (List.mem_append_right _ (List.mem_append_left _ h))))))))))))))))))))))
theorem inR23 : ∀ w ∈ wsL_law_r23, w ∈ wsL_law := fun w h => wsL_R (List.mem_append_right _ (List.mem_append_right _ (List.mem_append_right _ (List.mem_append_right _ (List.mem_append_right _ (List.mem_append_right _ (List.mem_append_right _ (List.mem_append_right _ (List.mem_append_right _ (List.mem_append_right _ (List.mem_append_right _ (List.mem_append_right _ (List.mem_append_right _ (List.mem_append_right _ (List.mem_append_right _ (List.mem_append_right _ (List.mem_append_right _ (List.mem_append_right _ (List.mem_append_right _ (List.mem_append_right _ (List.mem_append_right _ (List.mem_append_right _ (List.mem_append_left _ h)))))))))))))))))))))))
theorem inR24 : ∀ w ∈ wsL_law_r24, w ∈ wsL_law := fun w h => wsL_R (List.mem_append_right _ (List.mem_append_right _ (List.mem_append_right _ (List.mem_append_right _ (List.mem_append_right _ (List.mem_append_right _ (List.mem_append_right _ (List.mem_append_right _ (List.mem_append_right _ (List.mem_append_right _ (List.mem_append_right _ (List.mem_append_right _ (List.mem_append_right _ (List.mem_append_right _ (List.mem_append_right _ (List.mem_append_right _ (List.mem_append_right _ (List.mem_append_right _ (List.mem_append_right _ (List.mem_append_right _ (List.mem_append_right _ (List.mem_append_right _ (List.mem_append_right _ (List.mem_append_left _ h))))))))))))))))))))))))
theorem inR25 : ∀ w ∈ wsL_law_r25, w ∈ wsL_law := fun w h => wsL_R (List.mem_append_right _ (List.mem_append_right _ (List.mem_append_right _ (List.mem_append_right _ (List.mem_append_right _ (List.mem_append_right _ (List.mem_append_right _ (List.mem_append_right _ (List.mem_append_right _ (List.mem_append_right _ (List.mem_append_right _ (List.mem_append_right _ (List.mem_append_right _ (List.mem_append_right _ (List.mem_append_right _ (List.mem_append_right _ (List.mem_append_right _ (List.mem_append_right _ (List.mem_append_right _ (List.mem_append_right _ (List.mem_append_right _ (List.mem_append_right _ (List.mem_append_right _ (List.mem_append_right _ (List.mem_append_left _ h)))))))))))))))))))))))))
theorem inR26 : ∀ w ∈ wsL_law_r26, w ∈ wsL_law := fun w h => wsL_R (List.mem_append_right _ (List.mem_append_right _ (List.mem_append_right _ (List.mem_append_right _ (List.mem_append_right _ (List.mem_append_right _ (List.mem_append_right _ (List.mem_append_right _ (List.mem_append_right _ (List.mem_append_right _ (List.mem_append_right _ (List.mem_append_right _ (List.mem_append_right _ (List.mem_append_right _ (List.mem_append_right _ (List.mem_append_right _ (List.mem_append_right _ (List.mem_append_right _ (List.mem_append_right _ (List.mem_append_right _ (List.mem_append_right _ (List.mem_append_right _ (List.mem_append_right _ (List.mem_append_right _ (List.mem_append_right _ (List.mem_append_left _ h))))))))))))))))))))))))))
theorem inR27 : ∀ w ∈ wsL_law_r27, w ∈ wsL_law := fun w h => wsL_R (List.mem_append_right _ (List.mem_append_right _ (List.mem_append_right _ (List.mem_append_right _ (List.mem_append_right _ (List.mem_append_right _ (List.mem_append_right _ (List.mem_append_right _ (List.mem_append_right _ (List.mem_append_right _ (List.mem_append_right _ (List.mem_append_right _ (List.mem_append_right _ (List.mem_append_right _ (List.mem_append_right _ (List.mem_append_right _ (List.mem_append_right _ (List.mem_append_right _ (List.mem_append_right _ (List.mem_append_right _ (List.mem_append_right _ (List.mem_append_right _ (List.mem_append_right _ (List.mem_append_right _ (List.mem_append_right _ (List.mem_append_right _ (List.mem_append_left _ h)))))))))))))))))))))))))))
theorem inR28 : ∀ w ∈ wsL_law_r28, w ∈ wsL_law := fun w h => wsL_R (List.mem_append_right _ (List.mem_append_right _ (List.mem_append_right _ (List.mem_append_right _ (List.mem_append_right _ (List.mem_append_right _ (List.mem_append_right _ (List.mem_append_right _ (List.mem_append_right _ (List.mem_append_right _ (List.mem_append_right _ (List.mem_append_right _ (List.mem_append_right _ (List.mem_append_right _ (List.mem_append_right _ (List.mem_append_right _ (List.mem_append_right _ (List.mem_append_right _ (List.mem_append_right _ (List.mem_append_right _ (List.mem_append_right _ (List.mem_append_right _ (List.mem_append_right _ (List.mem_append_right _ (List.mem_append_right _ (List.mem_append_right _ (List.mem_append_right _ (List.mem_append_left _ h))))))))))))))))))))))))))))
theorem inR29 : ∀ w ∈ wsL_law_r29, w ∈ wsL_law := fun w h => wsL_R (List.mem_append_right _ (List.mem_append_right _ (List.mem_append_right _ (List.mem_append_right _ (List.mem_append_right _ (List.mem_append_right _ (List.mem_append_right _ (List.mem_append_right _ (List.mem_append_right _ (List.mem_append_right _ (List.mem_append_right _ (List.mem_append_right _ (List.mem_append_right _ (List.mem_append_right _ (List.mem_append_right _ (List.mem_append_right _ (List.mem_append_right _ (List.mem_append_right _ (List.mem_append_right _ (List.mem_append_right _ (List.mem_append_right _ (List.mem_append_right _ (List.mem_append_right _ (List.mem_append_right _ (List.mem_append_right _ (List.mem_append_right _ (List.mem_append_right _ (List.mem_append_right _ (List.mem_append_left _ h)))))))))))))))))))))))))))))
theorem inR30 : ∀ w ∈ wsL_law_r30, w ∈ wsL_law := fun w h => wsL_R (List.mem_append_right _ (List.mem_append_right _ (List.mem_append_right _ (List.mem_append_right _ (List.mem_append_right _ (List.mem_append_right _ (List.mem_append_right _ (List.mem_append_right _ (List.mem_append_right _ (List.mem_append_right _ (List.mem_append_right _ (List.mem_append_right _ (List.mem_append_right _ (List.mem_append_right _ (List.mem_append_right _ (List.mem_append_right _ (List.mem_append_right _ (List.mem_append_right _ (List.mem_append_right _ (List.mem_append_right _ (List.mem_append_right _ (List.mem_append_right _ (List.mem_append_right _ (List.mem_append_right _ (List.mem_append_right _ (List.mem_append_right _ (List.mem_append_right _ (List.mem_append_right _ (List.mem_append_right _ (List.mem_append_left _ h))))))))))))))))))))))))))))))
theorem inR31 : ∀ w ∈ wsL_law_r31, w ∈ wsL_law := fun w h => wsL_R (List.mem_append_right _ (List.mem_append_right _ (List.mem_append_right _ (List.mem_append_right _ (List.mem_append_right _ (List.mem_append_right _ (List.mem_append_right _ (List.mem_append_right _ (List.mem_append_right _ (List.mem_append_right _ (List.mem_append_right _ (List.mem_append_right _ (List.mem_append_right _ (List.mem_append_right _ (List.mem_append_right _ (List.mem_append_right _ (List.mem_append_right _ (List.mem_append_right _ (List.mem_append_right _ (List.mem_append_right _ (List.mem_append_right _ (List.mem_append_right _ (List.mem_append_right _ (List.mem_append_right _ (List.mem_append_right _ (List.mem_append_right _ (List.mem_append_right _ (List.mem_append_right _ (List.mem_append_right _ (List.mem_append_right _ (List.mem_append_left _ h)))))))))))))))))))))))))))))))
theorem inR32 : ∀ w ∈ wsL_law_r32, w ∈ wsL_law := fun w h => wsL_R (List.mem_append_right _ (List.mem_append_right _ (List.mem_append_right _ (List.mem_append_right _ (List.mem_append_right _ (List.mem_append_right _ (List.mem_append_right _ (List.mem_append_right _ (List.mem_append_right _ (List.mem_append_right _ (List.mem_append_right _ (List.mem_append_right _ (List.mem_append_right _ (List.mem_append_right _ (List.mem_append_right _ (List.mem_append_right _ (List.mem_append_right _ (List.mem_append_right _ (List.mem_append_right _ (List.mem_append_right _ (List.mem_append_right _ (List.mem_append_right _ (List.mem_append_right _ (List.mem_append_right _ (List.mem_append_right _ (List.mem_append_right _ (List.mem_append_right _ (List.mem_append_right _ (List.mem_append_right _ (List.mem_append_right _ (List.mem_append_right _ (List.mem_append_left _ h))))))))))))))))))))))))))))))))
theorem inR33 : ∀ w ∈ wsL_law_r33, w ∈ wsL_law := fun w h => wsL_R (List.mem_append_right _ (List.mem_append_right _ (List.mem_append_right _ (List.mem_append_right _ (List.mem_append_right _ (List.mem_append_right _ (List.mem_append_right _ (List.mem_append_right _ (List.mem_append_right _ (List.mem_append_right _ (List.mem_append_right _ (List.mem_append_right _ (List.mem_append_right _ (List.mem_append_right _ (List.mem_append_right _ (List.mem_append_right _ (List.mem_append_right _ (List.mem_append_right _ (List.mem_append_right _ (List.mem_append_right _ (List.mem_append_right _ (List.mem_append_right _ (List.mem_append_right _ (List.mem_append_right _ (List.mem_append_right _ (List.mem_append_right _ (List.mem_append_right _ (List.mem_append_right _ (List.mem_append_right _ (List.mem_append_right _ (List.mem_append_right _ (List.mem_append_right _ (List.mem_append_left _ h)))))))))))))))))))))))))))))))))
theorem inR34 : ∀ w ∈ wsL_law_r34, w ∈ wsL_law := fun w h => wsL_R (List.mem_append_right _ (List.mem_append_right _ (List.mem_append_right _ (List.mem_append_right _ (List.mem_append_right _ (List.mem_append_right _ (List.mem_append_right _ (List.mem_append_right _ (List.mem_append_right _ (List.mem_append_right _ (List.mem_append_right _ (List.mem_append_right _ (List.mem_append_right _ (List.mem_append_right _ (List.mem_append_right _ (List.mem_append_right _ (List.mem_append_right _ (List.mem_append_right _ (List.mem_append_right _ (List.mem_append_right _ (List.mem_append_right _ (List.mem_append_right _ (List.mem_append_right _ (List.mem_append_right _ (List.mem_append_right _ (List.mem_append_right _ (List.mem_append_right _ (List.mem_append_right _ (List.mem_append_right _ (List.mem_append_right _ (List.mem_append_right _ (List.mem_append_right _ (List.mem_append_right _ (List.mem_append_left _ h))))))))))))))))))))))))))))))))))
theorem inR35 : ∀ w ∈ wsL_law_r35, w ∈ wsL_law := fun w h => wsL_R (List.mem_append_right _ (List.mem_append_right _ (List.mem_append_right _ (List.mem_append_right _ (List.mem_append_right _ (List.mem_append_right _ (List.mem_append_right _ (List.mem_append_right _ (List.mem_append_right _ (List.mem_append_right _ (List.mem_append_right _ (List.mem_append_right _ (List.mem_append_right _ (List.mem_append_right _ (List.mem_append_right _ (List.mem_append_right _ (List.mem_append_right _ (List.mem_append_right _ (List.mem_append_right _ (List.mem_append_right _ (List.mem_append_right _ (List.mem_append_right _ (List.mem_append_right _ (List.mem_append_right _ (List.mem_append_right _ (List.mem_append_right _ (List.mem_append_right _ (List.mem_append_right _ (List.mem_append_right _ (List.mem_append_right _ (List.mem_append_right _ (List.mem_append_right _ (List.mem_append_right _ (List.mem_append_right _ (List.mem_append_left _ h)))))))))))))))))))))))))))))))))))
theorem inR36 : ∀ w ∈ wsL_law_r36, w ∈ wsL_law := fun w h => wsL_R (List.mem_append_right _ (List.mem_append_right _ (List.mem_append_right _ (List.mem_append_right _ (List.mem_append_right _ (List.mem_append_right _ (List.mem_append_right _ (List.mem_append_right _ (List.mem_append_right _ (List.mem_append_right _ (List.mem_append_right _ (List.mem_append_right _ (List.mem_append_right _ (List.mem_append_right _ (List.mem_append_right _ (List.mem_append_right _ (List.mem_append_right _ (List.mem_append_right _ (List.mem_append_right _ (List.mem_append_right _ (List.mem_append_right _ (List.mem_append_right _ (List.mem_append_right _ (List.mem_append_right _ (List.mem_append_right _ (List.mem_append_right _ (List.mem_append_right _ (List.mem_append_right _ (List.mem_append_right _ (List.mem_append_right _ (List.mem_append_right _ (List.mem_append_right _ (List.mem_append_right _ (List.mem_append_right _ (List.mem_append_right _ (List.mem_append_left _ h))))))))))))))))))))))))))))))))))))
theorem inR37 : ∀ w ∈ wsL_law_r37, w ∈ wsL_law := fun w h => wsL_R (List.mem_append_right _ (List.mem_append_right _ (List.mem_append_right _ (List.mem_append_right _ (List.mem_append_right _ (List.mem_append_right _ (List.mem_append_right _ (List.mem_append_right _ (List.mem_append_right _ (List.mem_append_right _ (List.mem_append_right _ (List.mem_append_right _ (List.mem_append_right _ (List.mem_append_right _ (List.mem_append_right _ (List.mem_append_right _ (List.mem_append_right _ (List.mem_append_right _ (List.mem_append_right _ (List.mem_append_right _ (List.mem_append_right _ (List.mem_append_right _ (List.mem_append_right _ (List.mem_append_right _ (List.mem_append_right _ (List.mem_append_right _ (List.mem_append_right _ (List.mem_append_right _ (List.mem_append_right _ (List.mem_append_right _ (List.mem_append_right _ (List.mem_append_right _ (List.mem_append_right _ (List.mem_append_right _ (List.mem_append_right _ (List.mem_append_right _ (List.mem_append_left _ h)))))))))))))))))))))))))))))))))))))
theorem inR38 : ∀ w ∈ wsL_law_r38, w ∈ wsL_law := fun w h => wsL_R (List.mem_append_right _ (List.mem_append_right _ (List.mem_append_right _ (List.mem_append_right _ (List.mem_append_right _ (List.mem_append_right _ (List.mem_append_right _ (List.mem_append_right _ (List.mem_append_right _ (List.mem_append_right _ (List.mem_append_right _ (List.mem_append_right _ (List.mem_append_right _ (List.mem_append_right _ (List.mem_append_right _ (List.mem_append_right _ (List.mem_append_right _ (List.mem_append_right _ (List.mem_append_right _ (List.mem_append_right _ (List.mem_append_right _ (List.mem_append_right _ (List.mem_append_right _ (List.mem_append_right _ (List.mem_append_right _ (List.mem_append_right _ (List.mem_append_right _ (List.mem_append_right _ (List.mem_append_right _ (List.mem_append_right _ (List.mem_append_right _ (List.mem_append_right _ (List.mem_append_right _ (List.mem_append_right _ (List.mem_append_right _ (List.mem_append_right _ (List.mem_append_right _ (List.mem_append_left _ h))))))))))))))))))))))))))))))))))))))
theorem inR39 : ∀ w ∈ wsL_law_r39, w ∈ wsL_law := fun w h => wsL_R (List.mem_append_right _ (List.mem_append_right _ (List.mem_append_right _ (List.mem_append_right _ (List.mem_append_right _ (List.mem_append_right _ (List.mem_append_right _ (List.mem_append_right _ (List.mem_append_right _ (List.mem_append_right _ (List.mem_append_right _ (List.mem_append_right _ (List.mem_append_right _ (List.mem_append_right _ (List.mem_append_right _ (List.mem_append_right _ (List.mem_append_right _ (List.mem_append_right _ (List.mem_append_right _ (List.mem_append_right _ (List.mem_append_right _ (List.mem_append_right _ (List.mem_append_right _ (List.mem_append_right _ (List.mem_append_right _ (List.mem_append_right _ (List.mem_append_right _ (List.mem_append_right _ (List.mem_append_right _ (List.mem_append_right _ (List.mem_append_right _ (List.mem_append_right _ (List.mem_append_right _ (List.mem_append_right _ (List.mem_append_right _ (List.mem_append_right _ (List.mem_append_right _ (List.mem_append_right _ (List.mem_append_left _ h)))))))))))))))))))))))))))))))))))))))
theorem inR40 : ∀ w ∈ wsL_law_r40, w ∈ wsL_law := fun w h => wsL_R (List.mem_append_right _ (List.mem_append_right _ (List.mem_append_right _ (List.mem_append_right _ (List.mem_append_right _ (List.mem_append_right _ (List.mem_append_right _ (List.mem_append_right _ (List.mem_append_right _ (List.mem_append_right _ (List.mem_append_right _ (List.mem_append_right _ (List.mem_append_right _ (List.mem_append_right _ (List.mem_append_right _ (List.mem_append_right _ (List.mem_append_right _ (List.mem_append_right _ (List.mem_append_right _ (List.mem_append_right _ (List.mem_append_right _ (List.mem_append_right _ (List.mem_append_right _ (List.mem_append_right _ (List.mem_append_right _ (List.mem_append_right _ (List.mem_append_right _ (List.mem_append_right _ (List.mem_append_right _ (List.mem_append_right _ (List.mem_append_right _ (List.mem_append_right _ (List.mem_append_right _ (List.mem_append_right _ (List.mem_append_right _ (List.mem_append_right _ (List.mem_append_right _ (List.mem_append_right _ (List.mem_append_right _ (List.mem_append_left _ h))))))))))))))))))))))))))))))))))))))))
theorem inR41 : ∀ w ∈ wsL_law_r41, w ∈ wsL_law := fun w h => wsL_R (List.mem_append_right _ (List.mem_append_right _ (List.mem_append_right _ (List.mem_append_right _ (List.mem_append_right _ (List.mem_append_right _ (List.mem_append_right _ (List.mem_append_right _ (List.mem_append_right _ (List.mem_append_right _ (List.mem_append_right _ (List.mem_append_right _ (List.mem_append_right _ (List.mem_append_right _ (List.mem_append_right _ (List.mem_append_right _ (List.mem_append_right _ (List.mem_append_right _ (List.mem_append_right _ (List.mem_append_right _ (List.mem_append_right _ (List.mem_append_right _ (List.mem_append_right _ (List.mem_append_right _ (List.mem_append_right _ (List.mem_append_right _ (List.mem_append_right _ (List.mem_append_right _ (List.mem_append_right _ (List.mem_append_right _ (List.mem_append_right _ (List.mem_append_right _ (List.mem_append_right _ (List.mem_append_right _ (List.mem_append_right _ (List.mem_append_right _ (List.mem_append_right _ (List.mem_append_right _ (List.mem_append_right _ (List.mem_append_right _ (List.mem_append_left _ h)))))))))))))))))))))))))))))))))))))))))
theorem inR42 : ∀ w ∈ wsL_law_r42, w ∈ wsL_law := fun w h => wsL_R (List.mem_append_right _ (List.mem_append_right _ (List.mem_append_right _ (List.mem_append_right _ (List.mem_append_right _ (List.mem_append_right _ (List.mem_append_right _ (List.mem_append_right _ (List.mem_append_right _ (List.mem_append_right _ (List.mem_append_right _ (List.mem_append_right _ (List.mem_append_right _ (List.mem_append_right _ (List.mem_append_right _ (List.mem_append_right _ (List.mem_append_right _ (List.mem_append_right _ (List.mem_append_right _ (List.mem_append_right _ (List.mem_append_right _ (List.mem_append_right _ (List.mem_append_right _ (List.mem_append_right _ (List.mem_append_right _ (List.mem_append_right _ (List.mem_append_right _ (List.mem_append_right _ (List.mem_append_right _ (List.mem_append_right _ (List.mem_append_right _ (List.mem_append_right _ (List.mem_append_right _ (List.mem_append_right _ (List.mem_append_right _ (List.mem_append_right _ (List.mem_append_right _ (List.mem_append_right _ (List.mem_append_right _ (List.mem_append_right _ (List.mem_append_right _ (List.mem_append_left _ h))))))))))))))))))))))))))))))))))))))))))
theorem inR43 : ∀ w ∈ wsL_law_r43, w ∈ wsL_law := fun w h => wsL_R (List.mem_append_right _ (List.mem_append_right _ (List.mem_append_right _ (List.mem_append_right _ (List.mem_append_right _ (List.mem_append_right _ (List.mem_append_right _ (List.mem_append_right _ (List.mem_append_right _ (List.mem_append_right _ (List.mem_append_right _ (List.mem_append_right _ (List.mem_append_right _ (List.mem_append_right _ (List.mem_append_right _ (List.mem_append_right _ (List.mem_append_right _ (List.mem_append_right _ (List.mem_append_right _ (List.mem_append_right _ (List.mem_append_right _ (List.mem_append_right _ (List.mem_append_right _ (List.mem_append_right _ (List.mem_append_right _ (List.mem_append_right _ (List.mem_append_right _ (List.mem_append_right _ (List.mem_append_right _ (List.mem_append_right _ (List.mem_append_right _ (List.mem_append_right _ (List.mem_append_right _ (List.mem_append_right _ (List.mem_append_right _ (List.mem_append_right _ (List.mem_append_right _ (List.mem_append_right _ (List.mem_append_right _ (List.mem_append_right _ (List.mem_append_right _ (List.mem_append_right _ (List.mem_append_left _ h)))))))))))))))))))))))))))))))))))))))))))
theorem inR44 : ∀ w ∈ wsL_law_r44, w ∈ wsL_law := fun w h => wsL_R (List.mem_append_right _ (List.mem_append_right _ (List.mem_append_right _ (List.mem_append_right _ (List.mem_append_right _ (List.mem_append_right _ (List.mem_append_right _ (List.mem_append_right _ (List.mem_append_right _ (List.mem_append_right _ (List.mem_append_right _ (List.mem_append_right _ (List.mem_append_right _ (List.mem_append_right _ (List.mem_append_right _ (List.mem_append_right _ (List.mem_append_right _ (List.mem_append_right _ (List.mem_append_right _ (List.mem_append_right _ (List.mem_append_right _ (List.mem_append_right _ (List.mem_append_right _ (List.mem_append_right _ (List.mem_append_right _ (List.mem_append_right _ (List.mem_append_right _ (List.mem_append_right _ (List.mem_append_right _ (List.mem_append_right _ (List.mem_append_right _ (List.mem_append_right _ (List.mem_append_right _ (List.mem_append_right _ (List.mem_append_right _ (List.mem_append_right _ (List.mem_append_right _ (List.mem_append_right _ (List.mem_append_right _ (List.mem_append_right _ (List.mem_append_right _ (List.mem_append_right _ (List.mem_append_right _ (List.mem_append_left _ h))))))))))))))))))))))))))))))))))))))))))))
theorem inR45 : ∀ w ∈ wsL_law_r45, w ∈ wsL_law := fun w h => wsL_R (List.mem_append_right _ (List.mem_append_right _ (List.mem_append_right _ (List.mem_append_right _ (List.mem_append_right _ (List.mem_append_right _ (List.mem_append_right _ (List.mem_append_right _ (List.mem_append_right _ (List.mem_append_right _ (List.mem_append_right _ (List.mem_append_right _ (List.mem_append_right _ (List.mem_append_right _ (List.mem_append_right _ (List.mem_append_right _ (List.mem_append_right _ (List.mem_append_right _ (List.mem_append_right _ (List.mem_append_right _ (List.mem_append_right _ (List.mem_append_right _ (List.mem_append_right _ (List.mem_append_right _ (List.mem_append_right _ (List.mem_append_right _ (List.mem_append_right _ (List.mem_append_right _ (List.mem_append_right _ (List.mem_append_right _ (List.mem_append_right _ (List.mem_append_right _ (List.mem_append_right _ (List.mem_append_right _ (List.mem_append_right _ (List.mem_append_right _ (List.mem_append_right _ (List.mem_append_right _ (List.mem_append_right _ (List.mem_append_right _ (List.mem_append_right _ (List.mem_append_right _ (List.mem_append_right _ (List.mem_append_right _ (List.mem_append_left _ h)))))))))))))))))))))))))))))))))))))))))))))
theorem inR46 : ∀ w ∈ wsL_law_r46, w ∈ wsL_law := fun w h => wsL_R (List.mem_append_right _ (List.mem_append_right _ (List.mem_append_right _ (List.mem_append_right _ (List.mem_append_right _ (List.mem_append_right _ (List.mem_append_right _ (List.mem_append_right _ (List.mem_append_right _ (List.mem_append_right _ (List.mem_append_right _ (List.mem_append_right _ (List.mem_append_right _ (List.mem_append_right _ (List.mem_append_right _ (List.mem_append_right _ (List.mem_append_right _ (List.mem_append_right _ (List.mem_append_right _ (List.mem_append_right _ (List.mem_append_right _ (List.mem_append_right _ (List.mem_append_right _ (List.mem_append_right _ (List.mem_append_right _ (List.mem_append_right _ (List.mem_append_right _ (List.mem_append_right _ (List.mem_append_right _ (List.mem_append_right _ (List.mem_append_right _ (List.mem_append_right _ (List.mem_append_right _ (List.mem_append_right _ (List.mem_append_right _ (List.mem_append_right _ (List.mem_append_right _ (List.mem_append_right _ (List.mem_append_right _ (List.mem_append_right _ (List.mem_append_right _ (List.mem_append_right _ (List.mem_append_right _ (List.mem_append_right _ (List.mem_append_right _ (List.mem_append_left _ h))))))))))))))))))))))))))))))))))))))))))))))
theorem inR47 : ∀ w ∈ wsL_law_r47, w ∈ wsL_law := fun w h => wsL_R (List.mem_append_right _ (List.mem_append_right _ (List.mem_append_right _ (List.mem_append_right _ (List.mem_append_right _ (List.mem_append_right _ (List.mem_append_right _ (List.mem_append_right _ (List.mem_append_right _ (List.mem_append_right _ (List.mem_append_right _ (List.mem_append_right _ (List.mem_append_right _ (List.mem_append_right _ (List.mem_append_right _ (List.mem_append_right _ (List.mem_append_right _ (List.mem_append_right _ (List.mem_append_right _ (List.mem_append_right _ (List.mem_append_right _ (List.mem_append_right _ (List.mem_append_right _ (List.mem_append_right _ (List.mem_append_right _ (List.mem_append_right _ (List.mem_append_right _ (List.mem_append_right _ (List.mem_append_right _ (List.mem_append_right _ (List.mem_append_right _ (List.mem_append_right _ (List.mem_append_right _ (List.mem_append_right _ (List.mem_append_right _ (List.mem_append_right _ (List.mem_append_right _ (List.mem_append_right _ (List.mem_append_right _ (List.mem_append_right _ (List.mem_append_right _ (List.mem_append_right _ (List.mem_append_right _ (List.mem_append_right _ (List.mem_append_right _ (List.mem_append_right _ (List.mem_append_left _ h)))))))))))))))))))))))))))))))))))))))))))))))
theorem inR48 : ∀ w ∈ wsL_law_r48, w ∈ wsL_law := fun w h => wsL_R (List.mem_append_right _ (List.mem_append_right _ (List.mem_append_right _ (List.mem_append_right _ (List.mem_append_right _ (List.mem_append_right _ (List.mem_append_right _ (List.mem_append_right _ (List.mem_append_right _ (List.mem_append_right _ (List.mem_append_right _ (List.mem_append_right _ (List.mem_append_right _ (List.mem_append_right _ (List.mem_append_right _ (List.mem_append_right _ (List.mem_append_right _ (List.mem_append_right _ (List.mem_append_right _ (List.mem_append_right _ (List.mem_append_right _ (List.mem_append_right _ (List.mem_append_right _ (List.mem_append_right _ (List.mem_append_right _ (List.mem_append_right _ (List.mem_append_right _ (List.mem_append_right _ (List.mem_append_right _ (List.mem_append_right _ (List.mem_append_right _ (List.mem_append_right _ (List.mem_append_right _ (List.mem_append_right _ (List.mem_append_right _ (List.mem_append_right _ (List.mem_append_right _ (List.mem_append_right _ (List.mem_append_right _ (List.mem_append_right _ (List.mem_append_right _ (List.mem_append_right _ (List.mem_append_right _ (List.mem_append_right _ (List.mem_append_right _ (List.mem_append_right _ (List.mem_append_right _ (List.mem_append_left _ h))))))))))))))))))))))))))))))))))))))))))))))))
theorem inR49 : ∀ w ∈ wsL_law_r49, w ∈ wsL_law := fun w h => wsL_R (List.mem_append_right _ (List.mem_append_right _ (List.mem_append_right _ (List.mem_append_right _ (List.mem_append_right _ (List.mem_append_right _ (List.mem_append_right _ (List.mem_append_right _ (List.mem_append_right _ (List.mem_append_right _ (List.mem_append_right _ (List.mem_append_right _ (List.mem_append_right _ (List.mem_append_right _ (List.mem_append_right _ (List.mem_append_right _ (List.mem_append_right _ (List.mem_append_right _ (List.mem_append_right _ (List.mem_append_right _ (List.mem_append_right _ (List.mem_append_right _ (List.mem_append_right _ (List.mem_append_right _ (List.mem_append_right _ (List.mem_append_right _ (List.mem_append_right _ (List.mem_append_right _ (List.mem_append_right _ (List.mem_append_right _ (List.mem_append_right _ (List.mem_append_right _ (List.mem_append_right _ (List.mem_append_right _ (List.mem_append_right _ (List.mem_append_right _ (List.mem_append_right _ (List.mem_append_right _ (List.mem_append_right _ (List.mem_append_right _ (List.mem_append_right _ (List.mem_append_right _ (List.mem_append_right _ (List.mem_append_right _ (List.mem_append_right _ (List.mem_append_right _ (List.mem_append_right _ (List.mem_append_right _ (List.mem_append_left _ h)))))))))))))))))))))))))))))))))))))))))))))))))
theorem inR50 : ∀ w ∈ wsL_law_r50, w ∈ wsL_law := fun w h => wsL_R (List.mem_append_right _ (List.mem_append_right _ (List.mem_append_right _ (List.mem_append_right _ (List.mem_append_right _ (List.mem_append_right _ (List.mem_append_right _ (List.mem_append_right _ (List.mem_append_right _ (List.mem_append_right _ (List.mem_append_right _ (List.mem_append_right _ (List.mem_append_right _ (List.mem_append_right _ (List.mem_append_right _ (List.mem_append_right _ (List.mem_append_right _ (List.mem_append_right _ (List.mem_append_right _ (List.mem_append_right _ (List.mem_append_right _ (List.mem_append_right _ (List.mem_append_right _ (List.mem_append_right _ (List.mem_append_right _ (List.mem_append_right _ (List.mem_append_right _ (List.mem_append_right _ (List.mem_append_right _ (List.mem_append_right _ (List.mem_append_right _ (List.mem_append_right _ (List.mem_append_right _ (List.mem_append_right _ (List.mem_append_right _ (List.mem_append_right _ (List.mem_append_right _ (List.mem_append_right _ (List.mem_append_right _ (List.mem_append_right _ (List.mem_append_right _ (List.mem_append_right _ (List.mem_append_right _ (List.mem_append_right _ (List.mem_append_right _ (List.mem_append_right _ (List.mem_append_right _ (List.mem_append_right _ (List.mem_append_right _ (List.mem_append_left _ h))))))))))))))))))))))))))))))))))))))))))))))))))
theorem inR51 : ∀ w ∈ wsL_law_r51, w ∈ wsL_law := fun w h => wsL_R (List.mem_append_right _ (List.mem_append_right _ (List.mem_append_right _ (List.mem_append_right _ (List.mem_append_right _ (List.mem_append_right _ (List.mem_append_right _ (List.mem_append_right _ (List.mem_append_right _ (List.mem_append_right _ (List.mem_append_right _ (List.mem_append_right _ (List.mem_append_right _ (List.mem_append_right _ (List.mem_append_right _ (List.mem_append_right _ (List.mem_append_right _ (List.mem_append_right _ (List.mem_append_right _ (List.mem_append_right _ (List.mem_append_right _ (List.mem_append_right _ (List.mem_append_right _ (List.mem_append_right _ (List.mem_append_right _ (List.mem_append_right _ (List.mem_append_right _ (List.mem_append_right _ (List.mem_append_right _ (List.mem_append_right _ (List.mem_append_right _ (List.mem_append_right _ (List.mem_append_right _ (List.mem_append_right _ (List.mem_append_right _ (List.mem_append_right _ (List.mem_append_right _ (List.mem_append_right _ (List.mem_append_right _ (List.mem_append_right _ (List.mem_append_right _ (List.mem_append_right _ (List.mem_append_right _ (List.mem_append_right _ (List.mem_append_right _ (List.mem_append_right _ (List.mem_append_right _ (List.mem_append_right _ (List.mem_append_right _ (List.mem_append_right _ (h)))))))))))))))))))))))))))))))))))))))))))))))))))
theorem cfX0 : CF 0 RX0 TX0 3 tyX0 := ⟨rfl, inlX0, tyX0_ok, nmX0⟩
theorem cfX1 : CF 1 RX1 TX1 4 tyX1 := ⟨rfl, inlX1, tyX1_ok, nmX1⟩
theorem cfX2 : CF 2 RX2 TX2 11 tyX2 := ⟨rfl, inlX2, tyX2_ok, nmX2⟩
theorem cfX3 : CF 3 RX3 TX3 8 tyX3 := ⟨rfl, inlX3, tyX3_ok, nmX3⟩
theorem cfX4 : CF 4 RX4 TX4 7 tyX4 := ⟨rfl, inlX4, tyX4_ok, nmX4⟩
theorem cfX5 : CF 5 RX5 TX5 2 tyX5 := ⟨rfl, inlX5, tyX5_ok, nmX5⟩
theorem cfX6 : CF 6 RX6 TX6 4 tyX6 := ⟨rfl, inlX6, tyX6_ok, nmX6⟩
theorem cfX7 : CF 7 RX7 TX7 6 tyX7 := ⟨rfl, inlX7, tyX7_ok, nmX7⟩
theorem cfX8 : CF 8 RX8 TX8 2 tyX8 := ⟨rfl, inlX8, tyX8_ok, nmX8⟩
theorem cfX9 : CF 9 RX9 TX9 10 tyX9 := ⟨rfl, inlX9, tyX9_ok, nmX9⟩
theorem cfX10 : CF 10 RX10 TX10 3 tyX10 := ⟨rfl, inlX10, tyX10_ok, nmX10⟩
theorem cfX11 : CF 11 RX11 TX11 9 tyX11 := ⟨rfl, inlX11, tyX11_ok, nmX11⟩
theorem cfX12 : CF 12 RX12 TX12 33 tyX12 := ⟨rfl, inlX12, tyX12_ok, nmX12⟩
theorem flX12_7 : FL RX12 7 TX12 0 := (inR16 _ (List.mem_of_getElem? (i := 5) rfl))
theorem mfX12_many : MF yX12_many cX12_many 1 (some .int) 0 := ⟨(inR17 _ (List.mem_of_getElem? (i := 19) rfl)), (inR1 _ (List.mem_of_getElem? (i := 5) rfl)), by decide +kernel⟩
theorem mlX12_94 : ML RX12 94 yX12_many := (inR17 _ (List.mem_of_getElem? (i := 16) rfl))
theorem mvX12_many : MV yX12_many := ⟨(inR17 _ (List.mem_of_getElem? (i := 17) rfl)), (inR17 _ (List.mem_of_getElem? (i := 18) rfl))⟩
theorem flX12_26 : FL RX12 26 TX12 8 := (inR16 _ (List.mem_of_getElem? (i := 11) rfl))
theorem mfX12_left : MF yX12_left cX12_left 2 (some .int) 1 := ⟨(inR17 _ (List.mem_of_getElem? (i := 23) rfl)), (inR1 _ (List.mem_of_getElem? (i := 5) rfl)), by decide +kernel⟩
theorem mlX12_102 : ML RX12 102 yX12_left := (inR17 _ (List.mem_of_getElem? (i := 20) rfl))
theorem mvX12_left : MV yX12_left := ⟨(inR17 _ (List.mem_of_getElem? (i := 21) rfl)), (inR17 _ (List.mem_of_getElem? (i := 22) rfl))⟩
theorem mfX12_size : MF yX12_size cX12_size 2 (some .int) 1 := ⟨(inR18 _ (List.mem_of_getElem? (i := 3) rfl)), (inR1 _ (List.mem_of_getElem? (i := 5) rfl)), by decide +kernel⟩
theorem mlX12_117 : ML RX12 117 yX12_size := (inR18 _ (List.mem_of_getElem? (i := 0) rfl))
theorem mvX12_size : MV yX12_size := ⟨(inR18 _ (List.mem_of_getElem? (i := 1) rfl)), (inR18 _ (List.mem_of_getElem? (i := 2) rfl))⟩
theorem mfX12_at : MF yX12_at cX12_at 3 (some .int) 2 := ⟨(inR18 _ (List.mem_of_getElem? (i := 11) rfl)), (inR1 _ (List.mem_of_getElem? (i := 5) rfl)), by decide +kernel⟩
theorem mlX12_109 : ML RX12 109 yX12_at := (inR18 _ (List.mem_of_getElem? (i := 8) rfl))
theorem mvX12_at : MV yX12_at := ⟨(inR18 _ (List.mem_of_getElem? (i := 9) rfl)), (inR18 _ (List.mem_of_getElem? (i := 10) rfl))⟩
theorem mfX12_isEmpty : MF yX12_isEmpty cX12_isEmpty 2 (some .boolean) 1 := ⟨(inR18 _ (List.mem_of_getElem? (i := 15) rfl)), (inR1 _ (List.mem_of_getElem? (i := 5) rfl)), by decide +kernel⟩
theorem mlX12_113 : ML RX12 113 yX12_isEmpty := (inR18 _ (List.mem_of_getElem? (i := 12) rfl))
theorem mvX12_isEmpty : MV yX12_isEmpty := ⟨(inR18 _ (List.mem_of_getElem? (i := 13) rfl)), (inR18 _ (List.mem_of_getElem? (i := 14) rfl))⟩
theorem mfX12_areEmpty : MF yX12_areEmpty cX12_areEmpty 6 (some .boolean) 3 := ⟨(inR18 _ (List.mem_of_getElem? (i := 7) rfl)), (inR1 _ (List.mem_of_getElem? (i := 5) rfl)), by decide +kernel⟩
theorem mlX12_120 : ML RX12 120 yX12_areEmpty := (inR18 _ (List.mem_of_getElem? (i := 4) rfl))
theorem mvX12_areEmpty : MV yX12_areEmpty := ⟨(inR18 _ (List.mem_of_getElem? (i := 5) rfl)), (inR18 _ (List.mem_of_getElem? (i := 6) rfl))⟩
theorem mfX12_laysEmpty : MF yX12_laysEmpty cX12_laysEmpty 3 none 0 := ⟨(inR17 _ (List.mem_of_getElem? (i := 15) rfl)), (inR1 _ (List.mem_of_getElem? (i := 5) rfl)), by decide +kernel⟩
theorem mlX12_158 : ML RX12 158 yX12_laysEmpty := (inR17 _ (List.mem_of_getElem? (i := 12) rfl))
theorem mvX12_laysEmpty : MV yX12_laysEmpty := ⟨(inR17 _ (List.mem_of_getElem? (i := 13) rfl)), (inR17 _ (List.mem_of_getElem? (i := 14) rfl))⟩
theorem flX12_30 : FL RX12 30 TX12 9 := (inR16 _ (List.mem_of_getElem? (i := 12) rfl))
theorem kiX12_123 : Cond.constant RX12 123 (1000000000) ∈ wsL_law := (inR18 _ (List.mem_of_getElem? (i := 20) rfl))
theorem mfX12_laysFewest : MF yX12_laysFewest cX12_laysFewest 6 none 0 := ⟨(inR18 _ (List.mem_of_getElem? (i := 19) rfl)), (inR1 _ (List.mem_of_getElem? (i := 5) rfl)), by decide +kernel⟩
theorem mlX12_161 : ML RX12 161 yX12_laysFewest := (inR18 _ (List.mem_of_getElem? (i := 16) rfl))
theorem mvX12_laysFewest : MV yX12_laysFewest := ⟨(inR18 _ (List.mem_of_getElem? (i := 17) rfl)), (inR18 _ (List.mem_of_getElem? (i := 18) rfl))⟩
theorem flX12_33 : FL RX12 33 TX12 10 := (inR16 _ (List.mem_of_getElem? (i := 13) rfl))
theorem mfX12_start : MF yX12_start cX12_start 1 (some .int) 0 := ⟨(inR19 _ (List.mem_of_getElem? (i := 4) rfl)), (inR1 _ (List.mem_of_getElem? (i := 5) rfl)), by decide +kernel⟩
theorem mlX12_124 : ML RX12 124 yX12_start := (inR19 _ (List.mem_of_getElem? (i := 1) rfl))
theorem mvX12_start : MV yX12_start := ⟨(inR19 _ (List.mem_of_getElem? (i := 2) rfl)), (inR19 _ (List.mem_of_getElem? (i := 3) rfl))⟩
theorem mfX12_laysReached : MF yX12_laysReached cX12_laysReached 4 none 0 := ⟨(inR19 _ (List.mem_of_getElem? (i := 0) rfl)), (inR1 _ (List.mem_of_getElem? (i := 5) rfl)), by decide +kernel⟩
theorem mlX12_164 : ML RX12 164 yX12_laysReached := (inR18 _ (List.mem_of_getElem? (i := 21) rfl))
theorem mvX12_laysReached : MV yX12_laysReached := ⟨(inR18 _ (List.mem_of_getElem? (i := 22) rfl)), (inR18 _ (List.mem_of_getElem? (i := 23) rfl))⟩
theorem flX12_36 : FL RX12 36 TX12 11 := (inR16 _ (List.mem_of_getElem? (i := 14) rfl))
theorem mfX12_closes : MF yX12_closes cX12_closes 3 none 1 := ⟨(inR19 _ (List.mem_of_getElem? (i := 11) rfl)), (inR1 _ (List.mem_of_getElem? (i := 5) rfl)), by decide +kernel⟩
theorem mlX12_127 : ML RX12 127 yX12_closes := (inR19 _ (List.mem_of_getElem? (i := 9) rfl))
theorem msX12_closes : MS yX12_closes := (inR19 _ (List.mem_of_getElem? (i := 10) rfl))
theorem flX12_39 : FL RX12 39 TX12 12 := (inR16 _ (List.mem_of_getElem? (i := 15) rfl))
theorem mfX12_laysTurns : MF yX12_laysTurns cX12_laysTurns 4 none 0 := ⟨(inR19 _ (List.mem_of_getElem? (i := 8) rfl)), (inR1 _ (List.mem_of_getElem? (i := 5) rfl)), by decide +kernel⟩
theorem mlX12_167 : ML RX12 167 yX12_laysTurns := (inR19 _ (List.mem_of_getElem? (i := 5) rfl))
theorem mvX12_laysTurns : MV yX12_laysTurns := ⟨(inR19 _ (List.mem_of_getElem? (i := 6) rfl)), (inR19 _ (List.mem_of_getElem? (i := 7) rfl))⟩
theorem flX12_51 : FL RX12 51 TX12 16 := (inR16 _ (List.mem_of_getElem? (i := 19) rfl))
theorem mfX12_begin : MF yX12_begin cX12_begin 2 none 0 := ⟨(inR19 _ (List.mem_of_getElem? (i := 19) rfl)), (inR1 _ (List.mem_of_getElem? (i := 5) rfl)), by decide +kernel⟩
theorem mlX12_147 : ML RX12 147 yX12_begin := (inR19 _ (List.mem_of_getElem? (i := 16) rfl))
theorem mvX12_begin : MV yX12_begin := ⟨(inR19 _ (List.mem_of_getElem? (i := 17) rfl)), (inR19 _ (List.mem_of_getElem? (i := 18) rfl))⟩
theorem flX12_57 : FL RX12 57 TX12 18 := (inR16 _ (List.mem_of_getElem? (i := 21) rfl))
theorem flX12_54 : FL RX12 54 TX12 17 := (inR16 _ (List.mem_of_getElem? (i := 20) rfl))
theorem mfX12_lettersOf : MF yX12_lettersOf cX12_lettersOf 1 (some .int) 1 := ⟨(inR20 _ (List.mem_of_getElem? (i := 6) rfl)), (inR1 _ (List.mem_of_getElem? (i := 5) rfl)), by decide +kernel⟩
theorem mlX12_131 : ML RX12 131 yX12_lettersOf := (inR20 _ (List.mem_of_getElem? (i := 4) rfl))
theorem msX12_lettersOf : MS yX12_lettersOf := (inR20 _ (List.mem_of_getElem? (i := 5) rfl))
theorem mfX12_power : MF yX12_power cX12_power 1 (some .int) 1 := ⟨(inR20 _ (List.mem_of_getElem? (i := 15) rfl)), (inR1 _ (List.mem_of_getElem? (i := 5) rfl)), by decide +kernel⟩
theorem mlX12_134 : ML RX12 134 yX12_power := (inR20 _ (List.mem_of_getElem? (i := 13) rfl))
theorem msX12_power : MS yX12_power := (inR20 _ (List.mem_of_getElem? (i := 14) rfl))
theorem mfX12_cut : MF yX12_cut cX12_cut 3 (some .int) 2 := ⟨(inR20 _ (List.mem_of_getElem? (i := 12) rfl)), (inR1 _ (List.mem_of_getElem? (i := 5) rfl)), by decide +kernel⟩
theorem mlX12_137 : ML RX12 137 yX12_cut := (inR20 _ (List.mem_of_getElem? (i := 10) rfl))
theorem msX12_cut : MS yX12_cut := (inR20 _ (List.mem_of_getElem? (i := 11) rfl))
theorem mfX12_joined : MF yX12_joined cX12_joined 4 (some .int) 2 := ⟨(inR20 _ (List.mem_of_getElem? (i := 9) rfl)), (inR1 _ (List.mem_of_getElem? (i := 5) rfl)), by decide +kernel⟩
theorem mlX12_140 : ML RX12 140 yX12_joined := (inR20 _ (List.mem_of_getElem? (i := 7) rfl))
theorem msX12_joined : MS yX12_joined := (inR20 _ (List.mem_of_getElem? (i := 8) rfl))
theorem mfX12_joins : MF yX12_joins cX12_joins 6 none 2 := ⟨(inR20 _ (List.mem_of_getElem? (i := 3) rfl)), (inR1 _ (List.mem_of_getElem? (i := 5) rfl)), by decide +kernel⟩
theorem mlX12_143 : ML RX12 143 yX12_joins := (inR20 _ (List.mem_of_getElem? (i := 0) rfl))
theorem mvX12_joins : MV yX12_joins := ⟨(inR20 _ (List.mem_of_getElem? (i := 1) rfl)), (inR20 _ (List.mem_of_getElem? (i := 2) rfl))⟩
theorem flX12_42 : FL RX12 42 TX12 13 := (inR16 _ (List.mem_of_getElem? (i := 16) rfl))
theorem mfX12_joinsSymbols : MF yX12_joinsSymbols cX12_joinsSymbols 4 none 2 := ⟨(inR19 _ (List.mem_of_getElem? (i := 23) rfl)), (inR1 _ (List.mem_of_getElem? (i := 5) rfl)), by decide +kernel⟩
theorem mlX12_150 : ML RX12 150 yX12_joinsSymbols := (inR19 _ (List.mem_of_getElem? (i := 20) rfl))
theorem mvX12_joinsSymbols : MV yX12_joinsSymbols := ⟨(inR19 _ (List.mem_of_getElem? (i := 21) rfl)), (inR19 _ (List.mem_of_getElem? (i := 22) rfl))⟩
theorem mfX12_enters : MF yX12_enters cX12_enters 5 (some .boolean) 2 := ⟨(inR20 _ (List.mem_of_getElem? (i := 19) rfl)), (inR1 _ (List.mem_of_getElem? (i := 5) rfl)), by decide +kernel⟩
theorem mlX12_154 : ML RX12 154 yX12_enters := (inR20 _ (List.mem_of_getElem? (i := 16) rfl))
theorem mvX12_enters : MV yX12_enters := ⟨(inR20 _ (List.mem_of_getElem? (i := 17) rfl)), (inR20 _ (List.mem_of_getElem? (i := 18) rfl))⟩
theorem mfX12_laysFirsts : MF yX12_laysFirsts cX12_laysFirsts 3 none 0 := ⟨(inR19 _ (List.mem_of_getElem? (i := 15) rfl)), (inR1 _ (List.mem_of_getElem? (i := 5) rfl)), by decide +kernel⟩
theorem mlX12_170 : ML RX12 170 yX12_laysFirsts := (inR19 _ (List.mem_of_getElem? (i := 12) rfl))
theorem mvX12_laysFirsts : MV yX12_laysFirsts := ⟨(inR19 _ (List.mem_of_getElem? (i := 13) rfl)), (inR19 _ (List.mem_of_getElem? (i := 14) rfl))⟩
theorem flX12_45 : FL RX12 45 TX12 14 := (inR16 _ (List.mem_of_getElem? (i := 17) rfl))
theorem mfX12_laysFollows : MF yX12_laysFollows cX12_laysFollows 4 none 0 := ⟨(inR20 _ (List.mem_of_getElem? (i := 23) rfl)), (inR1 _ (List.mem_of_getElem? (i := 5) rfl)), by decide +kernel⟩
theorem mlX12_173 : ML RX12 173 yX12_laysFollows := (inR20 _ (List.mem_of_getElem? (i := 20) rfl))
theorem mvX12_laysFollows : MV yX12_laysFollows := ⟨(inR20 _ (List.mem_of_getElem? (i := 21) rfl)), (inR20 _ (List.mem_of_getElem? (i := 22) rfl))⟩
theorem flX12_48 : FL RX12 48 TX12 15 := (inR16 _ (List.mem_of_getElem? (i := 18) rfl))
theorem mfX12_laysAheads : MF yX12_laysAheads cX12_laysAheads 3 none 0 := ⟨(inR21 _ (List.mem_of_getElem? (i := 3) rfl)), (inR1 _ (List.mem_of_getElem? (i := 5) rfl)), by decide +kernel⟩
theorem mlX12_176 : ML RX12 176 yX12_laysAheads := (inR21 _ (List.mem_of_getElem? (i := 0) rfl))
theorem mvX12_laysAheads : MV yX12_laysAheads := ⟨(inR21 _ (List.mem_of_getElem? (i := 1) rfl)), (inR21 _ (List.mem_of_getElem? (i := 2) rfl))⟩
theorem flX12_60 : FL RX12 60 TX12 19 := (inR16 _ (List.mem_of_getElem? (i := 22) rfl))
theorem mfX12_cuts : MF yX12_cuts cX12_cuts 4 none 0 := ⟨(inR21 _ (List.mem_of_getElem? (i := 7) rfl)), (inR1 _ (List.mem_of_getElem? (i := 5) rfl)), by decide +kernel⟩
theorem mlX12_179 : ML RX12 179 yX12_cuts := (inR21 _ (List.mem_of_getElem? (i := 4) rfl))
theorem mvX12_cuts : MV yX12_cuts := ⟨(inR21 _ (List.mem_of_getElem? (i := 5) rfl)), (inR21 _ (List.mem_of_getElem? (i := 6) rfl))⟩
theorem flX11_33 : FL RX11 33 TX11 3 := (inR2 _ (List.mem_of_getElem? (i := 3) rfl))
theorem flX11_68 : FL RX11 68 TX11 8 := (inR2 _ (List.mem_of_getElem? (i := 23) rfl))
theorem flX9_9 : FL RX9 9 TX9 0 := (inR4 _ (List.mem_of_getElem? (i := 12) rfl))
theorem kiX9_60 : Cond.constant RX9 60 (1000000) ∈ wsL_law := (inR9 _ (List.mem_of_getElem? (i := 3) rfl))
theorem mfJ7_fill_53178 : MF yJ7_fill_53178 cJ7_fill_53178 4 none 2 := ⟨(inR9 _ (List.mem_of_getElem? (i := 10) rfl)), (inR9 _ (List.mem_of_getElem? (i := 9) rfl)), by decide +kernel⟩
theorem mlX9_61 : ML RX9 61 yJ7_fill_53178 := (inR9 _ (List.mem_of_getElem? (i := 7) rfl))
theorem msJ7_fill_53178 : MS yJ7_fill_53178 := (inR9 _ (List.mem_of_getElem? (i := 8) rfl))
theorem flX4_27 : FL RX4 27 TX4 5 := (inR4 _ (List.mem_of_getElem? (i := 0) rfl))
theorem mfX4_count : MF yX4_count cX4_count 1 (some .int) 0 := ⟨(inR9 _ (List.mem_of_getElem? (i := 14) rfl)), (inR2 _ (List.mem_of_getElem? (i := 22) rfl)), by decide +kernel⟩
theorem mlX9_67 : ML RX9 67 yX4_count := (inR9 _ (List.mem_of_getElem? (i := 11) rfl))
theorem mvX4_count : MV yX4_count := ⟨(inR9 _ (List.mem_of_getElem? (i := 12) rfl)), (inR9 _ (List.mem_of_getElem? (i := 13) rfl))⟩
theorem flX9_15 : FL RX9 15 TX9 1 := (inR4 _ (List.mem_of_getElem? (i := 13) rfl))
theorem flX4_15 : FL RX4 15 TX4 1 := (inR3 _ (List.mem_of_getElem? (i := 20) rfl))
theorem mfX4_length : MF yX4_length cX4_length 2 (some .int) 1 := ⟨(inR9 _ (List.mem_of_getElem? (i := 22) rfl)), (inR2 _ (List.mem_of_getElem? (i := 22) rfl)), by decide +kernel⟩
theorem mlX9_90 : ML RX9 90 yX4_length := (inR9 _ (List.mem_of_getElem? (i := 19) rfl))
theorem mvX4_length : MV yX4_length := ⟨(inR9 _ (List.mem_of_getElem? (i := 20) rfl)), (inR9 _ (List.mem_of_getElem? (i := 21) rfl))⟩
theorem flX4_18 : FL RX4 18 TX4 2 := (inR3 _ (List.mem_of_getElem? (i := 21) rfl))
theorem mfX4_symbolAt : MF yX4_symbolAt cX4_symbolAt 3 (some .int) 2 := ⟨(inR10 _ (List.mem_of_getElem? (i := 2) rfl)), (inR2 _ (List.mem_of_getElem? (i := 22) rfl)), by decide +kernel⟩
theorem mlX9_93 : ML RX9 93 yX4_symbolAt := (inR9 _ (List.mem_of_getElem? (i := 23) rfl))
theorem mvX4_symbolAt : MV yX4_symbolAt := ⟨(inR10 _ (List.mem_of_getElem? (i := 0) rfl)), (inR10 _ (List.mem_of_getElem? (i := 1) rfl))⟩
theorem mfX11_isLetter : MF yX11_isLetter cX11_isLetter 1 (some .boolean) 1 := ⟨(inR10 _ (List.mem_of_getElem? (i := 4) rfl)), (inR1 _ (List.mem_of_getElem? (i := 2) rfl)), by decide +kernel⟩
theorem msX11_isLetter : MS yX11_isLetter := (inR10 _ (List.mem_of_getElem? (i := 3) rfl))
theorem mlX9_85 : ML RX9 85 Lib.Math.min.name := (inR9 _ (List.mem_of_getElem? (i := 4) rfl))
theorem mthmin : Cond.static Lib.Math.min.name ∈ wsL_law ∧ Cond.initialized "java/lang/Math" ∈ wsL_law ∧ Cond.code Lib.Math.min.name Lib.Math.min.code 2 (some .int) ∈ wsL_law := ⟨(inR9 _ (List.mem_of_getElem? (i := 5) rfl)), (inR6 _ (List.mem_of_getElem? (i := 1) rfl)), (inR9 _ (List.mem_of_getElem? (i := 6) rfl))⟩
theorem mfX9_findTails : MF yX9_findTails cX9_findTails 7 none 2 := ⟨(inR9 _ (List.mem_of_getElem? (i := 18) rfl)), (inR2 _ (List.mem_of_getElem? (i := 2) rfl)), by decide +kernel⟩
theorem mlX9_73 : ML RX9 73 yX9_findTails := (inR9 _ (List.mem_of_getElem? (i := 15) rfl))
theorem mvX9_findTails : MV yX9_findTails := ⟨(inR9 _ (List.mem_of_getElem? (i := 16) rfl)), (inR9 _ (List.mem_of_getElem? (i := 17) rfl))⟩
theorem flX4_9 : FL RX4 9 TX4 0 := (inR3 _ (List.mem_of_getElem? (i := 19) rfl))
theorem mfX4_left : MF yX4_left cX4_left 2 (some .int) 1 := ⟨(inR10 _ (List.mem_of_getElem? (i := 8) rfl)), (inR2 _ (List.mem_of_getElem? (i := 22) rfl)), by decide +kernel⟩
theorem mlX9_77 : ML RX9 77 yX4_left := (inR10 _ (List.mem_of_getElem? (i := 5) rfl))
theorem mvX4_left : MV yX4_left := ⟨(inR10 _ (List.mem_of_getElem? (i := 6) rfl)), (inR10 _ (List.mem_of_getElem? (i := 7) rfl))⟩
theorem mfX9_tail : MF yX9_tail cX9_tail 3 (some .int) 2 := ⟨(inR10 _ (List.mem_of_getElem? (i := 12) rfl)), (inR2 _ (List.mem_of_getElem? (i := 2) rfl)), by decide +kernel⟩
theorem mlX9_81 : ML RX9 81 yX9_tail := (inR10 _ (List.mem_of_getElem? (i := 9) rfl))
theorem mvX9_tail : MV yX9_tail := ⟨(inR10 _ (List.mem_of_getElem? (i := 10) rfl)), (inR10 _ (List.mem_of_getElem? (i := 11) rfl))⟩
theorem mfX9_findFewest : MF yX9_findFewest cX9_findFewest 5 none 1 := ⟨(inR9 _ (List.mem_of_getElem? (i := 2) rfl)), (inR2 _ (List.mem_of_getElem? (i := 2) rfl)), by decide +kernel⟩
theorem mlX9_43 : ML RX9 43 yX9_findFewest := (inR8 _ (List.mem_of_getElem? (i := 23) rfl))
theorem mvX9_findFewest : MV yX9_findFewest := ⟨(inR9 _ (List.mem_of_getElem? (i := 0) rfl)), (inR9 _ (List.mem_of_getElem? (i := 1) rfl))⟩
theorem mfX4_start : MF yX4_start cX4_start 1 (some .int) 0 := ⟨(inR10 _ (List.mem_of_getElem? (i := 20) rfl)), (inR2 _ (List.mem_of_getElem? (i := 22) rfl)), by decide +kernel⟩
theorem mlX9_100 : ML RX9 100 yX4_start := (inR10 _ (List.mem_of_getElem? (i := 17) rfl))
theorem mvX4_start : MV yX4_start := ⟨(inR10 _ (List.mem_of_getElem? (i := 18) rfl)), (inR10 _ (List.mem_of_getElem? (i := 19) rfl))⟩
theorem flX9_34 : FL RX9 34 TX9 7 := (inR4 _ (List.mem_of_getElem? (i := 19) rfl))
theorem flX9_31 : FL RX9 31 TX9 6 := (inR4 _ (List.mem_of_getElem? (i := 18) rfl))
theorem mfX11_bit : MF yX11_bit cX11_bit 2 (some .int) 2 := ⟨(inR8 _ (List.mem_of_getElem? (i := 14) rfl)), (inR1 _ (List.mem_of_getElem? (i := 2) rfl)), by decide +kernel⟩
theorem msX11_bit : MS yX11_bit := (inR8 _ (List.mem_of_getElem? (i := 13) rfl))
theorem mfX9_reachRight : MF yX9_reachRight cX9_reachRight 5 none 2 := ⟨(inR11 _ (List.mem_of_getElem? (i := 0) rfl)), (inR2 _ (List.mem_of_getElem? (i := 2) rfl)), by decide +kernel⟩
theorem mlX9_106 : ML RX9 106 yX9_reachRight := (inR10 _ (List.mem_of_getElem? (i := 21) rfl))
theorem mvX9_reachRight : MV yX9_reachRight := ⟨(inR10 _ (List.mem_of_getElem? (i := 22) rfl)), (inR10 _ (List.mem_of_getElem? (i := 23) rfl))⟩
theorem mfX9_findReachable : MF yX9_findReachable cX9_findReachable 4 none 1 := ⟨(inR10 _ (List.mem_of_getElem? (i := 16) rfl)), (inR2 _ (List.mem_of_getElem? (i := 2) rfl)), by decide +kernel⟩
theorem mlX9_47 : ML RX9 47 yX9_findReachable := (inR10 _ (List.mem_of_getElem? (i := 13) rfl))
theorem mvX9_findReachable : MV yX9_findReachable := ⟨(inR10 _ (List.mem_of_getElem? (i := 14) rfl)), (inR10 _ (List.mem_of_getElem? (i := 15) rfl))⟩
theorem flX9_18 : FL RX9 18 TX9 2 := (inR4 _ (List.mem_of_getElem? (i := 14) rfl))
theorem flX9_21 : FL RX9 21 TX9 3 := (inR4 _ (List.mem_of_getElem? (i := 15) rfl))
theorem mfX9_relateRight : MF yX9_relateRight cX9_relateRight 7 none 2 := ⟨(inR11 _ (List.mem_of_getElem? (i := 8) rfl)), (inR2 _ (List.mem_of_getElem? (i := 2) rfl)), by decide +kernel⟩
theorem mlX9_109 : ML RX9 109 yX9_relateRight := (inR11 _ (List.mem_of_getElem? (i := 5) rfl))
theorem mvX9_relateRight : MV yX9_relateRight := ⟨(inR11 _ (List.mem_of_getElem? (i := 6) rfl)), (inR11 _ (List.mem_of_getElem? (i := 7) rfl))⟩
theorem mfX9_findRelations : MF yX9_findRelations cX9_findRelations 3 none 1 := ⟨(inR11 _ (List.mem_of_getElem? (i := 4) rfl)), (inR2 _ (List.mem_of_getElem? (i := 2) rfl)), by decide +kernel⟩
theorem mlX9_50 : ML RX9 50 yX9_findRelations := (inR11 _ (List.mem_of_getElem? (i := 1) rfl))
theorem mvX9_findRelations : MV yX9_findRelations := ⟨(inR11 _ (List.mem_of_getElem? (i := 2) rfl)), (inR11 _ (List.mem_of_getElem? (i := 3) rfl))⟩
theorem mfX9_findLoops : MF yX9_findLoops cX9_findLoops 3 (some .int) 1 := ⟨(inR11 _ (List.mem_of_getElem? (i := 11) rfl)), (inR2 _ (List.mem_of_getElem? (i := 2) rfl)), by decide +kernel⟩
theorem mlX9_53 : ML RX9 53 yX9_findLoops := (inR11 _ (List.mem_of_getElem? (i := 9) rfl))
theorem msX9_findLoops : MS yX9_findLoops := (inR11 _ (List.mem_of_getElem? (i := 10) rfl))
theorem flX9_37 : FL RX9 37 TX9 8 := (inR4 _ (List.mem_of_getElem? (i := 20) rfl))
theorem flX9_40 : FL RX9 40 TX9 9 := (inR4 _ (List.mem_of_getElem? (i := 21) rfl))
theorem flX9_27 : FL RX9 27 TX9 5 := (inR4 _ (List.mem_of_getElem? (i := 17) rfl))
theorem kiJ6_265 : Cond.constant RJ6 265 (1431655765) ∈ wsL_law := (inR11 _ (List.mem_of_getElem? (i := 20) rfl))
theorem kiJ6_266 : Cond.constant RJ6 266 (858993459) ∈ wsL_law := (inR11 _ (List.mem_of_getElem? (i := 21) rfl))
theorem kiJ6_267 : Cond.constant RJ6 267 (252645135) ∈ wsL_law := (inR11 _ (List.mem_of_getElem? (i := 22) rfl))
theorem mfJ6_bitCount_0f7a4 : MF yJ6_bitCount_0f7a4 cJ6_bitCount_0f7a4 1 (some .int) 1 := ⟨(inR11 _ (List.mem_of_getElem? (i := 19) rfl)), (inR11 _ (List.mem_of_getElem? (i := 18) rfl)), by decide +kernel⟩
theorem mlX9_112 : ML RX9 112 yJ6_bitCount_0f7a4 := (inR11 _ (List.mem_of_getElem? (i := 16) rfl))
theorem msJ6_bitCount_0f7a4 : MS yJ6_bitCount_0f7a4 := (inR11 _ (List.mem_of_getElem? (i := 17) rfl))
theorem flX9_24 : FL RX9 24 TX9 4 := (inR4 _ (List.mem_of_getElem? (i := 16) rfl))
theorem mfX9_findOrder : MF yX9_findOrder cX9_findOrder 3 none 0 := ⟨(inR11 _ (List.mem_of_getElem? (i := 15) rfl)), (inR2 _ (List.mem_of_getElem? (i := 2) rfl)), by decide +kernel⟩
theorem mlX9_57 : ML RX9 57 yX9_findOrder := (inR11 _ (List.mem_of_getElem? (i := 12) rfl))
theorem mvX9_findOrder : MV yX9_findOrder := ⟨(inR11 _ (List.mem_of_getElem? (i := 13) rfl)), (inR11 _ (List.mem_of_getElem? (i := 14) rfl))⟩
theorem mfX9_find : MF yX9_find cX9_find 2 none 1 := ⟨(inR8 _ (List.mem_of_getElem? (i := 22) rfl)), (inR2 _ (List.mem_of_getElem? (i := 2) rfl)), by decide +kernel⟩
theorem mlX11_280 : ML RX11 280 yX9_find := (inR8 _ (List.mem_of_getElem? (i := 19) rfl))
theorem mvX9_find : MV yX9_find := ⟨(inR8 _ (List.mem_of_getElem? (i := 20) rfl)), (inR8 _ (List.mem_of_getElem? (i := 21) rfl))⟩
theorem flX11_40 : FL RX11 40 TX11 4 := (inR2 _ (List.mem_of_getElem? (i := 7) rfl))
theorem mlX3_65 : ML RX3 65 yX4_count := (inR12 _ (List.mem_of_getElem? (i := 14) rfl))
theorem flX3_26 : FL RX3 26 TX3 2 := (inR5 _ (List.mem_of_getElem? (i := 7) rfl))
theorem mlX3_74 : ML RX3 74 yX4_left := (inR12 _ (List.mem_of_getElem? (i := 15) rfl))
theorem flX3_12 : FL RX3 12 TX3 0 := (inR5 _ (List.mem_of_getElem? (i := 5) rfl))
theorem mlX3_100 : ML RX3 100 yX4_length := (inR12 _ (List.mem_of_getElem? (i := 20) rfl))
theorem flX3_35 : FL RX3 35 TX3 5 := (inR5 _ (List.mem_of_getElem? (i := 10) rfl))
theorem mlX3_103 : ML RX3 103 yX4_symbolAt := (inR12 _ (List.mem_of_getElem? (i := 21) rfl))
theorem flX3_22 : FL RX3 22 TX3 1 := (inR5 _ (List.mem_of_getElem? (i := 6) rfl))
theorem mfX3_wordsOf : MF yX3_wordsOf cX3_wordsOf 2 (some (.object "LookaheadDepths$WordSet")) 1 := ⟨(inR13 _ (List.mem_of_getElem? (i := 1) rfl)), (inR2 _ (List.mem_of_getElem? (i := 6) rfl)), by decide +kernel⟩
theorem mlX3_110 : ML RX3 110 yX3_wordsOf := (inR12 _ (List.mem_of_getElem? (i := 22) rfl))
theorem mvX3_wordsOf : MV yX3_wordsOf := ⟨(inR12 _ (List.mem_of_getElem? (i := 23) rfl)), (inR13 _ (List.mem_of_getElem? (i := 0) rfl))⟩
theorem flX10_19 : FL RX10 19 TX10 2 := (inR5 _ (List.mem_of_getElem? (i := 19) rfl))
theorem flX10_9 : FL RX10 9 TX10 0 := (inR5 _ (List.mem_of_getElem? (i := 17) rfl))
theorem mfJ7_fill_d0a16 : MF yJ7_fill_d0a16 cJ7_fill_d0a16 5 none 2 := ⟨(inR12 _ (List.mem_of_getElem? (i := 13) rfl)), (inR9 _ (List.mem_of_getElem? (i := 9) rfl)), by decide +kernel⟩
theorem mlX10_22 : ML RX10 22 yJ7_fill_d0a16 := (inR12 _ (List.mem_of_getElem? (i := 11) rfl))
theorem msJ7_fill_d0a16 : MS yJ7_fill_d0a16 := (inR12 _ (List.mem_of_getElem? (i := 12) rfl))
theorem flX10_15 : FL RX10 15 TX10 1 := (inR5 _ (List.mem_of_getElem? (i := 18) rfl))
theorem mfX10_drop : MF yX10_drop cX10_drop 1 none 0 := ⟨(inR12 _ (List.mem_of_getElem? (i := 10) rfl)), (inR5 _ (List.mem_of_getElem? (i := 4) rfl)), by decide +kernel⟩
theorem mlX10_30 : ML RX10 30 yX10_drop := (inR13 _ (List.mem_of_getElem? (i := 7) rfl))
theorem mvX10_drop : MV yX10_drop := ⟨(inR12 _ (List.mem_of_getElem? (i := 8) rfl)), (inR12 _ (List.mem_of_getElem? (i := 9) rfl))⟩
theorem klX10_39 : Cond.constantLong RX10 39 (-64) ∈ wsL_law := (inR13 _ (List.mem_of_getElem? (i := 11) rfl))
theorem klX10_41 : Cond.constantLong RX10 41 (62) ∈ wsL_law := (inR13 _ (List.mem_of_getElem? (i := 12) rfl))
theorem mfX10_joinPairs : MF yX10_joinPairs cX10_joinPairs 6 (some .long) 2 := ⟨(inR13 _ (List.mem_of_getElem? (i := 10) rfl)), (inR5 _ (List.mem_of_getElem? (i := 4) rfl)), by decide +kernel⟩
theorem mlX10_33 : ML RX10 33 yX10_joinPairs := (inR13 _ (List.mem_of_getElem? (i := 8) rfl))
theorem msX10_joinPairs : MS yX10_joinPairs := (inR13 _ (List.mem_of_getElem? (i := 9) rfl))
theorem klX10_37 : Cond.constantLong RX10 37 (-2) ∈ wsL_law := (inR13 _ (List.mem_of_getElem? (i := 6) rfl))
theorem mfX10_join : MF yX10_join cX10_join 5 none 2 := ⟨(inR13 _ (List.mem_of_getElem? (i := 5) rfl)), (inR5 _ (List.mem_of_getElem? (i := 4) rfl)), by decide +kernel⟩
theorem mlX3_114 : ML RX3 114 yX10_join := (inR13 _ (List.mem_of_getElem? (i := 2) rfl))
theorem mvX10_join : MV yX10_join := ⟨(inR13 _ (List.mem_of_getElem? (i := 3) rfl)), (inR13 _ (List.mem_of_getElem? (i := 4) rfl))⟩
theorem mfX3_putBefore : MF yX3_putBefore cX3_putBefore 7 (some (.object "LookaheadDepths$WordSet")) 3 := ⟨(inR12 _ (List.mem_of_getElem? (i := 19) rfl)), (inR2 _ (List.mem_of_getElem? (i := 6) rfl)), by decide +kernel⟩
theorem mlX3_78 : ML RX3 78 yX3_putBefore := (inR12 _ (List.mem_of_getElem? (i := 16) rfl))
theorem mvX3_putBefore : MV yX3_putBefore := ⟨(inR12 _ (List.mem_of_getElem? (i := 17) rfl)), (inR12 _ (List.mem_of_getElem? (i := 18) rfl))⟩
theorem klX10_28 : Cond.constantLong RX10 28 (-1) ∈ wsL_law := (inR13 _ (List.mem_of_getElem? (i := 17) rfl))
theorem mfX10_addAll : MF yX10_addAll cX10_addAll 4 (some .boolean) 1 := ⟨(inR13 _ (List.mem_of_getElem? (i := 16) rfl)), (inR5 _ (List.mem_of_getElem? (i := 4) rfl)), by decide +kernel⟩
theorem mlX3_82 : ML RX3 82 yX10_addAll := (inR13 _ (List.mem_of_getElem? (i := 13) rfl))
theorem mvX10_addAll : MV yX10_addAll := ⟨(inR13 _ (List.mem_of_getElem? (i := 14) rfl)), (inR13 _ (List.mem_of_getElem? (i := 15) rfl))⟩
theorem mlX3_71 : ML RX3 71 yX10_drop := (inR12 _ (List.mem_of_getElem? (i := 7) rfl))
theorem mfX3_findFirsts : MF yX3_findFirsts cX3_findFirsts 5 none 1 := ⟨(inR12 _ (List.mem_of_getElem? (i := 6) rfl)), (inR2 _ (List.mem_of_getElem? (i := 6) rfl)), by decide +kernel⟩
theorem mlX3_58 : ML RX3 58 yX3_findFirsts := (inR12 _ (List.mem_of_getElem? (i := 3) rfl))
theorem mvX3_findFirsts : MV yX3_findFirsts := ⟨(inR12 _ (List.mem_of_getElem? (i := 4) rfl)), (inR12 _ (List.mem_of_getElem? (i := 5) rfl))⟩
theorem flX3_29 : FL RX3 29 TX3 3 := (inR5 _ (List.mem_of_getElem? (i := 8) rfl))
theorem mlX3_93 : ML RX3 93 yX4_start := (inR13 _ (List.mem_of_getElem? (i := 22) rfl))
theorem mfX10_addEmptyWord : MF yX10_addEmptyWord cX10_addEmptyWord 1 none 0 := ⟨(inR6 _ (List.mem_of_getElem? (i := 6) rfl)), (inR5 _ (List.mem_of_getElem? (i := 4) rfl)), by decide +kernel⟩
theorem mlX3_45 : ML RX3 45 yX10_addEmptyWord := (inR6 _ (List.mem_of_getElem? (i := 3) rfl))
theorem mvX10_addEmptyWord : MV yX10_addEmptyWord := ⟨(inR6 _ (List.mem_of_getElem? (i := 4) rfl)), (inR6 _ (List.mem_of_getElem? (i := 5) rfl))⟩
theorem mfX3_growFollows : MF yX3_growFollows cX3_growFollows 8 (some .boolean) 2 := ⟨(inR14 _ (List.mem_of_getElem? (i := 2) rfl)), (inR2 _ (List.mem_of_getElem? (i := 6) rfl)), by decide +kernel⟩
theorem mlX3_96 : ML RX3 96 yX3_growFollows := (inR13 _ (List.mem_of_getElem? (i := 23) rfl))
theorem mvX3_growFollows : MV yX3_growFollows := ⟨(inR14 _ (List.mem_of_getElem? (i := 0) rfl)), (inR14 _ (List.mem_of_getElem? (i := 1) rfl))⟩
theorem mfX3_findFollows : MF yX3_findFollows cX3_findFollows 5 none 1 := ⟨(inR13 _ (List.mem_of_getElem? (i := 21) rfl)), (inR2 _ (List.mem_of_getElem? (i := 6) rfl)), by decide +kernel⟩
theorem mlX3_62 : ML RX3 62 yX3_findFollows := (inR13 _ (List.mem_of_getElem? (i := 18) rfl))
theorem mvX3_findFollows : MV yX3_findFollows := ⟨(inR13 _ (List.mem_of_getElem? (i := 19) rfl)), (inR13 _ (List.mem_of_getElem? (i := 20) rfl))⟩
theorem flX3_38 : FL RX3 38 TX3 6 := (inR5 _ (List.mem_of_getElem? (i := 11) rfl))
theorem flX4_21 : FL RX4 21 TX4 3 := (inR3 _ (List.mem_of_getElem? (i := 22) rfl))
theorem mfX4_begin : MF yX4_begin cX4_begin 2 (some .int) 1 := ⟨(inR14 _ (List.mem_of_getElem? (i := 14) rfl)), (inR2 _ (List.mem_of_getElem? (i := 22) rfl)), by decide +kernel⟩
theorem mlX3_122 : ML RX3 122 yX4_begin := (inR14 _ (List.mem_of_getElem? (i := 11) rfl))
theorem mvX4_begin : MV yX4_begin := ⟨(inR14 _ (List.mem_of_getElem? (i := 12) rfl)), (inR14 _ (List.mem_of_getElem? (i := 13) rfl))⟩
theorem flX4_24 : FL RX4 24 TX4 4 := (inR3 _ (List.mem_of_getElem? (i := 23) rfl))
theorem mfX4_end : MF yX4_end cX4_end 2 (some .int) 1 := ⟨(inR14 _ (List.mem_of_getElem? (i := 18) rfl)), (inR2 _ (List.mem_of_getElem? (i := 22) rfl)), by decide +kernel⟩
theorem mlX3_125 : ML RX3 125 yX4_end := (inR14 _ (List.mem_of_getElem? (i := 15) rfl))
theorem mvX4_end : MV yX4_end := ⟨(inR14 _ (List.mem_of_getElem? (i := 16) rfl)), (inR14 _ (List.mem_of_getElem? (i := 17) rfl))⟩
theorem flX3_32 : FL RX3 32 TX3 4 := (inR5 _ (List.mem_of_getElem? (i := 9) rfl))
theorem mfX10_meets : MF yX10_meets cX10_meets 4 (some .boolean) 2 := ⟨(inR14 _ (List.mem_of_getElem? (i := 22) rfl)), (inR5 _ (List.mem_of_getElem? (i := 4) rfl)), by decide +kernel⟩
theorem mlX3_128 : ML RX3 128 yX10_meets := (inR14 _ (List.mem_of_getElem? (i := 19) rfl))
theorem mvX10_meets : MV yX10_meets := ⟨(inR14 _ (List.mem_of_getElem? (i := 20) rfl)), (inR14 _ (List.mem_of_getElem? (i := 21) rfl))⟩
theorem mfX3_firstClash : MF yX3_firstClash cX3_firstClash 6 (some .int) 3 := ⟨(inR14 _ (List.mem_of_getElem? (i := 10) rfl)), (inR2 _ (List.mem_of_getElem? (i := 6) rfl)), by decide +kernel⟩
theorem mlX3_118 : ML RX3 118 yX3_firstClash := (inR14 _ (List.mem_of_getElem? (i := 7) rfl))
theorem mvX3_firstClash : MV yX3_firstClash := ⟨(inR14 _ (List.mem_of_getElem? (i := 8) rfl)), (inR14 _ (List.mem_of_getElem? (i := 9) rfl))⟩
theorem mfX3_findDepth : MF yX3_findDepth cX3_findDepth 4 (some .int) 2 := ⟨(inR14 _ (List.mem_of_getElem? (i := 6) rfl)), (inR2 _ (List.mem_of_getElem? (i := 6) rfl)), by decide +kernel⟩
theorem mlX3_86 : ML RX3 86 yX3_findDepth := (inR14 _ (List.mem_of_getElem? (i := 3) rfl))
theorem mvX3_findDepth : MV yX3_findDepth := ⟨(inR14 _ (List.mem_of_getElem? (i := 4) rfl)), (inR14 _ (List.mem_of_getElem? (i := 5) rfl))⟩
theorem flX3_42 : FL RX3 42 TX3 7 := (inR5 _ (List.mem_of_getElem? (i := 12) rfl))
theorem mfX10_lastDigits : MF yX10_lastDigits cX10_lastDigits 5 (some .long) 1 := ⟨(inR15 _ (List.mem_of_getElem? (i := 16) rfl)), (inR5 _ (List.mem_of_getElem? (i := 4) rfl)), by decide +kernel⟩
theorem mlX10_57 : ML RX10 57 yX10_lastDigits := (inR15 _ (List.mem_of_getElem? (i := 14) rfl))
theorem msX10_lastDigits : MS yX10_lastDigits := (inR15 _ (List.mem_of_getElem? (i := 15) rfl))
theorem mfX10_markMask : MF yX10_markMask cX10_markMask 3 (some .int) 2 := ⟨(inR15 _ (List.mem_of_getElem? (i := 13) rfl)), (inR5 _ (List.mem_of_getElem? (i := 4) rfl)), by decide +kernel⟩
theorem mlX10_53 : ML RX10 53 yX10_markMask := (inR15 _ (List.mem_of_getElem? (i := 11) rfl))
theorem msX10_markMask : MS yX10_markMask := (inR15 _ (List.mem_of_getElem? (i := 12) rfl))
theorem klX10_61 : Cond.constantLong RX10 61 (63) ∈ wsL_law := (inR15 _ (List.mem_of_getElem? (i := 10) rfl))
theorem mfX10_marksAt : MF yX10_marksAt cX10_marksAt 5 (some .int) 1 := ⟨(inR15 _ (List.mem_of_getElem? (i := 9) rfl)), (inR5 _ (List.mem_of_getElem? (i := 4) rfl)), by decide +kernel⟩
theorem mlX3_136 : ML RX3 136 yX10_marksAt := (inR15 _ (List.mem_of_getElem? (i := 6) rfl))
theorem mvX10_marksAt : MV yX10_marksAt := ⟨(inR15 _ (List.mem_of_getElem? (i := 7) rfl)), (inR15 _ (List.mem_of_getElem? (i := 8) rfl))⟩
theorem mfX3_partingPlace : MF yX3_partingPlace cX3_partingPlace 3 (some .int) 2 := ⟨(inR15 _ (List.mem_of_getElem? (i := 5) rfl)), (inR2 _ (List.mem_of_getElem? (i := 6) rfl)), by decide +kernel⟩
theorem mlX3_132 : ML RX3 132 yX3_partingPlace := (inR15 _ (List.mem_of_getElem? (i := 3) rfl))
theorem msX3_partingPlace : MS yX3_partingPlace := (inR15 _ (List.mem_of_getElem? (i := 4) rfl))
theorem mlX3_52 : ML RX3 52 Lib.Math.max.name := (inR5 _ (List.mem_of_getElem? (i := 23) rfl))
theorem mthmax : Cond.static Lib.Math.max.name ∈ wsL_law ∧ Cond.initialized "java/lang/Math" ∈ wsL_law ∧ Cond.code Lib.Math.max.name Lib.Math.max.code 2 (some .int) ∈ wsL_law := ⟨(inR6 _ (List.mem_of_getElem? (i := 0) rfl)), (inR6 _ (List.mem_of_getElem? (i := 1) rfl)), (inR6 _ (List.mem_of_getElem? (i := 2) rfl))⟩
theorem mfX3_findRoughDepth : MF yX3_findRoughDepth cX3_findRoughDepth 7 (some .int) 2 := ⟨(inR15 _ (List.mem_of_getElem? (i := 2) rfl)), (inR2 _ (List.mem_of_getElem? (i := 6) rfl)), by decide +kernel⟩
theorem mlX3_90 : ML RX3 90 yX3_findRoughDepth := (inR14 _ (List.mem_of_getElem? (i := 23) rfl))
theorem mvX3_findRoughDepth : MV yX3_findRoughDepth := ⟨(inR15 _ (List.mem_of_getElem? (i := 0) rfl)), (inR15 _ (List.mem_of_getElem? (i := 1) rfl))⟩
theorem mfX3_find : MF yX3_find cX3_find 3 none 1 := ⟨(inR12 _ (List.mem_of_getElem? (i := 2) rfl)), (inR2 _ (List.mem_of_getElem? (i := 6) rfl)), by decide +kernel⟩
theorem mlX11_284 : ML RX11 284 yX3_find := (inR11 _ (List.mem_of_getElem? (i := 23) rfl))
theorem mvX3_find : MV yX3_find := ⟨(inR12 _ (List.mem_of_getElem? (i := 0) rfl)), (inR12 _ (List.mem_of_getElem? (i := 1) rfl))⟩
theorem flX11_54 : FL RX11 54 TX11 6 := (inR2 _ (List.mem_of_getElem? (i := 15) rfl))
theorem flX2_33 : FL RX2 33 TX2 5 := (inR7 _ (List.mem_of_getElem? (i := 6) rfl))
theorem flX2_37 : FL RX2 37 TX2 6 := (inR7 _ (List.mem_of_getElem? (i := 7) rfl))
theorem mfX2_forget : MF yX2_forget cX2_forget 1 none 0 := ⟨(inR15 _ (List.mem_of_getElem? (i := 20) rfl)), (inR2 _ (List.mem_of_getElem? (i := 14) rfl)), by decide +kernel⟩
theorem mlX11_87 : ML RX11 87 yX2_forget := (inR15 _ (List.mem_of_getElem? (i := 17) rfl))
theorem mvX2_forget : MV yX2_forget := ⟨(inR15 _ (List.mem_of_getElem? (i := 18) rfl)), (inR15 _ (List.mem_of_getElem? (i := 19) rfl))⟩
theorem flX11_61 : FL RX11 61 TX11 7 := (inR2 _ (List.mem_of_getElem? (i := 19) rfl))
theorem flX0_20 : FL RX0 20 TX0 1 := (inR8 _ (List.mem_of_getElem? (i := 6) rfl))
theorem mfX0_forget : MF yX0_forget cX0_forget 1 none 0 := ⟨(inR16 _ (List.mem_of_getElem? (i := 0) rfl)), (inR2 _ (List.mem_of_getElem? (i := 18) rfl)), by decide +kernel⟩
theorem mlX11_285 : ML RX11 285 yX0_forget := (inR15 _ (List.mem_of_getElem? (i := 21) rfl))
theorem mvX0_forget : MV yX0_forget := ⟨(inR15 _ (List.mem_of_getElem? (i := 22) rfl)), (inR15 _ (List.mem_of_getElem? (i := 23) rfl))⟩
theorem flX4_31 : FL RX4 31 TX4 6 := (inR4 _ (List.mem_of_getElem? (i := 1) rfl))
theorem flX1_15 : FL RX1 15 TX1 1 := (inR7 _ (List.mem_of_getElem? (i := 17) rfl))
theorem flX11_10 : FL RX11 10 TX11 0 := (inR1 _ (List.mem_of_getElem? (i := 15) rfl))
theorem flX8_15 : FL RX8 15 TX8 1 := (inR3 _ (List.mem_of_getElem? (i := 5) rfl))
theorem mfX8_size : MF yX8_size cX8_size 1 (some .int) 0 := ⟨(inR21 _ (List.mem_of_getElem? (i := 15) rfl)), (inR1 _ (List.mem_of_getElem? (i := 14) rfl)), by decide +kernel⟩
theorem mlX11_79 : ML RX11 79 yX8_size := (inR21 _ (List.mem_of_getElem? (i := 12) rfl))
theorem mvX8_size : MV yX8_size := ⟨(inR21 _ (List.mem_of_getElem? (i := 13) rfl)), (inR21 _ (List.mem_of_getElem? (i := 14) rfl))⟩
theorem flX8_9 : FL RX8 9 TX8 0 := (inR3 _ (List.mem_of_getElem? (i := 4) rfl))
theorem mfX8_append : MF yX8_append cX8_append 2 none 1 := ⟨(inR21 _ (List.mem_of_getElem? (i := 19) rfl)), (inR1 _ (List.mem_of_getElem? (i := 14) rfl)), by decide +kernel⟩
theorem mlX11_83 : ML RX11 83 yX8_append := (inR21 _ (List.mem_of_getElem? (i := 16) rfl))
theorem mvX8_append : MV yX8_append := ⟨(inR21 _ (List.mem_of_getElem? (i := 17) rfl)), (inR21 _ (List.mem_of_getElem? (i := 18) rfl))⟩
theorem mfX8_drop : MF yX8_drop cX8_drop 1 none 0 := ⟨(inR22 _ (List.mem_of_getElem? (i := 11) rfl)), (inR1 _ (List.mem_of_getElem? (i := 14) rfl)), by decide +kernel⟩
theorem mlX11_90 : ML RX11 90 yX8_drop := (inR22 _ (List.mem_of_getElem? (i := 8) rfl))
theorem mvX8_drop : MV yX8_drop := ⟨(inR22 _ (List.mem_of_getElem? (i := 9) rfl)), (inR22 _ (List.mem_of_getElem? (i := 10) rfl))⟩
theorem flX11_19 : FL RX11 19 TX11 1 := (inR1 _ (List.mem_of_getElem? (i := 19) rfl))
theorem flX7_18 : FL RX7 18 TX7 1 := (inR3 _ (List.mem_of_getElem? (i := 11) rfl))
theorem mlX4_34 : ML RX4 34 yJ7_fill_53178 := (inR23 _ (List.mem_of_getElem? (i := 4) rfl))
theorem mfX4_drop : MF yX4_drop cX4_drop 1 none 0 := ⟨(inR23 _ (List.mem_of_getElem? (i := 3) rfl)), (inR2 _ (List.mem_of_getElem? (i := 22) rfl)), by decide +kernel⟩
theorem mlX7_35 : ML RX7 35 yX4_drop := (inR23 _ (List.mem_of_getElem? (i := 0) rfl))
theorem mvX4_drop : MV yX4_drop := ⟨(inR23 _ (List.mem_of_getElem? (i := 1) rfl)), (inR23 _ (List.mem_of_getElem? (i := 2) rfl))⟩
theorem flX7_22 : FL RX7 22 TX7 2 := (inR3 _ (List.mem_of_getElem? (i := 12) rfl))
theorem flX7_29 : FL RX7 29 TX7 4 := (inR3 _ (List.mem_of_getElem? (i := 14) rfl))
theorem flX7_9 : FL RX7 9 TX7 0 := (inR3 _ (List.mem_of_getElem? (i := 9) rfl))
theorem mlX7_38 : ML RX7 38 yJ7_fill_53178 := (inR23 _ (List.mem_of_getElem? (i := 5) rfl))
theorem mlX7_44 : ML RX7 44 yX8_size := (inR23 _ (List.mem_of_getElem? (i := 6) rfl))
theorem flX7_26 : FL RX7 26 TX7 3 := (inR3 _ (List.mem_of_getElem? (i := 13) rfl))
theorem mfX7_blame : MF yX7_blame cX7_blame 3 none 2 := ⟨(inR24 _ (List.mem_of_getElem? (i := 1) rfl)), (inR1 _ (List.mem_of_getElem? (i := 18) rfl)), by decide +kernel⟩
theorem mlX7_61 : ML RX7 61 yX7_blame := (inR23 _ (List.mem_of_getElem? (i := 22) rfl))
theorem mvX7_blame : MV yX7_blame := ⟨(inR23 _ (List.mem_of_getElem? (i := 23) rfl)), (inR24 _ (List.mem_of_getElem? (i := 0) rfl))⟩
theorem mfX4_defined : MF yX4_defined cX4_defined 1 (some .int) 0 := ⟨(inR24 _ (List.mem_of_getElem? (i := 5) rfl)), (inR2 _ (List.mem_of_getElem? (i := 22) rfl)), by decide +kernel⟩
theorem mlX7_81 : ML RX7 81 yX4_defined := (inR24 _ (List.mem_of_getElem? (i := 2) rfl))
theorem mvX4_defined : MV yX4_defined := ⟨(inR24 _ (List.mem_of_getElem? (i := 3) rfl)), (inR24 _ (List.mem_of_getElem? (i := 4) rfl))⟩
theorem mlX7_88 : ML RX7 88 Lib.Math.min.name := (inR24 _ (List.mem_of_getElem? (i := 10) rfl))
theorem mfX7_blameUndefined : MF yX7_blameUndefined cX7_blameUndefined 3 none 0 := ⟨(inR25 _ (List.mem_of_getElem? (i := 4) rfl)), (inR1 _ (List.mem_of_getElem? (i := 18) rfl)), by decide +kernel⟩
theorem mlX7_64 : ML RX7 64 yX7_blameUndefined := (inR25 _ (List.mem_of_getElem? (i := 1) rfl))
theorem mvX7_blameUndefined : MV yX7_blameUndefined := ⟨(inR25 _ (List.mem_of_getElem? (i := 2) rfl)), (inR25 _ (List.mem_of_getElem? (i := 3) rfl))⟩
theorem mlX7_58 : ML RX7 58 yX4_count := (inR25 _ (List.mem_of_getElem? (i := 0) rfl))
theorem mfX8_at : MF yX8_at cX8_at 2 (some .int) 1 := ⟨(inR23 _ (List.mem_of_getElem? (i := 10) rfl)), (inR1 _ (List.mem_of_getElem? (i := 14) rfl)), by decide +kernel⟩
theorem mlX7_50 : ML RX7 50 yX8_at := (inR23 _ (List.mem_of_getElem? (i := 7) rfl))
theorem mvX8_at : MV yX8_at := ⟨(inR23 _ (List.mem_of_getElem? (i := 8) rfl)), (inR23 _ (List.mem_of_getElem? (i := 9) rfl))⟩
theorem flX7_32 : FL RX7 32 TX7 5 := (inR3 _ (List.mem_of_getElem? (i := 15) rfl))
theorem mfX4_open : MF yX4_open cX4_open 2 (some .boolean) 1 := ⟨(inR8 _ (List.mem_of_getElem? (i := 12) rfl)), (inR2 _ (List.mem_of_getElem? (i := 22) rfl)), by decide +kernel⟩
theorem mlX7_99 : ML RX7 99 yX4_open := (inR24 _ (List.mem_of_getElem? (i := 15) rfl))
theorem mvX4_open : MV yX4_open := ⟨(inR8 _ (List.mem_of_getElem? (i := 10) rfl)), (inR8 _ (List.mem_of_getElem? (i := 11) rfl))⟩
theorem mfX7_openAlternative : MF yX7_openAlternative cX7_openAlternative 2 none 1 := ⟨(inR24 _ (List.mem_of_getElem? (i := 14) rfl)), (inR1 _ (List.mem_of_getElem? (i := 18) rfl)), by decide +kernel⟩
theorem mlX7_73 : ML RX7 73 yX7_openAlternative := (inR24 _ (List.mem_of_getElem? (i := 11) rfl))
theorem mvX7_openAlternative : MV yX7_openAlternative := ⟨(inR24 _ (List.mem_of_getElem? (i := 12) rfl)), (inR24 _ (List.mem_of_getElem? (i := 13) rfl))⟩
theorem mfX7_isNonterminal : MF yX7_isNonterminal cX7_isNonterminal 1 (some .boolean) 1 := ⟨(inR23 _ (List.mem_of_getElem? (i := 21) rfl)), (inR1 _ (List.mem_of_getElem? (i := 18) rfl)), by decide +kernel⟩
theorem mlX7_77 : ML RX7 77 yX7_isNonterminal := (inR23 _ (List.mem_of_getElem? (i := 19) rfl))
theorem msX7_isNonterminal : MS yX7_isNonterminal := (inR23 _ (List.mem_of_getElem? (i := 20) rfl))
theorem mfX4_append : MF yX4_append cX4_append 3 (some .boolean) 1 := ⟨(inR24 _ (List.mem_of_getElem? (i := 23) rfl)), (inR2 _ (List.mem_of_getElem? (i := 22) rfl)), by decide +kernel⟩
theorem mlX7_96 : ML RX7 96 yX4_append := (inR24 _ (List.mem_of_getElem? (i := 20) rfl))
theorem mvX4_append : MV yX4_append := ⟨(inR24 _ (List.mem_of_getElem? (i := 21) rfl)), (inR24 _ (List.mem_of_getElem? (i := 22) rfl))⟩
theorem mfX7_readSymbol : MF yX7_readSymbol cX7_readSymbol 3 none 2 := ⟨(inR24 _ (List.mem_of_getElem? (i := 19) rfl)), (inR1 _ (List.mem_of_getElem? (i := 18) rfl)), by decide +kernel⟩
theorem mlX7_93 : ML RX7 93 yX7_readSymbol := (inR24 _ (List.mem_of_getElem? (i := 16) rfl))
theorem mvX7_readSymbol : MV yX7_readSymbol := ⟨(inR24 _ (List.mem_of_getElem? (i := 17) rfl)), (inR24 _ (List.mem_of_getElem? (i := 18) rfl))⟩
theorem mfX7_readRight : MF yX7_readRight cX7_readRight 3 none 2 := ⟨(inR24 _ (List.mem_of_getElem? (i := 9) rfl)), (inR1 _ (List.mem_of_getElem? (i := 18) rfl)), by decide +kernel⟩
theorem mlX7_70 : ML RX7 70 yX7_readRight := (inR24 _ (List.mem_of_getElem? (i := 6) rfl))
theorem mvX7_readRight : MV yX7_readRight := ⟨(inR24 _ (List.mem_of_getElem? (i := 7) rfl)), (inR24 _ (List.mem_of_getElem? (i := 8) rfl))⟩
theorem mfX7_readLeft : MF yX7_readLeft cX7_readLeft 3 none 2 := ⟨(inR23 _ (List.mem_of_getElem? (i := 18) rfl)), (inR1 _ (List.mem_of_getElem? (i := 18) rfl)), by decide +kernel⟩
theorem mlX7_67 : ML RX7 67 yX7_readLeft := (inR23 _ (List.mem_of_getElem? (i := 15) rfl))
theorem mvX7_readLeft : MV yX7_readLeft := ⟨(inR23 _ (List.mem_of_getElem? (i := 16) rfl)), (inR23 _ (List.mem_of_getElem? (i := 17) rfl))⟩
theorem mfX7_readByte : MF yX7_readByte cX7_readByte 3 none 2 := ⟨(inR23 _ (List.mem_of_getElem? (i := 14) rfl)), (inR1 _ (List.mem_of_getElem? (i := 18) rfl)), by decide +kernel⟩
theorem mlX7_54 : ML RX7 54 yX7_readByte := (inR23 _ (List.mem_of_getElem? (i := 11) rfl))
theorem mvX7_readByte : MV yX7_readByte := ⟨(inR23 _ (List.mem_of_getElem? (i := 12) rfl)), (inR23 _ (List.mem_of_getElem? (i := 13) rfl))⟩
theorem mfX7_read : MF yX7_read cX7_read 3 none 1 := ⟨(inR22 _ (List.mem_of_getElem? (i := 23) rfl)), (inR1 _ (List.mem_of_getElem? (i := 18) rfl)), by decide +kernel⟩
theorem mlX11_93 : ML RX11 93 yX7_read := (inR22 _ (List.mem_of_getElem? (i := 20) rfl))
theorem mvX7_read : MV yX7_read := ⟨(inR22 _ (List.mem_of_getElem? (i := 21) rfl)), (inR22 _ (List.mem_of_getElem? (i := 22) rfl))⟩
theorem mfX7_kind : MF yX7_kind cX7_kind 1 (some .int) 0 := ⟨(inR25 _ (List.mem_of_getElem? (i := 8) rfl)), (inR1 _ (List.mem_of_getElem? (i := 18) rfl)), by decide +kernel⟩
theorem mlX11_97 : ML RX11 97 yX7_kind := (inR25 _ (List.mem_of_getElem? (i := 5) rfl))
theorem mvX7_kind : MV yX7_kind := ⟨(inR25 _ (List.mem_of_getElem? (i := 6) rfl)), (inR25 _ (List.mem_of_getElem? (i := 7) rfl))⟩
theorem flX11_26 : FL RX11 26 TX11 2 := (inR1 _ (List.mem_of_getElem? (i := 23) rfl))
theorem flX5_17 : FL RX5 17 TX5 1 := (inR4 _ (List.mem_of_getElem? (i := 8) rfl))
theorem flX5_11 : FL RX5 11 TX5 0 := (inR4 _ (List.mem_of_getElem? (i := 7) rfl))
theorem mfX5_remember : MF yX5_remember cX5_remember 4 (some (.object "LookaheadDepths$Grammar")) 1 := ⟨(inR25 _ (List.mem_of_getElem? (i := 16) rfl)), (inR1 _ (List.mem_of_getElem? (i := 22) rfl)), by decide +kernel⟩
theorem mlX11_103 : ML RX11 103 yX5_remember := (inR25 _ (List.mem_of_getElem? (i := 13) rfl))
theorem mvX5_remember : MV yX5_remember := ⟨(inR25 _ (List.mem_of_getElem? (i := 14) rfl)), (inR25 _ (List.mem_of_getElem? (i := 15) rfl))⟩
theorem mfX7_exchange : MF yX7_exchange cX7_exchange 3 (some (.object "LookaheadDepths$Grammar")) 1 := ⟨(inR25 _ (List.mem_of_getElem? (i := 20) rfl)), (inR1 _ (List.mem_of_getElem? (i := 18) rfl)), by decide +kernel⟩
theorem mlX11_107 : ML RX11 107 yX7_exchange := (inR25 _ (List.mem_of_getElem? (i := 17) rfl))
theorem mvX7_exchange : MV yX7_exchange := ⟨(inR25 _ (List.mem_of_getElem? (i := 18) rfl)), (inR25 _ (List.mem_of_getElem? (i := 19) rfl))⟩
theorem mfX11_study : MF yX11_study cX11_study 1 none 0 := ⟨(inR8 _ (List.mem_of_getElem? (i := 18) rfl)), (inR1 _ (List.mem_of_getElem? (i := 2) rfl)), by decide +kernel⟩
theorem mlX11_76 : ML RX11 76 yX11_study := (inR8 _ (List.mem_of_getElem? (i := 15) rfl))
theorem mvX11_study : MV yX11_study := ⟨(inR8 _ (List.mem_of_getElem? (i := 16) rfl)), (inR8 _ (List.mem_of_getElem? (i := 17) rfl))⟩
theorem mlX11_110 : ML RX11 110 yX4_count := (inR25 _ (List.mem_of_getElem? (i := 21) rfl))
theorem mfX7_position : MF yX7_position cX7_position 1 (some .int) 0 := ⟨(inR25 _ (List.mem_of_getElem? (i := 12) rfl)), (inR1 _ (List.mem_of_getElem? (i := 18) rfl)), by decide +kernel⟩
theorem mlX11_100 : ML RX11 100 yX7_position := (inR25 _ (List.mem_of_getElem? (i := 9) rfl))
theorem mvX7_position : MV yX7_position := ⟨(inR25 _ (List.mem_of_getElem? (i := 10) rfl)), (inR25 _ (List.mem_of_getElem? (i := 11) rfl))⟩
theorem mfX4_has : MF yX4_has cX4_has 2 (some .boolean) 1 := ⟨(inR27 _ (List.mem_of_getElem? (i := 16) rfl)), (inR2 _ (List.mem_of_getElem? (i := 22) rfl)), by decide +kernel⟩
theorem mlX11_113 : ML RX11 113 yX4_has := (inR27 _ (List.mem_of_getElem? (i := 13) rfl))
theorem mvX4_has : MV yX4_has := ⟨(inR27 _ (List.mem_of_getElem? (i := 14) rfl)), (inR27 _ (List.mem_of_getElem? (i := 15) rfl))⟩
theorem mlX11_120 : ML RX11 120 yX4_length := (inR27 _ (List.mem_of_getElem? (i := 18) rfl))
theorem mlX11_116 : ML RX11 116 yX4_left := (inR27 _ (List.mem_of_getElem? (i := 17) rfl))
theorem mlX11_123 : ML RX11 123 yX4_symbolAt := (inR28 _ (List.mem_of_getElem? (i := 7) rfl))
theorem mlX11_127 : ML RX11 127 yX4_defined := (inR28 _ (List.mem_of_getElem? (i := 17) rfl))
theorem mlX11_130 : ML RX11 130 yX11_bit := (inR28 _ (List.mem_of_getElem? (i := 18) rfl))
theorem mfX9_fewest : MF yX9_fewest cX9_fewest 2 (some .int) 1 := ⟨(inR28 _ (List.mem_of_getElem? (i := 22) rfl)), (inR2 _ (List.mem_of_getElem? (i := 2) rfl)), by decide +kernel⟩
theorem mlX11_133 : ML RX11 133 yX9_fewest := (inR28 _ (List.mem_of_getElem? (i := 19) rfl))
theorem mvX9_fewest : MV yX9_fewest := ⟨(inR28 _ (List.mem_of_getElem? (i := 20) rfl)), (inR28 _ (List.mem_of_getElem? (i := 21) rfl))⟩
theorem kiX11_136 : Cond.constant RX11 136 (1000000) ∈ wsL_law := (inR28 _ (List.mem_of_getElem? (i := 16) rfl))
theorem mfX9_reachable : MF yX9_reachable cX9_reachable 1 (some .int) 0 := ⟨(inR29 _ (List.mem_of_getElem? (i := 2) rfl)), (inR2 _ (List.mem_of_getElem? (i := 2) rfl)), by decide +kernel⟩
theorem mlX11_137 : ML RX11 137 yX9_reachable := (inR28 _ (List.mem_of_getElem? (i := 23) rfl))
theorem mvX9_reachable : MV yX9_reachable := ⟨(inR29 _ (List.mem_of_getElem? (i := 0) rfl)), (inR29 _ (List.mem_of_getElem? (i := 1) rfl))⟩
theorem mfX9_recursive : MF yX9_recursive cX9_recursive 1 (some .int) 0 := ⟨(inR29 _ (List.mem_of_getElem? (i := 6) rfl)), (inR2 _ (List.mem_of_getElem? (i := 2) rfl)), by decide +kernel⟩
theorem mlX11_140 : ML RX11 140 yX9_recursive := (inR29 _ (List.mem_of_getElem? (i := 3) rfl))
theorem mvX9_recursive : MV yX9_recursive := ⟨(inR29 _ (List.mem_of_getElem? (i := 4) rfl)), (inR29 _ (List.mem_of_getElem? (i := 5) rfl))⟩
theorem mfX9_cyclic : MF yX9_cyclic cX9_cyclic 1 (some .int) 0 := ⟨(inR29 _ (List.mem_of_getElem? (i := 10) rfl)), (inR2 _ (List.mem_of_getElem? (i := 2) rfl)), by decide +kernel⟩
theorem mlX11_143 : ML RX11 143 yX9_cyclic := (inR29 _ (List.mem_of_getElem? (i := 7) rfl))
theorem mvX9_cyclic : MV yX9_cyclic := ⟨(inR29 _ (List.mem_of_getElem? (i := 8) rfl)), (inR29 _ (List.mem_of_getElem? (i := 9) rfl))⟩
theorem mlX11_146 : ML RX11 146 yX4_end := (inR29 _ (List.mem_of_getElem? (i := 11) rfl))
theorem mlX11_149 : ML RX11 149 yX4_begin := (inR29 _ (List.mem_of_getElem? (i := 12) rfl))
theorem mfX11_isDefined : MF yX11_isDefined cX11_isDefined 2 (some .boolean) 1 := ⟨(inR30 _ (List.mem_of_getElem? (i := 12) rfl)), (inR1 _ (List.mem_of_getElem? (i := 2) rfl)), by decide +kernel⟩
theorem mlX11_152 : ML RX11 152 yX11_isDefined := (inR30 _ (List.mem_of_getElem? (i := 9) rfl))
theorem mvX11_isDefined : MV yX11_isDefined := ⟨(inR30 _ (List.mem_of_getElem? (i := 10) rfl)), (inR30 _ (List.mem_of_getElem? (i := 11) rfl))⟩
theorem mfX11_isLookahead : MF yX11_isLookahead cX11_isLookahead 1 (some .boolean) 1 := ⟨(inR30 _ (List.mem_of_getElem? (i := 19) rfl)), (inR1 _ (List.mem_of_getElem? (i := 2) rfl)), by decide +kernel⟩
theorem mlX11_173 : ML RX11 173 yX11_isLookahead := (inR30 _ (List.mem_of_getElem? (i := 17) rfl))
theorem msX11_isLookahead : MS yX11_isLookahead := (inR30 _ (List.mem_of_getElem? (i := 18) rfl))
theorem fsX11_178 : Cond.fieldLink RX11 178 RX11 "WORD_LIMITS" "[I" ∈ wsL_law := (inR30 _ (List.mem_of_getElem? (i := 16) rfl))
theorem mfX11_isWord : MF yX11_isWord cX11_isWord 4 (some .boolean) 2 := ⟨(inR30 _ (List.mem_of_getElem? (i := 15) rfl)), (inR1 _ (List.mem_of_getElem? (i := 2) rfl)), by decide +kernel⟩
theorem mlX11_155 : ML RX11 155 yX11_isWord := (inR30 _ (List.mem_of_getElem? (i := 13) rfl))
theorem msX11_isWord : MS yX11_isWord := (inR30 _ (List.mem_of_getElem? (i := 14) rfl))
theorem mfX3_firstOf : MF yX3_firstOf cX3_firstOf 2 (some (.object "LookaheadDepths$WordSet")) 1 := ⟨(inR30 _ (List.mem_of_getElem? (i := 23) rfl)), (inR2 _ (List.mem_of_getElem? (i := 6) rfl)), by decide +kernel⟩
theorem mlX11_159 : ML RX11 159 yX3_firstOf := (inR30 _ (List.mem_of_getElem? (i := 20) rfl))
theorem mvX3_firstOf : MV yX3_firstOf := ⟨(inR30 _ (List.mem_of_getElem? (i := 21) rfl)), (inR30 _ (List.mem_of_getElem? (i := 22) rfl))⟩
theorem mfX10_has : MF yX10_has cX10_has 4 (some .boolean) 2 := ⟨(inR31 _ (List.mem_of_getElem? (i := 3) rfl)), (inR5 _ (List.mem_of_getElem? (i := 4) rfl)), by decide +kernel⟩
theorem mlX11_163 : ML RX11 163 yX10_has := (inR31 _ (List.mem_of_getElem? (i := 0) rfl))
theorem mvX10_has : MV yX10_has := ⟨(inR31 _ (List.mem_of_getElem? (i := 1) rfl)), (inR31 _ (List.mem_of_getElem? (i := 2) rfl))⟩
theorem mfX3_followOf : MF yX3_followOf cX3_followOf 2 (some (.object "LookaheadDepths$WordSet")) 1 := ⟨(inR32 _ (List.mem_of_getElem? (i := 1) rfl)), (inR2 _ (List.mem_of_getElem? (i := 6) rfl)), by decide +kernel⟩
theorem mlX11_167 : ML RX11 167 yX3_followOf := (inR31 _ (List.mem_of_getElem? (i := 22) rfl))
theorem mvX3_followOf : MV yX3_followOf := ⟨(inR31 _ (List.mem_of_getElem? (i := 23) rfl)), (inR32 _ (List.mem_of_getElem? (i := 0) rfl))⟩
theorem mfX3_aheadOf : MF yX3_aheadOf cX3_aheadOf 2 (some (.object "LookaheadDepths$WordSet")) 1 := ⟨(inR32 _ (List.mem_of_getElem? (i := 13) rfl)), (inR2 _ (List.mem_of_getElem? (i := 6) rfl)), by decide +kernel⟩
theorem mlX11_170 : ML RX11 170 yX3_aheadOf := (inR32 _ (List.mem_of_getElem? (i := 10) rfl))
theorem mvX3_aheadOf : MV yX3_aheadOf := ⟨(inR32 _ (List.mem_of_getElem? (i := 11) rfl)), (inR32 _ (List.mem_of_getElem? (i := 12) rfl))⟩
theorem klJ13_314 : Cond.constantLong RJ13 314 (6148914691236517205) ∈ wsL_law := (inR33 _ (List.mem_of_getElem? (i := 6) rfl))
theorem klJ13_316 : Cond.constantLong RJ13 316 (3689348814741910323) ∈ wsL_law := (inR33 _ (List.mem_of_getElem? (i := 7) rfl))
theorem klJ13_318 : Cond.constantLong RJ13 318 (1085102592571150095) ∈ wsL_law := (inR33 _ (List.mem_of_getElem? (i := 8) rfl))
theorem mfJ13_bitCount_95d88 : MF yJ13_bitCount_95d88 cJ13_bitCount_95d88 2 (some .int) 1 := ⟨(inR33 _ (List.mem_of_getElem? (i := 5) rfl)), (inR33 _ (List.mem_of_getElem? (i := 4) rfl)), by decide +kernel⟩
theorem mlX10_47 : ML RX10 47 yJ13_bitCount_95d88 := (inR33 _ (List.mem_of_getElem? (i := 2) rfl))
theorem msJ13_bitCount_95d88 : MS yJ13_bitCount_95d88 := (inR33 _ (List.mem_of_getElem? (i := 3) rfl))
theorem mfX10_size : MF yX10_size cX10_size 4 (some .int) 1 := ⟨(inR33 _ (List.mem_of_getElem? (i := 1) rfl)), (inR5 _ (List.mem_of_getElem? (i := 4) rfl)), by decide +kernel⟩
theorem mlX11_176 : ML RX11 176 yX10_size := (inR32 _ (List.mem_of_getElem? (i := 22) rfl))
theorem mvX10_size : MV yX10_size := ⟨(inR32 _ (List.mem_of_getElem? (i := 23) rfl)), (inR33 _ (List.mem_of_getElem? (i := 0) rfl))⟩
theorem mlX11_182 : ML RX11 182 yX10_marksAt := (inR34 _ (List.mem_of_getElem? (i := 5) rfl))
theorem mfX3_depthOf : MF yX3_depthOf cX3_depthOf 2 (some .int) 1 := ⟨(inR34 _ (List.mem_of_getElem? (i := 21) rfl)), (inR2 _ (List.mem_of_getElem? (i := 6) rfl)), by decide +kernel⟩
theorem mlX11_185 : ML RX11 185 yX3_depthOf := (inR34 _ (List.mem_of_getElem? (i := 18) rfl))
theorem mvX3_depthOf : MV yX3_depthOf := ⟨(inR34 _ (List.mem_of_getElem? (i := 19) rfl)), (inR34 _ (List.mem_of_getElem? (i := 20) rfl))⟩
theorem mfX3_roughDepthOf : MF yX3_roughDepthOf cX3_roughDepthOf 2 (some .int) 1 := ⟨(inR35 _ (List.mem_of_getElem? (i := 21) rfl)), (inR2 _ (List.mem_of_getElem? (i := 6) rfl)), by decide +kernel⟩
theorem mlX11_188 : ML RX11 188 yX3_roughDepthOf := (inR35 _ (List.mem_of_getElem? (i := 18) rfl))
theorem mvX3_roughDepthOf : MV yX3_roughDepthOf := ⟨(inR35 _ (List.mem_of_getElem? (i := 19) rfl)), (inR35 _ (List.mem_of_getElem? (i := 20) rfl))⟩
theorem mlX11_191 : ML RX11 191 Lib.Math.max.name := (inR36 _ (List.mem_of_getElem? (i := 14) rfl))
theorem mlX11_196 : ML RX11 196 yX3_firstClash := (inR36 _ (List.mem_of_getElem? (i := 23) rfl))
theorem flX11_47 : FL RX11 47 TX11 5 := (inR2 _ (List.mem_of_getElem? (i := 11) rfl))
theorem flX6_22 : FL RX6 22 TX6 3 := (inR6 _ (List.mem_of_getElem? (i := 17) rfl))
theorem mfX6_forget : MF yX6_forget cX6_forget 1 none 0 := ⟨(inR37 _ (List.mem_of_getElem? (i := 19) rfl)), (inR2 _ (List.mem_of_getElem? (i := 10) rfl)), by decide +kernel⟩
theorem mlX11_200 : ML RX11 200 yX6_forget := (inR37 _ (List.mem_of_getElem? (i := 16) rfl))
theorem mvX6_forget : MV yX6_forget := ⟨(inR37 _ (List.mem_of_getElem? (i := 17) rfl)), (inR37 _ (List.mem_of_getElem? (i := 18) rfl))⟩
theorem mfX11_deepest : MF yX11_deepest cX11_deepest 5 (some .int) 1 := ⟨(inR36 _ (List.mem_of_getElem? (i := 13) rfl)), (inR1 _ (List.mem_of_getElem? (i := 2) rfl)), by decide +kernel⟩
theorem mlX11_201 : ML RX11 201 yX11_deepest := (inR37 _ (List.mem_of_getElem? (i := 20) rfl))
theorem mvX11_deepest : MV yX11_deepest := ⟨(inR36 _ (List.mem_of_getElem? (i := 11) rfl)), (inR36 _ (List.mem_of_getElem? (i := 12) rfl))⟩
theorem mfX9_recursesReachably : MF yX9_recursesReachably cX9_recursesReachably 1 (some .boolean) 0 := ⟨(inR38 _ (List.mem_of_getElem? (i := 0) rfl)), (inR2 _ (List.mem_of_getElem? (i := 2) rfl)), by decide +kernel⟩
theorem mlX11_205 : ML RX11 205 yX9_recursesReachably := (inR37 _ (List.mem_of_getElem? (i := 21) rfl))
theorem mvX9_recursesReachably : MV yX9_recursesReachably := ⟨(inR37 _ (List.mem_of_getElem? (i := 22) rfl)), (inR37 _ (List.mem_of_getElem? (i := 23) rfl))⟩
theorem mfX8_inputFault : MF yX8_inputFault cX8_inputFault 2 (some .int) 0 := ⟨(inR38 _ (List.mem_of_getElem? (i := 4) rfl)), (inR1 _ (List.mem_of_getElem? (i := 14) rfl)), by decide +kernel⟩
theorem mlX11_209 : ML RX11 209 yX8_inputFault := (inR38 _ (List.mem_of_getElem? (i := 1) rfl))
theorem mvX8_inputFault : MV yX8_inputFault := ⟨(inR38 _ (List.mem_of_getElem? (i := 2) rfl)), (inR38 _ (List.mem_of_getElem? (i := 3) rfl))⟩
theorem flX6_9 : FL RX6 9 TX6 0 := (inR6 _ (List.mem_of_getElem? (i := 14) rfl))
theorem mlX6_25 : ML RX6 25 yX4_start := (inR38 _ (List.mem_of_getElem? (i := 9) rfl))
theorem flX6_18 : FL RX6 18 TX6 2 := (inR6 _ (List.mem_of_getElem? (i := 16) rfl))
theorem mlX6_58 : ML RX6 58 yX8_size := (inR38 _ (List.mem_of_getElem? (i := 19) rfl))
theorem mlX6_41 : ML RX6 41 yX3_depthOf := (inR38 _ (List.mem_of_getElem? (i := 15) rfl))
theorem mlX8_19 : ML RX8 19 yX8_at := (inR38 _ (List.mem_of_getElem? (i := 14) rfl))
theorem mfX8_letterAt : MF yX8_letterAt cX8_letterAt 2 (some .int) 1 := ⟨(inR38 _ (List.mem_of_getElem? (i := 13) rfl)), (inR1 _ (List.mem_of_getElem? (i := 14) rfl)), by decide +kernel⟩
theorem mlX6_35 : ML RX6 35 yX8_letterAt := (inR38 _ (List.mem_of_getElem? (i := 10) rfl))
theorem mvX8_letterAt : MV yX8_letterAt := ⟨(inR38 _ (List.mem_of_getElem? (i := 11) rfl)), (inR38 _ (List.mem_of_getElem? (i := 12) rfl))⟩
theorem mfX6_beginning : MF yX6_beginning cX6_beginning 5 (some .int) 3 := ⟨(inR38 _ (List.mem_of_getElem? (i := 18) rfl)), (inR2 _ (List.mem_of_getElem? (i := 10) rfl)), by decide +kernel⟩
theorem mlX6_46 : ML RX6 46 yX6_beginning := (inR38 _ (List.mem_of_getElem? (i := 16) rfl))
theorem msX6_beginning : MS yX6_beginning := (inR38 _ (List.mem_of_getElem? (i := 17) rfl))
theorem mlX6_61 : ML RX6 61 yX4_begin := (inR38 _ (List.mem_of_getElem? (i := 23) rfl))
theorem mlX6_64 : ML RX6 64 yX4_end := (inR39 _ (List.mem_of_getElem? (i := 0) rfl))
theorem mlX6_67 : ML RX6 67 yX3_aheadOf := (inR39 _ (List.mem_of_getElem? (i := 1) rfl))
theorem mlX6_71 : ML RX6 71 yX10_has := (inR39 _ (List.mem_of_getElem? (i := 2) rfl))
theorem mfX6_choose : MF yX6_choose cX6_choose 6 (some .int) 5 := ⟨(inR38 _ (List.mem_of_getElem? (i := 22) rfl)), (inR2 _ (List.mem_of_getElem? (i := 10) rfl)), by decide +kernel⟩
theorem mlX6_50 : ML RX6 50 yX6_choose := (inR38 _ (List.mem_of_getElem? (i := 20) rfl))
theorem msX6_choose : MS yX6_choose := (inR38 _ (List.mem_of_getElem? (i := 21) rfl))
theorem flX6_15 : FL RX6 15 TX6 1 := (inR6 _ (List.mem_of_getElem? (i := 15) rfl))
theorem mlX6_77 : ML RX6 77 yX4_length := (inR39 _ (List.mem_of_getElem? (i := 7) rfl))
theorem mlX6_80 : ML RX6 80 yX4_symbolAt := (inR39 _ (List.mem_of_getElem? (i := 8) rfl))
theorem mfX6_take : MF yX6_take cX6_take 4 none 2 := ⟨(inR39 _ (List.mem_of_getElem? (i := 6) rfl)), (inR2 _ (List.mem_of_getElem? (i := 10) rfl)), by decide +kernel⟩
theorem mlX6_54 : ML RX6 54 yX6_take := (inR39 _ (List.mem_of_getElem? (i := 3) rfl))
theorem mvX6_take : MV yX6_take := ⟨(inR39 _ (List.mem_of_getElem? (i := 4) rfl)), (inR39 _ (List.mem_of_getElem? (i := 5) rfl))⟩
theorem mfX6_run : MF yX6_run cX6_run 10 (some .int) 3 := ⟨(inR38 _ (List.mem_of_getElem? (i := 8) rfl)), (inR2 _ (List.mem_of_getElem? (i := 10) rfl)), by decide +kernel⟩
theorem mlX11_212 : ML RX11 212 yX6_run := (inR38 _ (List.mem_of_getElem? (i := 5) rfl))
theorem mvX6_run : MV yX6_run := ⟨(inR38 _ (List.mem_of_getElem? (i := 6) rfl)), (inR38 _ (List.mem_of_getElem? (i := 7) rfl))⟩
theorem mfX6_count : MF yX6_count cX6_count 1 (some .int) 0 := ⟨(inR40 _ (List.mem_of_getElem? (i := 15) rfl)), (inR2 _ (List.mem_of_getElem? (i := 10) rfl)), by decide +kernel⟩
theorem mlX11_216 : ML RX11 216 yX6_count := (inR40 _ (List.mem_of_getElem? (i := 12) rfl))
theorem mvX6_count : MV yX6_count := ⟨(inR40 _ (List.mem_of_getElem? (i := 13) rfl)), (inR40 _ (List.mem_of_getElem? (i := 14) rfl))⟩
theorem mfX6_choice : MF yX6_choice cX6_choice 2 (some .int) 1 := ⟨(inR40 _ (List.mem_of_getElem? (i := 19) rfl)), (inR2 _ (List.mem_of_getElem? (i := 10) rfl)), by decide +kernel⟩
theorem mlX11_217 : ML RX11 217 yX6_choice := (inR40 _ (List.mem_of_getElem? (i := 16) rfl))
theorem mvX6_choice : MV yX6_choice := ⟨(inR40 _ (List.mem_of_getElem? (i := 17) rfl)), (inR40 _ (List.mem_of_getElem? (i := 18) rfl))⟩
theorem mfX9_cyclesReachably : MF yX9_cyclesReachably cX9_cyclesReachably 1 (some .boolean) 0 := ⟨(inR41 _ (List.mem_of_getElem? (i := 7) rfl)), (inR2 _ (List.mem_of_getElem? (i := 2) rfl)), by decide +kernel⟩
theorem mlX11_220 : ML RX11 220 yX9_cyclesReachably := (inR41 _ (List.mem_of_getElem? (i := 4) rfl))
theorem mvX9_cyclesReachably : MV yX9_cyclesReachably := ⟨(inR41 _ (List.mem_of_getElem? (i := 5) rfl)), (inR41 _ (List.mem_of_getElem? (i := 6) rfl))⟩
theorem flX2_44 : FL RX2 44 TX2 8 := (inR7 _ (List.mem_of_getElem? (i := 9) rfl))
theorem mlX2_57 : ML RX2 57 yX8_size := (inR41 _ (List.mem_of_getElem? (i := 12) rfl))
theorem flX2_40 : FL RX2 40 TX2 7 := (inR7 _ (List.mem_of_getElem? (i := 8) rfl))
theorem flX2_16 : FL RX2 16 TX2 0 := (inR7 _ (List.mem_of_getElem? (i := 1) rfl))
theorem mlX2_74 : ML RX2 74 yX4_start := (inR43 _ (List.mem_of_getElem? (i := 7) rfl))
theorem flX1_27 : FL RX1 27 TX1 2 := (inR7 _ (List.mem_of_getElem? (i := 20) rfl))
theorem mfX1_count : MF yX1_count cX1_count 4 (some .int) 3 := ⟨(inR43 _ (List.mem_of_getElem? (i := 6) rfl)), (inR7 _ (List.mem_of_getElem? (i := 0) rfl)), by decide +kernel⟩
theorem mlX2_79 : ML RX2 79 yX1_count := (inR43 _ (List.mem_of_getElem? (i := 8) rfl))
theorem mvX1_count : MV yX1_count := ⟨(inR43 _ (List.mem_of_getElem? (i := 4) rfl)), (inR43 _ (List.mem_of_getElem? (i := 5) rfl))⟩
theorem mfX9_ordered : MF yX9_ordered cX9_ordered 1 (some .int) 0 := ⟨(inR42 _ (List.mem_of_getElem? (i := 5) rfl)), (inR2 _ (List.mem_of_getElem? (i := 2) rfl)), by decide +kernel⟩
theorem mlX1_30 : ML RX1 30 yX9_ordered := (inR42 _ (List.mem_of_getElem? (i := 2) rfl))
theorem mvX9_ordered : MV yX9_ordered := ⟨(inR42 _ (List.mem_of_getElem? (i := 3) rfl)), (inR42 _ (List.mem_of_getElem? (i := 4) rfl))⟩
theorem mfX9_inOrder : MF yX9_inOrder cX9_inOrder 2 (some .int) 1 := ⟨(inR42 _ (List.mem_of_getElem? (i := 9) rfl)), (inR2 _ (List.mem_of_getElem? (i := 2) rfl)), by decide +kernel⟩
theorem mlX1_36 : ML RX1 36 yX9_inOrder := (inR42 _ (List.mem_of_getElem? (i := 6) rfl))
theorem mvX9_inOrder : MV yX9_inOrder := ⟨(inR42 _ (List.mem_of_getElem? (i := 7) rfl)), (inR42 _ (List.mem_of_getElem? (i := 8) rfl))⟩
theorem mlX1_40 : ML RX1 40 yX4_begin := (inR42 _ (List.mem_of_getElem? (i := 10) rfl))
theorem mlX1_45 : ML RX1 45 yX4_end := (inR42 _ (List.mem_of_getElem? (i := 11) rfl))
theorem klX1_55 : Cond.constantLong RX1 55 (1000000000) ∈ wsL_law := (inR41 _ (List.mem_of_getElem? (i := 22) rfl))
theorem mlX1_57 : ML RX1 57 Lib.MathLoose.min_long.x := (inR41 _ (List.mem_of_getElem? (i := 23) rfl))
theorem mthL : Cond.static Lib.MathLoose.min_long.x ∈ wsL_law ∧ Cond.initialized "java/lang/Math" ∈ wsL_law ∧ Cond.code Lib.MathLoose.min_long.x Lib.MathLoose.min_long.code 4 (some .long) ∈ wsL_law := ⟨(inR42 _ (List.mem_of_getElem? (i := 0) rfl)), (inR6 _ (List.mem_of_getElem? (i := 1) rfl)), (inR42 _ (List.mem_of_getElem? (i := 1) rfl))⟩
theorem mlX1_48 : ML RX1 48 yX9_tail := (inR42 _ (List.mem_of_getElem? (i := 12) rfl))
theorem mlX1_61 : ML RX1 61 yX4_length := (inR42 _ (List.mem_of_getElem? (i := 17) rfl))
theorem flX1_18 : FL RX1 18 TX1 3 := (inR7 _ (List.mem_of_getElem? (i := 18) rfl))
theorem mlX1_64 : ML RX1 64 yX4_symbolAt := (inR42 _ (List.mem_of_getElem? (i := 18) rfl))
theorem mlX1_79 : ML RX1 79 yX1_count := (inR43 _ (List.mem_of_getElem? (i := 3) rfl))
theorem mfX1_passNonterminal : MF yX1_passNonterminal cX1_passNonterminal 10 none 5 := ⟨(inR43 _ (List.mem_of_getElem? (i := 2) rfl)), (inR7 _ (List.mem_of_getElem? (i := 0) rfl)), by decide +kernel⟩
theorem mlX1_75 : ML RX1 75 yX1_passNonterminal := (inR42 _ (List.mem_of_getElem? (i := 23) rfl))
theorem mvX1_passNonterminal : MV yX1_passNonterminal := ⟨(inR43 _ (List.mem_of_getElem? (i := 0) rfl)), (inR43 _ (List.mem_of_getElem? (i := 1) rfl))⟩
theorem flX1_9 : FL RX1 9 TX1 0 := (inR7 _ (List.mem_of_getElem? (i := 16) rfl))
theorem mfX1_passLetter : MF yX1_passLetter cX1_passLetter 5 none 3 := ⟨(inR42 _ (List.mem_of_getElem? (i := 22) rfl)), (inR7 _ (List.mem_of_getElem? (i := 0) rfl)), by decide +kernel⟩
theorem mlX1_71 : ML RX1 71 yX1_passLetter := (inR42 _ (List.mem_of_getElem? (i := 19) rfl))
theorem mvX1_passLetter : MV yX1_passLetter := ⟨(inR42 _ (List.mem_of_getElem? (i := 20) rfl)), (inR42 _ (List.mem_of_getElem? (i := 21) rfl))⟩
theorem mfX1_waysOf : MF yX1_waysOf cX1_waysOf 13 (some .int) 5 := ⟨(inR42 _ (List.mem_of_getElem? (i := 16) rfl)), (inR7 _ (List.mem_of_getElem? (i := 0) rfl)), by decide +kernel⟩
theorem mlX1_51 : ML RX1 51 yX1_waysOf := (inR42 _ (List.mem_of_getElem? (i := 13) rfl))
theorem mvX1_waysOf : MV yX1_waysOf := ⟨(inR42 _ (List.mem_of_getElem? (i := 14) rfl)), (inR42 _ (List.mem_of_getElem? (i := 15) rfl))⟩
theorem mfX1_fill : MF yX1_fill cX1_fill 11 none 4 := ⟨(inR41 _ (List.mem_of_getElem? (i := 21) rfl)), (inR7 _ (List.mem_of_getElem? (i := 0) rfl)), by decide +kernel⟩
theorem mlX2_70 : ML RX2 70 yX1_fill := (inR41 _ (List.mem_of_getElem? (i := 18) rfl))
theorem mvX1_fill : MV yX1_fill := ⟨(inR41 _ (List.mem_of_getElem? (i := 19) rfl)), (inR41 _ (List.mem_of_getElem? (i := 20) rfl))⟩
theorem mlX2_62 : ML RX2 62 yX8_letterAt := (inR41 _ (List.mem_of_getElem? (i := 13) rfl))
theorem mfX1_setLetter : MF yX1_setLetter cX1_setLetter 3 none 2 := ⟨(inR41 _ (List.mem_of_getElem? (i := 17) rfl)), (inR7 _ (List.mem_of_getElem? (i := 0) rfl)), by decide +kernel⟩
theorem mlX2_66 : ML RX2 66 yX1_setLetter := (inR41 _ (List.mem_of_getElem? (i := 14) rfl))
theorem mvX1_setLetter : MV yX1_setLetter := ⟨(inR41 _ (List.mem_of_getElem? (i := 15) rfl)), (inR41 _ (List.mem_of_getElem? (i := 16) rfl))⟩
theorem mfX2_total : MF yX2_total cX2_total 6 (some .int) 3 := ⟨(inR41 _ (List.mem_of_getElem? (i := 11) rfl)), (inR2 _ (List.mem_of_getElem? (i := 14) rfl)), by decide +kernel⟩
theorem mlX11_223 : ML RX11 223 yX2_total := (inR41 _ (List.mem_of_getElem? (i := 8) rfl))
theorem mvX2_total : MV yX2_total := ⟨(inR41 _ (List.mem_of_getElem? (i := 9) rfl)), (inR41 _ (List.mem_of_getElem? (i := 10) rfl))⟩
theorem mfX11_derivations : MF yX11_derivations cX11_derivations 2 (some .int) 0 := ⟨(inR41 _ (List.mem_of_getElem? (i := 3) rfl)), (inR1 _ (List.mem_of_getElem? (i := 2) rfl)), by decide +kernel⟩
theorem mlX11_227 : ML RX11 227 yX11_derivations := (inR44 _ (List.mem_of_getElem? (i := 13) rfl))
theorem mvX11_derivations : MV yX11_derivations := ⟨(inR41 _ (List.mem_of_getElem? (i := 1) rfl)), (inR41 _ (List.mem_of_getElem? (i := 2) rfl))⟩
theorem flX2_30 : FL RX2 30 TX2 4 := (inR7 _ (List.mem_of_getElem? (i := 5) rfl))
theorem flX2_27 : FL RX2 27 TX2 3 := (inR7 _ (List.mem_of_getElem? (i := 4) rfl))
theorem flX2_50 : FL RX2 50 TX2 10 := (inR7 _ (List.mem_of_getElem? (i := 11) rfl))
theorem flX2_47 : FL RX2 47 TX2 9 := (inR7 _ (List.mem_of_getElem? (i := 10) rfl))
theorem flX2_20 : FL RX2 20 TX2 1 := (inR7 _ (List.mem_of_getElem? (i := 2) rfl))
theorem flX2_24 : FL RX2 24 TX2 2 := (inR7 _ (List.mem_of_getElem? (i := 3) rfl))
theorem klX2_123 : Cond.constantLong RX2 123 (1000000000) ∈ wsL_law := (inR45 _ (List.mem_of_getElem? (i := 18) rfl))
theorem mlX2_125 : ML RX2 125 Lib.MathLoose.min_long.x := (inR45 _ (List.mem_of_getElem? (i := 19) rfl))
theorem mfX2_waysOfNonterminal : MF yX2_waysOfNonterminal cX2_waysOfNonterminal 7 (some .int) 3 := ⟨(inR45 _ (List.mem_of_getElem? (i := 17) rfl)), (inR2 _ (List.mem_of_getElem? (i := 14) rfl)), by decide +kernel⟩
theorem mlX2_117 : ML RX2 117 yX2_waysOfNonterminal := (inR45 _ (List.mem_of_getElem? (i := 14) rfl))
theorem mvX2_waysOfNonterminal : MV yX2_waysOfNonterminal := ⟨(inR45 _ (List.mem_of_getElem? (i := 15) rfl)), (inR45 _ (List.mem_of_getElem? (i := 16) rfl))⟩
theorem mfX1_letter : MF yX1_letter cX1_letter 2 (some .int) 1 := ⟨(inR45 _ (List.mem_of_getElem? (i := 13) rfl)), (inR7 _ (List.mem_of_getElem? (i := 0) rfl)), by decide +kernel⟩
theorem mlX2_120 : ML RX2 120 yX1_letter := (inR45 _ (List.mem_of_getElem? (i := 10) rfl))
theorem mvX1_letter : MV yX1_letter := ⟨(inR45 _ (List.mem_of_getElem? (i := 11) rfl)), (inR45 _ (List.mem_of_getElem? (i := 12) rfl))⟩
theorem mfX2_waysOfLetter : MF yX2_waysOfLetter cX2_waysOfLetter 4 (some .int) 3 := ⟨(inR45 _ (List.mem_of_getElem? (i := 9) rfl)), (inR2 _ (List.mem_of_getElem? (i := 14) rfl)), by decide +kernel⟩
theorem mlX2_114 : ML RX2 114 yX2_waysOfLetter := (inR45 _ (List.mem_of_getElem? (i := 6) rfl))
theorem mvX2_waysOfLetter : MV yX2_waysOfLetter := ⟨(inR45 _ (List.mem_of_getElem? (i := 7) rfl)), (inR45 _ (List.mem_of_getElem? (i := 8) rfl))⟩
theorem mfX2_push : MF yX2_push cX2_push 5 none 2 := ⟨(inR45 _ (List.mem_of_getElem? (i := 5) rfl)), (inR2 _ (List.mem_of_getElem? (i := 14) rfl)), by decide +kernel⟩
theorem mlX2_98 : ML RX2 98 yX2_push := (inR45 _ (List.mem_of_getElem? (i := 2) rfl))
theorem mvX2_push : MV yX2_push := ⟨(inR45 _ (List.mem_of_getElem? (i := 3) rfl)), (inR45 _ (List.mem_of_getElem? (i := 4) rfl))⟩
theorem mfX2_startStack : MF yX2_startStack cX2_startStack 3 none 1 := ⟨(inR45 _ (List.mem_of_getElem? (i := 1) rfl)), (inR2 _ (List.mem_of_getElem? (i := 14) rfl)), by decide +kernel⟩
theorem mlX2_87 : ML RX2 87 yX2_startStack := (inR44 _ (List.mem_of_getElem? (i := 22) rfl))
theorem mvX2_startStack : MV yX2_startStack := ⟨(inR44 _ (List.mem_of_getElem? (i := 23) rfl)), (inR45 _ (List.mem_of_getElem? (i := 0) rfl))⟩
theorem mlX2_101 : ML RX2 101 yX4_begin := (inR46 _ (List.mem_of_getElem? (i := 0) rfl))
theorem mlX2_104 : ML RX2 104 yX4_end := (inR46 _ (List.mem_of_getElem? (i := 1) rfl))
theorem mlX2_107 : ML RX2 107 yX4_length := (inR46 _ (List.mem_of_getElem? (i := 2) rfl))
theorem mlX2_110 : ML RX2 110 yX4_symbolAt := (inR46 _ (List.mem_of_getElem? (i := 3) rfl))
theorem mfX2_replace : MF yX2_replace cX2_replace 7 (some .int) 3 := ⟨(inR45 _ (List.mem_of_getElem? (i := 23) rfl)), (inR2 _ (List.mem_of_getElem? (i := 14) rfl)), by decide +kernel⟩
theorem mlX2_94 : ML RX2 94 yX2_replace := (inR45 _ (List.mem_of_getElem? (i := 20) rfl))
theorem mvX2_replace : MV yX2_replace := ⟨(inR45 _ (List.mem_of_getElem? (i := 21) rfl)), (inR45 _ (List.mem_of_getElem? (i := 22) rfl))⟩
theorem mfX2_list : MF yX2_list cX2_list 7 (some .int) 2 := ⟨(inR44 _ (List.mem_of_getElem? (i := 21) rfl)), (inR2 _ (List.mem_of_getElem? (i := 14) rfl)), by decide +kernel⟩
theorem mlX2_83 : ML RX2 83 yX2_list := (inR44 _ (List.mem_of_getElem? (i := 18) rfl))
theorem mvX2_list : MV yX2_list := ⟨(inR44 _ (List.mem_of_getElem? (i := 19) rfl)), (inR44 _ (List.mem_of_getElem? (i := 20) rfl))⟩
theorem mfX2_stepAt : MF yX2_stepAt cX2_stepAt 4 (some .int) 3 := ⟨(inR44 _ (List.mem_of_getElem? (i := 17) rfl)), (inR2 _ (List.mem_of_getElem? (i := 14) rfl)), by decide +kernel⟩
theorem mlX11_230 : ML RX11 230 yX2_stepAt := (inR44 _ (List.mem_of_getElem? (i := 14) rfl))
theorem mvX2_stepAt : MV yX2_stepAt := ⟨(inR44 _ (List.mem_of_getElem? (i := 15) rfl)), (inR44 _ (List.mem_of_getElem? (i := 16) rfl))⟩
theorem flX0_24 : FL RX0 24 TX0 2 := (inR8 _ (List.mem_of_getElem? (i := 7) rfl))
theorem flX0_16 : FL RX0 16 TX0 0 := (inR8 _ (List.mem_of_getElem? (i := 5) rfl))
theorem mlX0_65 : ML RX0 65 yX1_setLetter := (inR47 _ (List.mem_of_getElem? (i := 13) rfl))
theorem mfX0_spell : MF yX0_spell cX0_spell 5 (some .int) 1 := ⟨(inR47 _ (List.mem_of_getElem? (i := 12) rfl)), (inR2 _ (List.mem_of_getElem? (i := 18) rfl)), by decide +kernel⟩
theorem mlX0_32 : ML RX0 32 yX0_spell := (inR47 _ (List.mem_of_getElem? (i := 9) rfl))
theorem mvX0_spell : MV yX0_spell := ⟨(inR47 _ (List.mem_of_getElem? (i := 10) rfl)), (inR47 _ (List.mem_of_getElem? (i := 11) rfl))⟩
theorem mfX9_letters : MF yX9_letters cX9_letters 1 (some .int) 0 := ⟨(inR47 _ (List.mem_of_getElem? (i := 17) rfl)), (inR2 _ (List.mem_of_getElem? (i := 2) rfl)), by decide +kernel⟩
theorem mlX0_36 : ML RX0 36 yX9_letters := (inR47 _ (List.mem_of_getElem? (i := 14) rfl))
theorem mvX9_letters : MV yX9_letters := ⟨(inR47 _ (List.mem_of_getElem? (i := 15) rfl)), (inR47 _ (List.mem_of_getElem? (i := 16) rfl))⟩
theorem mlX0_69 : ML RX0 69 yX1_letter := (inR47 _ (List.mem_of_getElem? (i := 22) rfl))
theorem mfX0_isOver : MF yX0_isOver cX0_isOver 4 (some .boolean) 2 := ⟨(inR47 _ (List.mem_of_getElem? (i := 21) rfl)), (inR2 _ (List.mem_of_getElem? (i := 18) rfl)), by decide +kernel⟩
theorem mlX0_42 : ML RX0 42 yX0_isOver := (inR47 _ (List.mem_of_getElem? (i := 18) rfl))
theorem mvX0_isOver : MV yX0_isOver := ⟨(inR47 _ (List.mem_of_getElem? (i := 19) rfl)), (inR47 _ (List.mem_of_getElem? (i := 20) rfl))⟩
theorem mfX1_setEntry : MF yX1_setEntry cX1_setEntry 4 none 3 := ⟨(inR8 _ (List.mem_of_getElem? (i := 0) rfl)), (inR7 _ (List.mem_of_getElem? (i := 0) rfl)), by decide +kernel⟩
theorem mlX0_76 : ML RX0 76 yX1_setEntry := (inR48 _ (List.mem_of_getElem? (i := 3) rfl))
theorem mvX1_setEntry : MV yX1_setEntry := ⟨(inR7 _ (List.mem_of_getElem? (i := 22) rfl)), (inR7 _ (List.mem_of_getElem? (i := 23) rfl))⟩
theorem mfX0_enterParts : MF yX0_enterParts cX0_enterParts 5 none 1 := ⟨(inR48 _ (List.mem_of_getElem? (i := 2) rfl)), (inR2 _ (List.mem_of_getElem? (i := 18) rfl)), by decide +kernel⟩
theorem mlX0_46 : ML RX0 46 yX0_enterParts := (inR47 _ (List.mem_of_getElem? (i := 23) rfl))
theorem mvX0_enterParts : MV yX0_enterParts := ⟨(inR48 _ (List.mem_of_getElem? (i := 0) rfl)), (inR48 _ (List.mem_of_getElem? (i := 1) rfl))⟩
theorem mlX0_49 : ML RX0 49 yX1_fill := (inR48 _ (List.mem_of_getElem? (i := 4) rfl))
theorem mlX0_53 : ML RX0 53 yX4_start := (inR48 _ (List.mem_of_getElem? (i := 5) rfl))
theorem mlX0_58 : ML RX0 58 yX1_count := (inR48 _ (List.mem_of_getElem? (i := 6) rfl))
theorem mfX0_number : MF yX0_number cX0_number 4 (some .int) 1 := ⟨(inR48 _ (List.mem_of_getElem? (i := 10) rfl)), (inR2 _ (List.mem_of_getElem? (i := 18) rfl)), by decide +kernel⟩
theorem mlX0_62 : ML RX0 62 yX0_number := (inR48 _ (List.mem_of_getElem? (i := 7) rfl))
theorem mvX0_number : MV yX0_number := ⟨(inR48 _ (List.mem_of_getElem? (i := 8) rfl)), (inR48 _ (List.mem_of_getElem? (i := 9) rfl))⟩
theorem mfX0_search : MF yX0_search cX0_search 5 (some .int) 2 := ⟨(inR47 _ (List.mem_of_getElem? (i := 8) rfl)), (inR2 _ (List.mem_of_getElem? (i := 18) rfl)), by decide +kernel⟩
theorem mlX0_28 : ML RX0 28 yX0_search := (inR47 _ (List.mem_of_getElem? (i := 5) rfl))
theorem mvX0_search : MV yX0_search := ⟨(inR47 _ (List.mem_of_getElem? (i := 6) rfl)), (inR47 _ (List.mem_of_getElem? (i := 7) rfl))⟩
theorem mfX0_shortest : MF yX0_shortest cX0_shortest 3 (some .int) 2 := ⟨(inR47 _ (List.mem_of_getElem? (i := 4) rfl)), (inR2 _ (List.mem_of_getElem? (i := 18) rfl)), by decide +kernel⟩
theorem mlX11_233 : ML RX11 233 yX0_shortest := (inR47 _ (List.mem_of_getElem? (i := 1) rfl))
theorem mvX0_shortest : MV yX0_shortest := ⟨(inR47 _ (List.mem_of_getElem? (i := 2) rfl)), (inR47 _ (List.mem_of_getElem? (i := 3) rfl))⟩
theorem mlX11_237 : ML RX11 237 yX4_start := (inR48 _ (List.mem_of_getElem? (i := 19) rfl))
theorem mfX5_count : MF yX5_count cX5_count 1 (some .int) 0 := ⟨(inR48 _ (List.mem_of_getElem? (i := 23) rfl)), (inR1 _ (List.mem_of_getElem? (i := 22) rfl)), by decide +kernel⟩
theorem mlX11_240 : ML RX11 240 yX5_count := (inR48 _ (List.mem_of_getElem? (i := 20) rfl))
theorem mvX5_count : MV yX5_count := ⟨(inR48 _ (List.mem_of_getElem? (i := 21) rfl)), (inR48 _ (List.mem_of_getElem? (i := 22) rfl))⟩
theorem mfX5_exchangeLatest : MF yX5_exchangeLatest cX5_exchangeLatest 3 (some (.object "LookaheadDepths$Grammar")) 1 := ⟨(inR49 _ (List.mem_of_getElem? (i := 15) rfl)), (inR1 _ (List.mem_of_getElem? (i := 22) rfl)), by decide +kernel⟩
theorem mlX11_241 : ML RX11 241 yX5_exchangeLatest := (inR49 _ (List.mem_of_getElem? (i := 12) rfl))
theorem mvX5_exchangeLatest : MV yX5_exchangeLatest := ⟨(inR49 _ (List.mem_of_getElem? (i := 13) rfl)), (inR49 _ (List.mem_of_getElem? (i := 14) rfl))⟩
theorem klX11_244 : Cond.constantLong RX11 244 (17313) ∈ wsL_law := (inR50 _ (List.mem_of_getElem? (i := 0) rfl))
theorem klX11_246 : Cond.constantLong RX11 246 (31) ∈ wsL_law := (inR50 _ (List.mem_of_getElem? (i := 1) rfl))
theorem mfX11_fault : MF yX11_fault cX11_fault 1 (some .int) 0 := ⟨(inR27 _ (List.mem_of_getElem? (i := 4) rfl)), (inR1 _ (List.mem_of_getElem? (i := 2) rfl)), by decide +kernel⟩
theorem mlX11_258 : ML RX11 258 yX11_fault := (inR50 _ (List.mem_of_getElem? (i := 17) rfl))
theorem mvX11_fault : MV yX11_fault := ⟨(inR27 _ (List.mem_of_getElem? (i := 2) rfl)), (inR27 _ (List.mem_of_getElem? (i := 3) rfl))⟩
theorem mfX11_words : MF yX11_words cX11_words 4 (some .int) 3 := ⟨(inR32 _ (List.mem_of_getElem? (i := 21) rfl)), (inR1 _ (List.mem_of_getElem? (i := 2) rfl)), by decide +kernel⟩
theorem mlX11_261 : ML RX11 261 yX11_words := (inR50 _ (List.mem_of_getElem? (i := 7) rfl))
theorem mvX11_words : MV yX11_words := ⟨(inR32 _ (List.mem_of_getElem? (i := 19) rfl)), (inR32 _ (List.mem_of_getElem? (i := 20) rfl))⟩
theorem mfX11_depth : MF yX11_depth cX11_depth 2 (some .int) 1 := ⟨(inR34 _ (List.mem_of_getElem? (i := 17) rfl)), (inR1 _ (List.mem_of_getElem? (i := 2) rfl)), by decide +kernel⟩
theorem mlX11_271 : ML RX11 271 yX11_depth := (inR50 _ (List.mem_of_getElem? (i := 14) rfl))
theorem mvX11_depth : MV yX11_depth := ⟨(inR34 _ (List.mem_of_getElem? (i := 15) rfl)), (inR34 _ (List.mem_of_getElem? (i := 16) rfl))⟩
theorem mfX11_approximate : MF yX11_approximate cX11_approximate 2 (some .int) 1 := ⟨(inR35 _ (List.mem_of_getElem? (i := 17) rfl)), (inR1 _ (List.mem_of_getElem? (i := 2) rfl)), by decide +kernel⟩
theorem mlX11_274 : ML RX11 274 yX11_approximate := (inR50 _ (List.mem_of_getElem? (i := 15) rfl))
theorem mvX11_approximate : MV yX11_approximate := ⟨(inR35 _ (List.mem_of_getElem? (i := 15) rfl)), (inR35 _ (List.mem_of_getElem? (i := 16) rfl))⟩
theorem mfX11_clash : MF yX11_clash cX11_clash 3 (some .int) 2 := ⟨(inR36 _ (List.mem_of_getElem? (i := 22) rfl)), (inR1 _ (List.mem_of_getElem? (i := 2) rfl)), by decide +kernel⟩
theorem mlX11_277 : ML RX11 277 yX11_clash := (inR50 _ (List.mem_of_getElem? (i := 16) rfl))
theorem mvX11_clash : MV yX11_clash := ⟨(inR36 _ (List.mem_of_getElem? (i := 20) rfl)), (inR36 _ (List.mem_of_getElem? (i := 21) rfl))⟩
theorem mfX11_nonterminal : MF yX11_nonterminal cX11_nonterminal 3 (some .int) 2 := ⟨(inR28 _ (List.mem_of_getElem? (i := 15) rfl)), (inR1 _ (List.mem_of_getElem? (i := 2) rfl)), by decide +kernel⟩
theorem mlX11_268 : ML RX11 268 yX11_nonterminal := (inR50 _ (List.mem_of_getElem? (i := 13) rfl))
theorem mvX11_nonterminal : MV yX11_nonterminal := ⟨(inR28 _ (List.mem_of_getElem? (i := 13) rfl)), (inR28 _ (List.mem_of_getElem? (i := 14) rfl))⟩
theorem mfX11_mixNonterminal : MF yX11_mixNonterminal cX11_mixNonterminal 7 (some .long) 2 := ⟨(inR50 _ (List.mem_of_getElem? (i := 12) rfl)), (inR1 _ (List.mem_of_getElem? (i := 2) rfl)), by decide +kernel⟩
theorem mlX11_255 : ML RX11 255 yX11_mixNonterminal := (inR50 _ (List.mem_of_getElem? (i := 9) rfl))
theorem mvX11_mixNonterminal : MV yX11_mixNonterminal := ⟨(inR50 _ (List.mem_of_getElem? (i := 10) rfl)), (inR50 _ (List.mem_of_getElem? (i := 11) rfl))⟩
theorem mfX11_marks : MF yX11_marks cX11_marks 3 (some .int) 2 := ⟨(inR34 _ (List.mem_of_getElem? (i := 4) rfl)), (inR1 _ (List.mem_of_getElem? (i := 2) rfl)), by decide +kernel⟩
theorem mlX11_265 : ML RX11 265 yX11_marks := (inR50 _ (List.mem_of_getElem? (i := 8) rfl))
theorem mvX11_marks : MV yX11_marks := ⟨(inR34 _ (List.mem_of_getElem? (i := 2) rfl)), (inR34 _ (List.mem_of_getElem? (i := 3) rfl))⟩
theorem mfX11_mixProduction : MF yX11_mixProduction cX11_mixProduction 7 (some .long) 2 := ⟨(inR50 _ (List.mem_of_getElem? (i := 6) rfl)), (inR1 _ (List.mem_of_getElem? (i := 2) rfl)), by decide +kernel⟩
theorem mlX11_251 : ML RX11 251 yX11_mixProduction := (inR50 _ (List.mem_of_getElem? (i := 3) rfl))
theorem mvX11_mixProduction : MV yX11_mixProduction := ⟨(inR50 _ (List.mem_of_getElem? (i := 4) rfl)), (inR50 _ (List.mem_of_getElem? (i := 5) rfl))⟩
theorem mfX11_told : MF yX11_told cX11_told 2 (some .int) 1 := ⟨(inR48 _ (List.mem_of_getElem? (i := 18) rfl)), (inR1 _ (List.mem_of_getElem? (i := 2) rfl)), by decide +kernel⟩
theorem mlX11_248 : ML RX11 248 yX11_told := (inR50 _ (List.mem_of_getElem? (i := 2) rfl))
theorem mvX11_told : MV yX11_told := ⟨(inR48 _ (List.mem_of_getElem? (i := 16) rfl)), (inR48 _ (List.mem_of_getElem? (i := 17) rfl))⟩
theorem mfX12_in : MF yX12_in cX12_in 3 (some .boolean) 3 := ⟨(inR22 _ (List.mem_of_getElem? (i := 3) rfl)), (inR1 _ (List.mem_of_getElem? (i := 5) rfl)), by decide +kernel⟩
theorem mlX12_98 : ML RX12 98 yX12_in := (inR22 _ (List.mem_of_getElem? (i := 1) rfl))
theorem msX12_in : MS yX12_in := (inR22 _ (List.mem_of_getElem? (i := 2) rfl))
theorem flX12_185 : FL RX12 185 TX12 4 := (inR22 _ (List.mem_of_getElem? (i := 0) rfl))
theorem flX12_16 : FL RX12 16 TX12 3 := (inR16 _ (List.mem_of_getElem? (i := 7) rfl))
theorem flX12_188 : FL RX12 188 TX12 21 := (inR26 _ (List.mem_of_getElem? (i := 2) rfl))
theorem flX12_195 : FL RX12 195 TX12 22 := (inR26 _ (List.mem_of_getElem? (i := 3) rfl))
theorem mfX12_isAt : MF yX12_isAt cX12_isAt 3 (some .boolean) 2 := ⟨(inR26 _ (List.mem_of_getElem? (i := 12) rfl)), (inR1 _ (List.mem_of_getElem? (i := 5) rfl)), by decide +kernel⟩
theorem mlX12_191 : ML RX12 191 yX12_isAt := (inR26 _ (List.mem_of_getElem? (i := 9) rfl))
theorem mvX12_isAt : MV yX12_isAt := ⟨(inR26 _ (List.mem_of_getElem? (i := 10) rfl)), (inR26 _ (List.mem_of_getElem? (i := 11) rfl))⟩
theorem flX12_63 : FL RX12 63 TX12 20 := (inR16 _ (List.mem_of_getElem? (i := 23) rfl))
theorem mfX12_takes : MF yX12_takes cX12_takes 3 (some .boolean) 1 := ⟨(inR26 _ (List.mem_of_getElem? (i := 16) rfl)), (inR1 _ (List.mem_of_getElem? (i := 5) rfl)), by decide +kernel⟩
theorem mlX12_198 : ML RX12 198 yX12_takes := (inR26 _ (List.mem_of_getElem? (i := 13) rfl))
theorem mvX12_takes : MV yX12_takes := ⟨(inR26 _ (List.mem_of_getElem? (i := 14) rfl)), (inR26 _ (List.mem_of_getElem? (i := 15) rfl))⟩
theorem mfX12_readsSide : MF yX12_readsSide cX12_readsSide 3 (some .boolean) 1 := ⟨(inR26 _ (List.mem_of_getElem? (i := 20) rfl)), (inR1 _ (List.mem_of_getElem? (i := 5) rfl)), by decide +kernel⟩
theorem mlX12_201 : ML RX12 201 yX12_readsSide := (inR26 _ (List.mem_of_getElem? (i := 17) rfl))
theorem mvX12_readsSide : MV yX12_readsSide := ⟨(inR26 _ (List.mem_of_getElem? (i := 18) rfl)), (inR26 _ (List.mem_of_getElem? (i := 19) rfl))⟩
theorem mfX12_readsRule : MF yX12_readsRule cX12_readsRule 3 (some .boolean) 0 := ⟨(inR26 _ (List.mem_of_getElem? (i := 8) rfl)), (inR1 _ (List.mem_of_getElem? (i := 5) rfl)), by decide +kernel⟩
theorem mlX12_204 : ML RX12 204 yX12_readsRule := (inR26 _ (List.mem_of_getElem? (i := 5) rfl))
theorem mvX12_readsRule : MV yX12_readsRule := ⟨(inR26 _ (List.mem_of_getElem? (i := 6) rfl)), (inR26 _ (List.mem_of_getElem? (i := 7) rfl))⟩
theorem flX12_19 : FL RX12 19 TX12 5 := (inR16 _ (List.mem_of_getElem? (i := 8) rfl))
theorem flX12_211 : FL RX12 211 TX12 2 := (inR26 _ (List.mem_of_getElem? (i := 4) rfl))
theorem mfX12_lays : MF yX12_lays cX12_lays 1 none 0 := ⟨(inR17 _ (List.mem_of_getElem? (i := 11) rfl)), (inR1 _ (List.mem_of_getElem? (i := 5) rfl)), by decide +kernel⟩
theorem mlX12_91 : ML RX12 91 yX12_lays := (inR17 _ (List.mem_of_getElem? (i := 8) rfl))
theorem mvX12_lays : MV yX12_lays := ⟨(inR17 _ (List.mem_of_getElem? (i := 9) rfl)), (inR17 _ (List.mem_of_getElem? (i := 10) rfl))⟩
theorem flX12_13 : FL RX12 13 TX12 1 := (inR16 _ (List.mem_of_getElem? (i := 6) rfl))
theorem mfX12_finds : MF yX12_finds cX12_finds 5 none 0 := ⟨(inR27 _ (List.mem_of_getElem? (i := 0) rfl)), (inR1 _ (List.mem_of_getElem? (i := 5) rfl)), by decide +kernel⟩
theorem mlX12_208 : ML RX12 208 yX12_finds := (inR26 _ (List.mem_of_getElem? (i := 21) rfl))
theorem mvX12_finds : MV yX12_finds := ⟨(inR26 _ (List.mem_of_getElem? (i := 22) rfl)), (inR26 _ (List.mem_of_getElem? (i := 23) rfl))⟩
theorem mfX12_isProduction : MF yX12_isProduction cX12_isProduction 2 (some .boolean) 1 := ⟨(inR28 _ (List.mem_of_getElem? (i := 2) rfl)), (inR1 _ (List.mem_of_getElem? (i := 5) rfl)), by decide +kernel⟩
theorem mlX12_214 : ML RX12 214 yX12_isProduction := (inR27 _ (List.mem_of_getElem? (i := 23) rfl))
theorem mvX12_isProduction : MV yX12_isProduction := ⟨(inR28 _ (List.mem_of_getElem? (i := 0) rfl)), (inR28 _ (List.mem_of_getElem? (i := 1) rfl))⟩
theorem mfX12_productionsOf : MF yX12_productionsOf cX12_productionsOf 4 (some .int) 1 := ⟨(inR30 _ (List.mem_of_getElem? (i := 4) rfl)), (inR1 _ (List.mem_of_getElem? (i := 5) rfl)), by decide +kernel⟩
theorem mlX12_106 : ML RX12 106 yX12_productionsOf := (inR30 _ (List.mem_of_getElem? (i := 1) rfl))
theorem mvX12_productionsOf : MV yX12_productionsOf := ⟨(inR30 _ (List.mem_of_getElem? (i := 2) rfl)), (inR30 _ (List.mem_of_getElem? (i := 3) rfl))⟩
theorem mfX12_isDefined : MF yX12_isDefined cX12_isDefined 2 (some .boolean) 1 := ⟨(inR30 _ (List.mem_of_getElem? (i := 0) rfl)), (inR1 _ (List.mem_of_getElem? (i := 5) rfl)), by decide +kernel⟩
theorem mlX12_217 : ML RX12 217 yX12_isDefined := (inR29 _ (List.mem_of_getElem? (i := 21) rfl))
theorem mvX12_isDefined : MV yX12_isDefined := ⟨(inR29 _ (List.mem_of_getElem? (i := 22) rfl)), (inR29 _ (List.mem_of_getElem? (i := 23) rfl))⟩
theorem mfX12_tellName : MF yX12_tellName cX12_tellName 4 (some .int) 2 := ⟨(inR29 _ (List.mem_of_getElem? (i := 20) rfl)), (inR1 _ (List.mem_of_getElem? (i := 5) rfl)), by decide +kernel⟩
theorem mlX12_220 : ML RX12 220 yX12_tellName := (inR29 _ (List.mem_of_getElem? (i := 17) rfl))
theorem mvX12_tellName : MV yX12_tellName := ⟨(inR29 _ (List.mem_of_getElem? (i := 18) rfl)), (inR29 _ (List.mem_of_getElem? (i := 19) rfl))⟩
theorem mfX12_isDepth : MF yX12_isDepth cX12_isDepth 1 (some .boolean) 1 := ⟨(inR31 _ (List.mem_of_getElem? (i := 10) rfl)), (inR1 _ (List.mem_of_getElem? (i := 5) rfl)), by decide +kernel⟩
theorem mlX12_223 : ML RX12 223 yX12_isDepth := (inR31 _ (List.mem_of_getElem? (i := 8) rfl))
theorem msX12_isDepth : MS yX12_isDepth := (inR31 _ (List.mem_of_getElem? (i := 9) rfl))
theorem mfX12_isWord : MF yX12_isWord cX12_isWord 5 (some .boolean) 2 := ⟨(inR31 _ (List.mem_of_getElem? (i := 13) rfl)), (inR1 _ (List.mem_of_getElem? (i := 5) rfl)), by decide +kernel⟩
theorem mlX12_226 : ML RX12 226 yX12_isWord := (inR31 _ (List.mem_of_getElem? (i := 11) rfl))
theorem msX12_isWord : MS yX12_isWord := (inR31 _ (List.mem_of_getElem? (i := 12) rfl))
theorem mfX12_has : MF yX12_has cX12_has 4 (some .boolean) 3 := ⟨(inR31 _ (List.mem_of_getElem? (i := 17) rfl)), (inR1 _ (List.mem_of_getElem? (i := 5) rfl)), by decide +kernel⟩
theorem mlX12_182 : ML RX12 182 yX12_has := (inR31 _ (List.mem_of_getElem? (i := 14) rfl))
theorem mvX12_has : MV yX12_has := ⟨(inR31 _ (List.mem_of_getElem? (i := 15) rfl)), (inR31 _ (List.mem_of_getElem? (i := 16) rfl))⟩
theorem mfX12_count : MF yX12_count cX12_count 5 (some .int) 2 := ⟨(inR33 _ (List.mem_of_getElem? (i := 16) rfl)), (inR1 _ (List.mem_of_getElem? (i := 5) rfl)), by decide +kernel⟩
theorem mlX12_229 : ML RX12 229 yX12_count := (inR33 _ (List.mem_of_getElem? (i := 13) rfl))
theorem mvX12_count : MV yX12_count := ⟨(inR33 _ (List.mem_of_getElem? (i := 14) rfl)), (inR33 _ (List.mem_of_getElem? (i := 15) rfl))⟩
theorem mfX12_marksOf : MF yX12_marksOf cX12_marksOf 5 (some .int) 2 := ⟨(inR34 _ (List.mem_of_getElem? (i := 13) rfl)), (inR1 _ (List.mem_of_getElem? (i := 5) rfl)), by decide +kernel⟩
theorem mlX12_232 : ML RX12 232 yX12_marksOf := (inR34 _ (List.mem_of_getElem? (i := 10) rfl))
theorem mvX12_marksOf : MV yX12_marksOf := ⟨(inR34 _ (List.mem_of_getElem? (i := 11) rfl)), (inR34 _ (List.mem_of_getElem? (i := 12) rfl))⟩
theorem mfX12_clashOf : MF yX12_clashOf cX12_clashOf 5 (some .int) 3 := ⟨(inR35 _ (List.mem_of_getElem? (i := 13) rfl)), (inR1 _ (List.mem_of_getElem? (i := 5) rfl)), by decide +kernel⟩
theorem mlX12_235 : ML RX12 235 yX12_clashOf := (inR35 _ (List.mem_of_getElem? (i := 10) rfl))
theorem mvX12_clashOf : MV yX12_clashOf := ⟨(inR35 _ (List.mem_of_getElem? (i := 11) rfl)), (inR35 _ (List.mem_of_getElem? (i := 12) rfl))⟩
theorem mfX12_pairOf : MF yX12_pairOf cX12_pairOf 5 (some .int) 2 := ⟨(inR35 _ (List.mem_of_getElem? (i := 9) rfl)), (inR1 _ (List.mem_of_getElem? (i := 5) rfl)), by decide +kernel⟩
theorem mlX12_239 : ML RX12 239 yX12_pairOf := (inR35 _ (List.mem_of_getElem? (i := 6) rfl))
theorem mvX12_pairOf : MV yX12_pairOf := ⟨(inR35 _ (List.mem_of_getElem? (i := 7) rfl)), (inR35 _ (List.mem_of_getElem? (i := 8) rfl))⟩
theorem mfX12_depthOf : MF yX12_depthOf cX12_depthOf 3 (some .int) 1 := ⟨(inR35 _ (List.mem_of_getElem? (i := 5) rfl)), (inR1 _ (List.mem_of_getElem? (i := 5) rfl)), by decide +kernel⟩
theorem mlX12_242 : ML RX12 242 yX12_depthOf := (inR35 _ (List.mem_of_getElem? (i := 2) rfl))
theorem mvX12_depthOf : MV yX12_depthOf := ⟨(inR35 _ (List.mem_of_getElem? (i := 3) rfl)), (inR35 _ (List.mem_of_getElem? (i := 4) rfl))⟩
theorem mfX12_partedAt : MF yX12_partedAt cX12_partedAt 4 (some .int) 2 := ⟨(inR36 _ (List.mem_of_getElem? (i := 9) rfl)), (inR1 _ (List.mem_of_getElem? (i := 5) rfl)), by decide +kernel⟩
theorem mlX12_245 : ML RX12 245 yX12_partedAt := (inR36 _ (List.mem_of_getElem? (i := 6) rfl))
theorem mvX12_partedAt : MV yX12_partedAt := ⟨(inR36 _ (List.mem_of_getElem? (i := 7) rfl)), (inR36 _ (List.mem_of_getElem? (i := 8) rfl))⟩
theorem mfX12_approximateOf : MF yX12_approximateOf cX12_approximateOf 6 (some .int) 1 := ⟨(inR36 _ (List.mem_of_getElem? (i := 5) rfl)), (inR1 _ (List.mem_of_getElem? (i := 5) rfl)), by decide +kernel⟩
theorem mlX12_248 : ML RX12 248 yX12_approximateOf := (inR36 _ (List.mem_of_getElem? (i := 2) rfl))
theorem mvX12_approximateOf : MV yX12_approximateOf := ⟨(inR36 _ (List.mem_of_getElem? (i := 3) rfl)), (inR36 _ (List.mem_of_getElem? (i := 4) rfl))⟩
theorem flX12_257 : FL RX12 257 TX12 7 := (inR39 _ (List.mem_of_getElem? (i := 13) rfl))
theorem mfX12_deepest : MF yX12_deepest cX12_deepest 5 (some .int) 1 := ⟨(inR36 _ (List.mem_of_getElem? (i := 18) rfl)), (inR1 _ (List.mem_of_getElem? (i := 5) rfl)), by decide +kernel⟩
theorem mlX12_260 : ML RX12 260 yX12_deepest := (inR39 _ (List.mem_of_getElem? (i := 15) rfl))
theorem mvX12_deepest : MV yX12_deepest := ⟨(inR36 _ (List.mem_of_getElem? (i := 16) rfl)), (inR36 _ (List.mem_of_getElem? (i := 17) rfl))⟩
theorem mfX12_someReached : MF yX12_someReached cX12_someReached 4 (some .boolean) 1 := ⟨(inR39 _ (List.mem_of_getElem? (i := 19) rfl)), (inR1 _ (List.mem_of_getElem? (i := 5) rfl)), by decide +kernel⟩
theorem mlX12_264 : ML RX12 264 yX12_someReached := (inR39 _ (List.mem_of_getElem? (i := 16) rfl))
theorem mvX12_someReached : MV yX12_someReached := ⟨(inR39 _ (List.mem_of_getElem? (i := 17) rfl)), (inR39 _ (List.mem_of_getElem? (i := 18) rfl))⟩
theorem flX12_251 : FL RX12 251 TX12 24 := (inR39 _ (List.mem_of_getElem? (i := 14) rfl))
theorem flX12_66 : FL RX12 66 TX12 23 := (inR17 _ (List.mem_of_getElem? (i := 0) rfl))
theorem mfX12_laysInput : MF yX12_laysInput cX12_laysInput 2 (some .int) 0 := ⟨(inR39 _ (List.mem_of_getElem? (i := 23) rfl)), (inR1 _ (List.mem_of_getElem? (i := 5) rfl)), by decide +kernel⟩
theorem mlX12_268 : ML RX12 268 yX12_laysInput := (inR39 _ (List.mem_of_getElem? (i := 20) rfl))
theorem mvX12_laysInput : MV yX12_laysInput := ⟨(inR39 _ (List.mem_of_getElem? (i := 21) rfl)), (inR39 _ (List.mem_of_getElem? (i := 22) rfl))⟩
theorem flX12_69 : FL RX12 69 TX12 25 := (inR17 _ (List.mem_of_getElem? (i := 1) rfl))
theorem mfX12_restBy : MF yX12_restBy cX12_restBy 5 (some .int) 2 := ⟨(inR40 _ (List.mem_of_getElem? (i := 7) rfl)), (inR1 _ (List.mem_of_getElem? (i := 5) rfl)), by decide +kernel⟩
theorem mlX12_254 : ML RX12 254 yX12_restBy := (inR40 _ (List.mem_of_getElem? (i := 4) rfl))
theorem mvX12_restBy : MV yX12_restBy := ⟨(inR40 _ (List.mem_of_getElem? (i := 5) rfl)), (inR40 _ (List.mem_of_getElem? (i := 6) rfl))⟩
theorem mfX12_choose : MF yX12_choose cX12_choose 6 (some .int) 2 := ⟨(inR40 _ (List.mem_of_getElem? (i := 3) rfl)), (inR1 _ (List.mem_of_getElem? (i := 5) rfl)), by decide +kernel⟩
theorem mlX12_271 : ML RX12 271 yX12_choose := (inR40 _ (List.mem_of_getElem? (i := 0) rfl))
theorem mvX12_choose : MV yX12_choose := ⟨(inR40 _ (List.mem_of_getElem? (i := 1) rfl)), (inR40 _ (List.mem_of_getElem? (i := 2) rfl))⟩
theorem flX12_23 : FL RX12 23 TX12 6 := (inR16 _ (List.mem_of_getElem? (i := 9) rfl))
theorem flX12_72 : FL RX12 72 TX12 26 := (inR17 _ (List.mem_of_getElem? (i := 2) rfl))
theorem flX12_82 : FL RX12 82 TX12 29 := (inR17 _ (List.mem_of_getElem? (i := 5) rfl))
theorem flX12_76 : FL RX12 76 TX12 27 := (inR17 _ (List.mem_of_getElem? (i := 3) rfl))
theorem flX12_79 : FL RX12 79 TX12 28 := (inR17 _ (List.mem_of_getElem? (i := 4) rfl))
theorem mfX12_waysOf : MF yX12_waysOf cX12_waysOf 4 (some .long) 3 := ⟨(inR44 _ (List.mem_of_getElem? (i := 8) rfl)), (inR1 _ (List.mem_of_getElem? (i := 5) rfl)), by decide +kernel⟩
theorem mlX12_280 : ML RX12 280 yX12_waysOf := (inR44 _ (List.mem_of_getElem? (i := 5) rfl))
theorem mvX12_waysOf : MV yX12_waysOf := ⟨(inR44 _ (List.mem_of_getElem? (i := 6) rfl)), (inR44 _ (List.mem_of_getElem? (i := 7) rfl))⟩
theorem klX12_274 : Cond.constantLong RX12 274 (1000000000) ∈ wsL_law := (inR44 _ (List.mem_of_getElem? (i := 4) rfl))
theorem mfX12_held : MF yX12_held cX12_held 2 (some .long) 1 := ⟨(inR44 _ (List.mem_of_getElem? (i := 3) rfl)), (inR1 _ (List.mem_of_getElem? (i := 5) rfl)), by decide +kernel⟩
theorem mlX12_276 : ML RX12 276 yX12_held := (inR44 _ (List.mem_of_getElem? (i := 1) rfl))
theorem msX12_held : MS yX12_held := (inR44 _ (List.mem_of_getElem? (i := 2) rfl))
theorem mfX12_sideWays : MF yX12_sideWays cX12_sideWays 7 (some .long) 3 := ⟨(inR44 _ (List.mem_of_getElem? (i := 0) rfl)), (inR1 _ (List.mem_of_getElem? (i := 5) rfl)), by decide +kernel⟩
theorem mlX12_287 : ML RX12 287 yX12_sideWays := (inR43 _ (List.mem_of_getElem? (i := 21) rfl))
theorem mvX12_sideWays : MV yX12_sideWays := ⟨(inR43 _ (List.mem_of_getElem? (i := 22) rfl)), (inR43 _ (List.mem_of_getElem? (i := 23) rfl))⟩
theorem mfX12_weighs : MF yX12_weighs cX12_weighs 4 none 2 := ⟨(inR43 _ (List.mem_of_getElem? (i := 20) rfl)), (inR1 _ (List.mem_of_getElem? (i := 5) rfl)), by decide +kernel⟩
theorem mlX12_284 : ML RX12 284 yX12_weighs := (inR43 _ (List.mem_of_getElem? (i := 17) rfl))
theorem mvX12_weighs : MV yX12_weighs := ⟨(inR43 _ (List.mem_of_getElem? (i := 18) rfl)), (inR43 _ (List.mem_of_getElem? (i := 19) rfl))⟩
theorem mfX12_laysWays : MF yX12_laysWays cX12_laysWays 4 none 0 := ⟨(inR43 _ (List.mem_of_getElem? (i := 16) rfl)), (inR1 _ (List.mem_of_getElem? (i := 5) rfl)), by decide +kernel⟩
theorem mlX12_290 : ML RX12 290 yX12_laysWays := (inR43 _ (List.mem_of_getElem? (i := 13) rfl))
theorem mvX12_laysWays : MV yX12_laysWays := ⟨(inR43 _ (List.mem_of_getElem? (i := 14) rfl)), (inR43 _ (List.mem_of_getElem? (i := 15) rfl))⟩
theorem mfX12_derivations : MF yX12_derivations cX12_derivations 2 (some .int) 0 := ⟨(inR43 _ (List.mem_of_getElem? (i := 12) rfl)), (inR1 _ (List.mem_of_getElem? (i := 5) rfl)), by decide +kernel⟩
theorem mlX12_299 : ML RX12 299 yX12_derivations := (inR46 _ (List.mem_of_getElem? (i := 8) rfl))
theorem mvX12_derivations : MV yX12_derivations := ⟨(inR43 _ (List.mem_of_getElem? (i := 10) rfl)), (inR43 _ (List.mem_of_getElem? (i := 11) rfl))⟩
theorem flX12_85 : FL RX12 85 TX12 30 := (inR17 _ (List.mem_of_getElem? (i := 6) rfl))
theorem flX12_88 : FL RX12 88 TX12 31 := (inR17 _ (List.mem_of_getElem? (i := 7) rfl))
theorem mfX12_puts : MF yX12_puts cX12_puts 7 none 2 := ⟨(inR46 _ (List.mem_of_getElem? (i := 16) rfl)), (inR1 _ (List.mem_of_getElem? (i := 5) rfl)), by decide +kernel⟩
theorem mlX12_293 : ML RX12 293 yX12_puts := (inR46 _ (List.mem_of_getElem? (i := 13) rfl))
theorem mvX12_puts : MV yX12_puts := ⟨(inR46 _ (List.mem_of_getElem? (i := 14) rfl)), (inR46 _ (List.mem_of_getElem? (i := 15) rfl))⟩
theorem mfX12_putsSide : MF yX12_putsSide cX12_putsSide 4 none 2 := ⟨(inR46 _ (List.mem_of_getElem? (i := 20) rfl)), (inR1 _ (List.mem_of_getElem? (i := 5) rfl)), by decide +kernel⟩
theorem mlX12_296 : ML RX12 296 yX12_putsSide := (inR46 _ (List.mem_of_getElem? (i := 17) rfl))
theorem mvX12_putsSide : MV yX12_putsSide := ⟨(inR46 _ (List.mem_of_getElem? (i := 18) rfl)), (inR46 _ (List.mem_of_getElem? (i := 19) rfl))⟩
theorem mfX12_stepOf : MF yX12_stepOf cX12_stepOf 14 (some .int) 2 := ⟨(inR46 _ (List.mem_of_getElem? (i := 12) rfl)), (inR1 _ (List.mem_of_getElem? (i := 5) rfl)), by decide +kernel⟩
theorem mlX12_302 : ML RX12 302 yX12_stepOf := (inR46 _ (List.mem_of_getElem? (i := 9) rfl))
theorem mvX12_stepOf : MV yX12_stepOf := ⟨(inR46 _ (List.mem_of_getElem? (i := 10) rfl)), (inR46 _ (List.mem_of_getElem? (i := 11) rfl))⟩
theorem mfX12_tell : MF yX12_tell cX12_tell 4 (some .int) 1 := ⟨(inR49 _ (List.mem_of_getElem? (i := 7) rfl)), (inR1 _ (List.mem_of_getElem? (i := 5) rfl)), by decide +kernel⟩
theorem mlX12_306 : ML RX12 306 yX12_tell := (inR49 _ (List.mem_of_getElem? (i := 4) rfl))
theorem mvX12_tell : MV yX12_tell := ⟨(inR49 _ (List.mem_of_getElem? (i := 5) rfl)), (inR49 _ (List.mem_of_getElem? (i := 6) rfl))⟩
theorem klX12_315 : Cond.constantLong RX12 315 (17313) ∈ wsL_law := (inR50 _ (List.mem_of_getElem? (i := 22) rfl))
theorem flX12_311 : FL RX12 311 TX12 32 := (inR50 _ (List.mem_of_getElem? (i := 23) rfl))
theorem klX12_309 : Cond.constantLong RX12 309 (31) ∈ wsL_law := (inR51 _ (List.mem_of_getElem? (i := 4) rfl))
theorem mfX12_mix : MF yX12_mix cX12_mix 2 none 1 := ⟨(inR51 _ (List.mem_of_getElem? (i := 3) rfl)), (inR1 _ (List.mem_of_getElem? (i := 5) rfl)), by decide +kernel⟩
theorem mlX12_317 : ML RX12 317 yX12_mix := (inR51 _ (List.mem_of_getElem? (i := 0) rfl))
theorem mvX12_mix : MV yX12_mix := ⟨(inR51 _ (List.mem_of_getElem? (i := 1) rfl)), (inR51 _ (List.mem_of_getElem? (i := 2) rfl))⟩
