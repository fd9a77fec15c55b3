theorem in_r1 : ∀ w ∈ wsL_law_r1, w ∈ wsL_law := fun _ h => List.mem_append_left _ (List.mem_append_left _ (List.mem_append_left _ (List.mem_append_left _ (List.mem_append_left _ (List.mem_append_left _ (List.mem_append_left _ (List.mem_append_left _ h)))))))
theorem in_r2 : ∀ w ∈ wsL_law_r2, w ∈ wsL_law := fun _ h => List.mem_append_left _ (List.mem_append_left _ (List.mem_append_left _ (List.mem_append_left _ (List.mem_append_left _ (List.mem_append_left _ (List.mem_append_left _ (List.mem_append_right _ (List.mem_append_left _ h))))))))
theorem in_r3 : ∀ w ∈ wsL_law_r3, w ∈ wsL_law := fun _ h => List.mem_append_left _ (List.mem_append_left _ (List.mem_append_left _ (List.mem_append_left _ (List.mem_append_left _ (List.mem_append_left _ (List.mem_append_left _ (List.mem_append_right _ (List.mem_append_right _ (List.mem_append_left _ h)))))))))
theorem in_r4 : ∀ w ∈ wsL_law_r4, w ∈ wsL_law := fun _ h => List.mem_append_left _ (List.mem_append_left _ (List.mem_append_left _ (List.mem_append_left _ (List.mem_append_left _ (List.mem_append_left _ (List.mem_append_left _ (List.mem_append_right _ (List.mem_append_right _ (List.mem_append_right _ (List.mem_append_left _ h))))))))))
theorem in_r5 : ∀ w ∈ wsL_law_r5, w ∈ wsL_law := fun _ h => List.mem_append_left _ (List.mem_append_left _ (List.mem_append_left _ (List.mem_append_left _ (List.mem_append_left _ (List.mem_append_left _ (List.mem_append_left _ (List.mem_append_right _ (List.mem_append_right _ (List.mem_append_right _ (List.mem_append_right _ (List.mem_append_left _ h)))))))))))
theorem in_r6 : ∀ w ∈ wsL_law_r6, w ∈ wsL_law := fun _ h => List.mem_append_left _ (List.mem_append_left _ (List.mem_append_left _ (List.mem_append_left _ (List.mem_append_left _ (List.mem_append_left _ (List.mem_append_left _ (List.mem_append_right _ (List.mem_append_right _ (List.mem_append_right _ (List.mem_append_right _ (List.mem_append_right _ (List.mem_append_left _ h))))))))))))
theorem in_r7 : ∀ w ∈ wsL_law_r7, w ∈ wsL_law := fun _ h => List.mem_append_left _ (List.mem_append_left _ (List.mem_append_left _ (List.mem_append_left _ (List.mem_append_left _ (List.mem_append_left _ (List.mem_append_left _ (List.mem_append_right _ (List.mem_append_right _ (List.mem_append_right _ (List.mem_append_right _ (List.mem_append_right _ (List.mem_append_right _ (List.mem_append_left _ h)))))))))))))
theorem in_r8 : ∀ w ∈ wsL_law_r8, w ∈ wsL_law := fun _ h => List.mem_append_left _ (List.mem_append_left _ (List.mem_append_left _ (List.mem_append_left _ (List.mem_append_left _ (List.mem_append_left _ (List.mem_append_left _ (List.mem_append_right _ (List.mem_append_right _ (List.mem_append_right _ (List.mem_append_right _ (List.mem_append_right _ (List.mem_append_right _ (List.mem_append_right _ (List.mem_append_left _ h))))))))))))))
theorem in_r9 : ∀ w ∈ wsL_law_r9, w ∈ wsL_law := fun _ h => List.mem_append_left _ (List.mem_append_left _ (List.mem_append_left _ (List.mem_append_left _ (List.mem_append_left _ (List.mem_append_left _ (List.mem_append_left _ (List.mem_append_right _ (List.mem_append_right _ (List.mem_append_right _ (List.mem_append_right _ (List.mem_append_right _ (List.mem_append_right _ (List.mem_append_right _ (List.mem_append_right _ (List.mem_append_left _ h)))))))))))))))
theorem in_r10 : ∀ w ∈ wsL_law_r10, w ∈ wsL_law := fun _ h => List.mem_append_left _ (List.mem_append_left _ (List.mem_append_left _ (List.mem_append_left _ (List.mem_append_left _ (List.mem_append_left _ (List.mem_append_left _ (List.mem_append_right _ (List.mem_append_right _ (List.mem_append_right _ (List.mem_append_right _ (List.mem_append_right _ (List.mem_append_right _ (List.mem_append_right _ (List.mem_append_right _ (List.mem_append_right _ (List.mem_append_left _ h))))))))))))))))
theorem in_r11 : ∀ w ∈ wsL_law_r11, w ∈ wsL_law := fun _ h => List.mem_append_left _ (List.mem_append_left _ (List.mem_append_left _ (List.mem_append_left _ (List.mem_append_left _ (List.mem_append_left _ (List.mem_append_left _ (List.mem_append_right _ (List.mem_append_right _ (List.mem_append_right _ (List.mem_append_right _ (List.mem_append_right _ (List.mem_append_right _ (List.mem_append_right _ (List.mem_append_right _ (List.mem_append_right _ (List.mem_append_right _ (List.mem_append_left _ h)))))))))))))))))
theorem in_r12 : ∀ w ∈ wsL_law_r12, w ∈ wsL_law := fun _ h => List.mem_append_left _ (List.mem_append_left _ (List.mem_append_left _ (List.mem_append_left _ (List.mem_append_left _ (List.mem_append_left _ (List.mem_append_left _ (List.mem_append_right _ (List.mem_append_right _ (List.mem_append_right _ (List.mem_append_right _ (List.mem_append_right _ (List.mem_append_right _ (List.mem_append_right _ (List.mem_append_right _ (List.mem_append_right _ (List.mem_append_right _ (List.mem_append_right _ (List.mem_append_left _ h))))))))))))))))))
theorem in_r13 : ∀ w ∈ wsL_law_r13, w ∈ wsL_law := fun _ h => List.mem_append_left _ (List.mem_append_left _ (List.mem_append_left _ (List.mem_append_left _ (List.mem_append_left _ (List.mem_append_left _ (List.mem_append_left _ (List.mem_append_right _ (List.mem_append_right _ (List.mem_append_right _ (List.mem_append_right _ (List.mem_append_right _ (List.mem_append_right _ (List.mem_append_right _ (List.mem_append_right _ (List.mem_append_right _ (List.mem_append_right _ (List.mem_append_right _ (List.mem_append_right _ (List.mem_append_left _ h)))))))))))))))))))
theorem in_r14 : ∀ w ∈ wsL_law_r14, w ∈ wsL_law := fun _ h => List.mem_append_left _ (List.mem_append_left _ (List.mem_append_left _ (List.mem_append_left _ (List.mem_append_left _ (List.mem_append_left _ (List.mem_append_left _ (List.mem_append_right _ (List.mem_append_right _ (List.mem_append_right _ (List.mem_append_right _ (List.mem_append_right _ (List.mem_append_right _ (List.mem_append_right _ (List.mem_append_right _ (List.mem_append_right _ (List.mem_append_right _ (List.mem_append_right _ (List.mem_append_right _ (List.mem_append_right _ (List.mem_append_left _ h))))))))))))))))))))
theorem in_r15 : ∀ w ∈ wsL_law_r15, w ∈ wsL_law := fun _ h => List.mem_append_left _ (List.mem_append_left _ (List.mem_append_left _ (List.mem_append_left _ (List.mem_append_left _ (List.mem_append_left _ (List.mem_append_left _ (List.mem_append_right _ (List.mem_append_right _ (List.mem_append_right _ (List.mem_append_right _ (List.mem_append_right _ (List.mem_append_right _ (List.mem_append_right _ (List.mem_append_right _ (List.mem_append_right _ (List.mem_append_right _ (List.mem_append_right _ (List.mem_append_right _ (List.mem_append_right _ (List.mem_append_right _ (List.mem_append_left _ h)))))))))))))))))))))
theorem in_r16 : ∀ w ∈ wsL_law_r16, w ∈ wsL_law := fun _ h => List.mem_append_left _ (List.mem_append_left _ (List.mem_append_left _ (List.mem_append_left _ (List.mem_append_left _ (List.mem_append_left _ (List.mem_append_left _ (List.mem_append_right _ (List.mem_append_right _ (List.mem_append_right _ (List.mem_append_right _ (List.mem_append_right _ (List.mem_append_right _ (List.mem_append_right _ (List.mem_append_right _ (List.mem_append_right _ (List.mem_append_right _ (List.mem_append_right _ (List.mem_append_right _ (List.mem_append_right _ (List.mem_append_right _ (List.mem_append_right _ (List.mem_append_left _ h))))))))))))))))))))))
theorem in_r17 : ∀ w ∈ wsL_law_r17, w ∈ wsL_law := fun _ h => List.mem_append_left _ (List.mem_append_left _ (List.mem_append_left _ (List.mem_append_left _ (List.mem_append_left _ (List.mem_append_left _ (List.mem_append_left _ (List.mem_append_right _ (List.mem_append_right _ (List.mem_append_right _ (List.mem_append_right _ (List.mem_append_right _ (List.mem_append_right _ (List.mem_append_right _ (List.mem_append_right _ (List.mem_append_right _ (List.mem_append_right _ (List.mem_append_right _ (List.mem_append_right _ (List.mem_append_right _ (List.mem_append_right _ (List.mem_append_right _ (List.mem_append_right _ (List.mem_append_left _ h)))))))))))))))))))))))
theorem in_r18 : ∀ w ∈ wsL_law_r18, w ∈ wsL_law := fun _ h => List.mem_append_left _ (List.mem_append_left _ (List.mem_append_left _ (List.mem_append_left _ (List.mem_append_left _ (List.mem_append_left _ (List.mem_append_left _ (List.mem_append_right _ (List.mem_append_right _ (List.mem_append_right _ (List.mem_append_right _ (List.mem_append_right _ (List.mem_append_right _ (List.mem_append_right _ (List.mem_append_right _ (List.mem_append_right _ (List.mem_append_right _ (List.mem_append_right _ (List.mem_append_right _ (List.mem_append_right _ (List.mem_append_right _ (List.mem_append_right _ (List.mem_append_right _ (List.mem_append_right _ (List.mem_append_left _ h))))))))))))))))))))))))
theorem in_r19 : ∀ w ∈ wsL_law_r19, w ∈ wsL_law := fun _ h => List.mem_append_left _ (List.mem_append_left _ (List.mem_append_left _ (List.mem_append_left _ (List.mem_append_left _ (List.mem_append_left _ (List.mem_append_left _ (List.mem_append_right _ (List.mem_append_right _ (List.mem_append_right _ (List.mem_append_right _ (List.mem_append_right _ (List.mem_append_right _ (List.mem_append_right _ (List.mem_append_right _ (List.mem_append_right _ (List.mem_append_right _ (List.mem_append_right _ (List.mem_append_right _ (List.mem_append_right _ (List.mem_append_right _ (List.mem_append_right _ (List.mem_append_right _ (List.mem_append_right _ (List.mem_append_right _ (List.mem_append_left _ h)))))))))))))))))))))))))
theorem in_r20 : ∀ w ∈ wsL_law_r20, w ∈ wsL_law := fun _ h => List.mem_append_left _ (List.mem_append_left _ (List.mem_append_left _ (List.mem_append_left _ (List.mem_append_left _ (List.mem_append_left _ (List.mem_append_left _ (List.mem_append_right _ (List.mem_append_right _ (List.mem_append_right _ (List.mem_append_right _ (List.mem_append_right _ (List.mem_append_right _ (List.mem_append_right _ (List.mem_append_right _ (List.mem_append_right _ (List.mem_append_right _ (List.mem_append_right _ (List.mem_append_right _ (List.mem_append_right _ (List.mem_append_right _ (List.mem_append_right _ (List.mem_append_right _ (List.mem_append_right _ (List.mem_append_right _ (List.mem_append_right _ (List.mem_append_left _ h))))))))))))))))))))))))))
theorem in_r21 : ∀ w ∈ wsL_law_r21, w ∈ wsL_law := fun _ h => List.mem_append_left _ (List.mem_append_left _ (List.mem_append_left _ (List.mem_append_left _ (List.mem_append_left _ (List.mem_append_left _ (List.mem_append_left _ (List.mem_append_right _ (List.mem_append_right _ (List.mem_append_right _ (List.mem_append_right _ (List.mem_append_right _ (List.mem_append_right _ (List.mem_append_right _ (List.mem_append_right _ (List.mem_append_right _ (List.mem_append_right _ (List.mem_append_right _ (List.mem_append_right _ (List.mem_append_right _ (List.mem_append_right _ (List.mem_append_right _ (List.mem_append_right _ (List.mem_append_right _ (List.mem_append_right _ (List.mem_append_right _ (List.mem_append_right _ (List.mem_append_left _ h)))))))))))))))))))))))))))
theorem in_r22 : ∀ w ∈ wsL_law_r22, w ∈ wsL_law := fun _ h => List.mem_append_left _ (List.mem_append_left _ (List.mem_append_left _ (List.mem_append_left _ (List.mem_append_left _ (List.mem_append_left _ (List.mem_append_left _ (List.mem_append_right _ (List.mem_append_right _ (List.mem_append_right _ (List.mem_append_right _ (List.mem_append_right _ (List.mem_append_right _ (List.mem_append_right _ (List.mem_append_right _ (List.mem_append_right _ (List.mem_append_right _ (List.mem_append_right _ (List.mem_append_right _ (List.mem_append_right _ (List.mem_append_right _ (List.mem_append_right _ (List.mem_append_right _ (List.mem_append_right _ (List.mem_append_right _ (List.mem_append_right _ (List.mem_append_right _ (List.mem_append_right _ (List.mem_append_left _ h))))))))))))))))))))))))))))
theorem in_r23 : ∀ w ∈ wsL_law_r23, w ∈ wsL_law := fun _ h => List.mem_append_left _ (List.mem_append_left _ (List.mem_append_left _ (List.mem_append_left _ (List.mem_append_left _ (List.mem_append_left _ (List.mem_append_left _ (List.mem_append_right _ (List.mem_append_right _ (List.mem_append_right _ (List.mem_append_right _ (List.mem_append_right _ (List.mem_append_right _ (List.mem_append_right _ (List.mem_append_right _ (List.mem_append_right _ (List.mem_append_right _ (List.mem_append_right _ (List.mem_append_right _ (List.mem_append_right _ (List.mem_append_right _ (List.mem_append_right _ (List.mem_append_right _ (List.mem_append_right _ (List.mem_append_right _ (List.mem_append_right _ (List.mem_append_right _ (List.mem_append_right _ (List.mem_append_right _ (List.mem_append_left _ h)))))))))))))))))))))))))))))
theorem in_r24 : ∀ w ∈ wsL_law_r24, w ∈ wsL_law := fun _ h => List.mem_append_left _ (List.mem_append_left _ (List.mem_append_left _ (List.mem_append_left _ (List.mem_append_left _ (List.mem_append_left _ (List.mem_append_left _ (List.mem_append_right _ (List.mem_append_right _ (List.mem_append_right _ (List.mem_append_right _ (List.mem_append_right _ (List.mem_append_right _ (List.mem_append_right _ (List.mem_append_right _ (List.mem_append_right _ (List.mem_append_right _ (List.mem_append_right _ (List.mem_append_right _ (List.mem_append_right _ (List.mem_append_right _ (List.mem_append_right _ (List.mem_append_right _ (List.mem_append_right _ (List.mem_append_right _ (List.mem_append_right _ (List.mem_append_right _ (List.mem_append_right _ (List.mem_append_right _ (List.mem_append_right _ (h))))))))))))))))))))))))))))))
theorem mw_0 : Cond.classLink RL 7 RX4 ∈ wsL_law := in_r1 _ (List.mem_of_getElem? (i := 0) rfl)
theorem mw_1 : Cond.instantiable RX4 5 ∈ wsL_law := in_r1 _ (List.mem_of_getElem? (i := 1) rfl)
theorem mw_2 : Cond.initialized RX4 ∈ wsL_law := in_r1 _ (List.mem_of_getElem? (i := 2) rfl)
theorem mw_3 : Cond.classLink RL 10 RX5 ∈ wsL_law := in_r1 _ (List.mem_of_getElem? (i := 3) rfl)
theorem mw_4 : Cond.instantiable RX5 11 ∈ wsL_law := in_r1 _ (List.mem_of_getElem? (i := 4) rfl)
theorem mw_5 : Cond.initialized RX5 ∈ wsL_law := in_r1 _ (List.mem_of_getElem? (i := 5) rfl)
theorem mw_6 : Cond.methodLink RL 9 yX4_init ∈ wsL_law := in_r1 _ (List.mem_of_getElem? (i := 6) rfl)
theorem mw_7 : Cond.instanceMethod yX4_init ∈ wsL_law := in_r1 _ (List.mem_of_getElem? (i := 7) rfl)
theorem mw_8 : Cond.code yX4_init cX4_init 1 none ∈ wsL_law := in_r1 _ (List.mem_of_getElem? (i := 8) rfl)
theorem mw_9 : Cond.methodLink RX4 3 objectInit ∈ wsL_law := in_r1 _ (List.mem_of_getElem? (i := 9) rfl)
theorem mw_10 : Cond.instanceMethod objectInit ∈ wsL_law := in_r1 _ (List.mem_of_getElem? (i := 10) rfl)
theorem mw_11 : Cond.code objectInit ⟨#[0xb1]⟩ 1 none ∈ wsL_law := in_r1 _ (List.mem_of_getElem? (i := 11) rfl)
theorem mw_12 : Cond.classLink RX4 9 RX3 ∈ wsL_law := in_r1 _ (List.mem_of_getElem? (i := 12) rfl)
theorem mw_13 : Cond.instantiable RX3 3 ∈ wsL_law := in_r1 _ (List.mem_of_getElem? (i := 13) rfl)
theorem mw_14 : Cond.initialized RX3 ∈ wsL_law := in_r1 _ (List.mem_of_getElem? (i := 14) rfl)
theorem mw_15 : Cond.fieldLink RX4 12 "HugTrees" "table" "LHugTrees$Table;" ∈ wsL_law := in_r1 _ (List.mem_of_getElem? (i := 15) rfl)
theorem mw_16 : Cond.classLink RX4 16 RX1 ∈ wsL_law := in_r1 _ (List.mem_of_getElem? (i := 16) rfl)
theorem mw_17 : Cond.instantiable RX1 7 ∈ wsL_law := in_r1 _ (List.mem_of_getElem? (i := 17) rfl)
theorem mw_18 : Cond.initialized RX1 ∈ wsL_law := in_r1 _ (List.mem_of_getElem? (i := 18) rfl)
theorem mw_19 : Cond.fieldLink RX4 21 "HugTrees" "tree" "LHugTrees$SpanningTree;" ∈ wsL_law := in_r1 _ (List.mem_of_getElem? (i := 19) rfl)
theorem mw_20 : Cond.classLink RX4 25 RX2 ∈ wsL_law := in_r1 _ (List.mem_of_getElem? (i := 20) rfl)
theorem mw_21 : Cond.instantiable RX2 1 ∈ wsL_law := in_r1 _ (List.mem_of_getElem? (i := 21) rfl)
theorem mw_22 : Cond.initialized RX2 ∈ wsL_law := in_r1 _ (List.mem_of_getElem? (i := 22) rfl)
theorem mw_23 : Cond.fieldLink RX4 28 "HugTrees" "splits" "LHugTrees$Splits;" ∈ wsL_law := in_r1 _ (List.mem_of_getElem? (i := 23) rfl)
theorem mw_24 : Cond.classLink RX4 32 RX0 ∈ wsL_law := in_r2 _ (List.mem_of_getElem? (i := 0) rfl)
theorem mw_25 : Cond.instantiable RX0 1 ∈ wsL_law := in_r2 _ (List.mem_of_getElem? (i := 1) rfl)
theorem mw_26 : Cond.initialized RX0 ∈ wsL_law := in_r2 _ (List.mem_of_getElem? (i := 2) rfl)
theorem mw_27 : Cond.fieldLink RX4 35 "HugTrees" "lots" "LHugTrees$Lots;" ∈ wsL_law := in_r2 _ (List.mem_of_getElem? (i := 3) rfl)
theorem mw_28 : Cond.fieldLink RX4 39 "HugTrees" "searches" "I" ∈ wsL_law := in_r2 _ (List.mem_of_getElem? (i := 4) rfl)
theorem mw_29 : Cond.instanceMethod yX3_init ∈ wsL_law := in_r2 _ (List.mem_of_getElem? (i := 5) rfl)
theorem mw_30 : Cond.code yX3_init cX3_init 1 none ∈ wsL_law := in_r2 _ (List.mem_of_getElem? (i := 6) rfl)
theorem mw_31 : Cond.methodLink RX3 3 objectInit ∈ wsL_law := in_r2 _ (List.mem_of_getElem? (i := 7) rfl)
theorem mw_32 : Cond.classLink RX3 9 "[[I" ∈ wsL_law := in_r2 _ (List.mem_of_getElem? (i := 8) rfl)
theorem mw_33 : Cond.arrayClass .int ∈ wsL_law := in_r2 _ (List.mem_of_getElem? (i := 9) rfl)
theorem mw_34 : Cond.fieldLink RX3 11 "HugTrees$Table" "d" "[[I" ∈ wsL_law := in_r2 _ (List.mem_of_getElem? (i := 10) rfl)
theorem mw_35 : Cond.fieldLink RX3 16 "HugTrees$Table" "made" "[[I" ∈ wsL_law := in_r2 _ (List.mem_of_getElem? (i := 11) rfl)
theorem mw_36 : Cond.methodLink RX4 18 yX1_init ∈ wsL_law := in_r2 _ (List.mem_of_getElem? (i := 12) rfl)
theorem mw_37 : Cond.instanceMethod yX1_init ∈ wsL_law := in_r2 _ (List.mem_of_getElem? (i := 13) rfl)
theorem mw_38 : Cond.code yX1_init cX1_init 2 none ∈ wsL_law := in_r2 _ (List.mem_of_getElem? (i := 14) rfl)
theorem mw_39 : Cond.methodLink RX1 3 objectInit ∈ wsL_law := in_r2 _ (List.mem_of_getElem? (i := 15) rfl)
theorem mw_40 : Cond.fieldLink RX1 9 "HugTrees$SpanningTree" "gone" "[I" ∈ wsL_law := in_r2 _ (List.mem_of_getElem? (i := 16) rfl)
theorem mw_41 : Cond.fieldLink RX1 15 "HugTrees$SpanningTree" "kept" "[I" ∈ wsL_law := in_r2 _ (List.mem_of_getElem? (i := 17) rfl)
theorem mw_42 : Cond.fieldLink RX1 18 "HugTrees$SpanningTree" "hangs" "[I" ∈ wsL_law := in_r2 _ (List.mem_of_getElem? (i := 18) rfl)
theorem mw_43 : Cond.classLink RX1 21 "[[I" ∈ wsL_law := in_r2 _ (List.mem_of_getElem? (i := 19) rfl)
theorem mw_44 : Cond.fieldLink RX1 23 "HugTrees$SpanningTree" "ways" "[[I" ∈ wsL_law := in_r2 _ (List.mem_of_getElem? (i := 20) rfl)
theorem mw_45 : Cond.fieldLink RX1 26 "HugTrees$SpanningTree" "above" "I" ∈ wsL_law := in_r2 _ (List.mem_of_getElem? (i := 21) rfl)
theorem mw_46 : Cond.fieldLink RX1 30 "HugTrees$SpanningTree" "below" "I" ∈ wsL_law := in_r2 _ (List.mem_of_getElem? (i := 22) rfl)
theorem mw_47 : Cond.fieldLink RX1 33 "HugTrees$SpanningTree" "table" "LHugTrees$Table;" ∈ wsL_law := in_r2 _ (List.mem_of_getElem? (i := 23) rfl)
theorem mw_48 : Cond.methodLink RX4 27 yX2_init ∈ wsL_law := in_r3 _ (List.mem_of_getElem? (i := 0) rfl)
theorem mw_49 : Cond.instanceMethod yX2_init ∈ wsL_law := in_r3 _ (List.mem_of_getElem? (i := 1) rfl)
theorem mw_50 : Cond.code yX2_init cX2_init 2 none ∈ wsL_law := in_r3 _ (List.mem_of_getElem? (i := 2) rfl)
theorem mw_51 : Cond.methodLink RX2 3 objectInit ∈ wsL_law := in_r3 _ (List.mem_of_getElem? (i := 3) rfl)
theorem mw_52 : Cond.fieldLink RX2 9 "HugTrees$Splits" "table" "LHugTrees$Table;" ∈ wsL_law := in_r3 _ (List.mem_of_getElem? (i := 4) rfl)
theorem mw_53 : Cond.methodLink RX4 34 yX0_init ∈ wsL_law := in_r3 _ (List.mem_of_getElem? (i := 5) rfl)
theorem mw_54 : Cond.instanceMethod yX0_init ∈ wsL_law := in_r3 _ (List.mem_of_getElem? (i := 6) rfl)
theorem mw_55 : Cond.code yX0_init cX0_init 2 none ∈ wsL_law := in_r3 _ (List.mem_of_getElem? (i := 7) rfl)
theorem mw_56 : Cond.methodLink RX0 1 objectInit ∈ wsL_law := in_r3 _ (List.mem_of_getElem? (i := 8) rfl)
theorem mw_57 : Cond.fieldLink RX0 7 "HugTrees$Lots" "table" "LHugTrees$Table;" ∈ wsL_law := in_r3 _ (List.mem_of_getElem? (i := 9) rfl)
theorem mw_58 : Cond.methodLink RX4 43 yX3_begin ∈ wsL_law := in_r3 _ (List.mem_of_getElem? (i := 10) rfl)
theorem mw_59 : Cond.instanceMethod yX3_begin ∈ wsL_law := in_r3 _ (List.mem_of_getElem? (i := 11) rfl)
theorem mw_60 : Cond.selects RX3 yX3_begin yX3_begin ∈ wsL_law := in_r3 _ (List.mem_of_getElem? (i := 12) rfl)
theorem mw_61 : Cond.code yX3_begin cX3_begin 3 none ∈ wsL_law := in_r3 _ (List.mem_of_getElem? (i := 13) rfl)
theorem mw_62 : Cond.fieldLink RX3 19 "HugTrees$Table" "n" "I" ∈ wsL_law := in_r3 _ (List.mem_of_getElem? (i := 14) rfl)
theorem mw_63 : Cond.methodLink RX3 23 yJ7_fill_53178 ∈ wsL_law := in_r3 _ (List.mem_of_getElem? (i := 15) rfl)
theorem mw_64 : Cond.static yJ7_fill_53178 ∈ wsL_law := in_r3 _ (List.mem_of_getElem? (i := 16) rfl)
theorem mw_65 : Cond.initialized RJ7 ∈ wsL_law := in_r3 _ (List.mem_of_getElem? (i := 17) rfl)
theorem mw_66 : Cond.code yJ7_fill_53178 cJ7_fill_53178 4 none ∈ wsL_law := in_r3 _ (List.mem_of_getElem? (i := 18) rfl)
theorem mw_67 : Cond.methodLink RL 12 yX5_init ∈ wsL_law := in_r3 _ (List.mem_of_getElem? (i := 19) rfl)
theorem mw_68 : Cond.instanceMethod yX5_init ∈ wsL_law := in_r3 _ (List.mem_of_getElem? (i := 20) rfl)
theorem mw_69 : Cond.code yX5_init cX5_init 1 none ∈ wsL_law := in_r3 _ (List.mem_of_getElem? (i := 21) rfl)
theorem mw_70 : Cond.methodLink RX5 1 objectInit ∈ wsL_law := in_r3 _ (List.mem_of_getElem? (i := 22) rfl)
theorem mw_71 : Cond.fieldLink RX5 7 "HugTreesModel" "n" "I" ∈ wsL_law := in_r3 _ (List.mem_of_getElem? (i := 23) rfl)
theorem mw_72 : Cond.fieldLink RX5 13 "HugTreesModel" "table" "[I" ∈ wsL_law := in_r4 _ (List.mem_of_getElem? (i := 0) rfl)
theorem mw_73 : Cond.fieldLink RX5 17 "HugTreesModel" "made" "[I" ∈ wsL_law := in_r4 _ (List.mem_of_getElem? (i := 1) rfl)
theorem mw_74 : Cond.arrayClass .boolean ∈ wsL_law := in_r4 _ (List.mem_of_getElem? (i := 2) rfl)
theorem mw_75 : Cond.fieldLink RX5 20 "HugTreesModel" "isJoined" "[Z" ∈ wsL_law := in_r4 _ (List.mem_of_getElem? (i := 3) rfl)
theorem mw_76 : Cond.fieldLink RX5 24 "HugTreesModel" "joins" "[I" ∈ wsL_law := in_r4 _ (List.mem_of_getElem? (i := 4) rfl)
theorem mw_77 : Cond.fieldLink RX5 27 "HugTreesModel" "ways" "[I" ∈ wsL_law := in_r4 _ (List.mem_of_getElem? (i := 5) rfl)
theorem mw_78 : Cond.fieldLink RX5 30 "HugTreesModel" "order" "[I" ∈ wsL_law := in_r4 _ (List.mem_of_getElem? (i := 6) rfl)
theorem mw_79 : Cond.methodLink RX5 33 yX5_begin ∈ wsL_law := in_r4 _ (List.mem_of_getElem? (i := 7) rfl)
theorem mw_80 : Cond.instanceMethod yX5_begin ∈ wsL_law := in_r4 _ (List.mem_of_getElem? (i := 8) rfl)
theorem mw_81 : Cond.selects RX5 yX5_begin yX5_begin ∈ wsL_law := in_r4 _ (List.mem_of_getElem? (i := 9) rfl)
theorem mw_82 : Cond.code yX5_begin cX5_begin 3 none ∈ wsL_law := in_r4 _ (List.mem_of_getElem? (i := 10) rfl)
theorem mw_83 : Cond.methodLink RL 13 yX4_points ∈ wsL_law := in_r4 _ (List.mem_of_getElem? (i := 11) rfl)
theorem mw_84 : Cond.instanceMethod yX4_points ∈ wsL_law := in_r4 _ (List.mem_of_getElem? (i := 12) rfl)
theorem mw_85 : Cond.selects RX4 yX4_points yX4_points ∈ wsL_law := in_r4 _ (List.mem_of_getElem? (i := 13) rfl)
theorem mw_86 : Cond.code yX4_points cX4_points 2 (some .int) ∈ wsL_law := in_r4 _ (List.mem_of_getElem? (i := 14) rfl)
theorem mw_87 : Cond.methodLink RL 17 yX5_points ∈ wsL_law := in_r4 _ (List.mem_of_getElem? (i := 15) rfl)
theorem mw_88 : Cond.instanceMethod yX5_points ∈ wsL_law := in_r4 _ (List.mem_of_getElem? (i := 16) rfl)
theorem mw_89 : Cond.selects RX5 yX5_points yX5_points ∈ wsL_law := in_r4 _ (List.mem_of_getElem? (i := 17) rfl)
theorem mw_90 : Cond.code yX5_points cX5_points 2 (some .int) ∈ wsL_law := in_r4 _ (List.mem_of_getElem? (i := 18) rfl)
theorem mw_91 : Cond.methodLink RX5 36 yX5_in ∈ wsL_law := in_r4 _ (List.mem_of_getElem? (i := 19) rfl)
theorem mw_92 : Cond.static yX5_in ∈ wsL_law := in_r4 _ (List.mem_of_getElem? (i := 20) rfl)
theorem mw_93 : Cond.code yX5_in cX5_in 3 (some .boolean) ∈ wsL_law := in_r4 _ (List.mem_of_getElem? (i := 21) rfl)
theorem mw_94 : Cond.methodLink RL 18 yX4_set ∈ wsL_law := in_r4 _ (List.mem_of_getElem? (i := 22) rfl)
theorem mw_95 : Cond.instanceMethod yX4_set ∈ wsL_law := in_r4 _ (List.mem_of_getElem? (i := 23) rfl)
theorem mw_96 : Cond.selects RX4 yX4_set yX4_set ∈ wsL_law := in_r5 _ (List.mem_of_getElem? (i := 0) rfl)
theorem mw_97 : Cond.code yX4_set cX4_set 5 (some .int) ∈ wsL_law := in_r5 _ (List.mem_of_getElem? (i := 1) rfl)
theorem mw_98 : Cond.methodLink RX4 47 yX4_areKnown ∈ wsL_law := in_r5 _ (List.mem_of_getElem? (i := 2) rfl)
theorem mw_99 : Cond.instanceMethod yX4_areKnown ∈ wsL_law := in_r5 _ (List.mem_of_getElem? (i := 3) rfl)
theorem mw_100 : Cond.selects RX4 yX4_areKnown yX4_areKnown ∈ wsL_law := in_r5 _ (List.mem_of_getElem? (i := 4) rfl)
theorem mw_101 : Cond.code yX4_areKnown cX4_areKnown 3 (some .boolean) ∈ wsL_law := in_r5 _ (List.mem_of_getElem? (i := 5) rfl)
theorem mw_102 : Cond.methodLink RX4 154 yX4_isKnown ∈ wsL_law := in_r5 _ (List.mem_of_getElem? (i := 6) rfl)
theorem mw_103 : Cond.instanceMethod yX4_isKnown ∈ wsL_law := in_r5 _ (List.mem_of_getElem? (i := 7) rfl)
theorem mw_104 : Cond.selects RX4 yX4_isKnown yX4_isKnown ∈ wsL_law := in_r5 _ (List.mem_of_getElem? (i := 8) rfl)
theorem mw_105 : Cond.code yX4_isKnown cX4_isKnown 2 (some .boolean) ∈ wsL_law := in_r5 _ (List.mem_of_getElem? (i := 9) rfl)
theorem mw_106 : Cond.methodLink RX4 55 yX3_put ∈ wsL_law := in_r5 _ (List.mem_of_getElem? (i := 10) rfl)
theorem mw_107 : Cond.instanceMethod yX3_put ∈ wsL_law := in_r5 _ (List.mem_of_getElem? (i := 11) rfl)
theorem mw_108 : Cond.selects RX3 yX3_put yX3_put ∈ wsL_law := in_r5 _ (List.mem_of_getElem? (i := 12) rfl)
theorem mw_109 : Cond.code yX3_put cX3_put 4 none ∈ wsL_law := in_r5 _ (List.mem_of_getElem? (i := 13) rfl)
theorem mw_110 : Cond.methodLink RL 22 yX5_set ∈ wsL_law := in_r5 _ (List.mem_of_getElem? (i := 14) rfl)
theorem mw_111 : Cond.instanceMethod yX5_set ∈ wsL_law := in_r5 _ (List.mem_of_getElem? (i := 15) rfl)
theorem mw_112 : Cond.selects RX5 yX5_set yX5_set ∈ wsL_law := in_r5 _ (List.mem_of_getElem? (i := 16) rfl)
theorem mw_113 : Cond.code yX5_set cX5_set 5 (some .int) ∈ wsL_law := in_r5 _ (List.mem_of_getElem? (i := 17) rfl)
theorem mw_114 : Cond.methodLink RX5 40 yX5_isPoint ∈ wsL_law := in_r5 _ (List.mem_of_getElem? (i := 18) rfl)
theorem mw_115 : Cond.instanceMethod yX5_isPoint ∈ wsL_law := in_r5 _ (List.mem_of_getElem? (i := 19) rfl)
theorem mw_116 : Cond.selects RX5 yX5_isPoint yX5_isPoint ∈ wsL_law := in_r5 _ (List.mem_of_getElem? (i := 20) rfl)
theorem mw_117 : Cond.code yX5_isPoint cX5_isPoint 2 (some .boolean) ∈ wsL_law := in_r5 _ (List.mem_of_getElem? (i := 21) rfl)
theorem mw_118 : Cond.methodLink RL 23 yX4_get ∈ wsL_law := in_r5 _ (List.mem_of_getElem? (i := 22) rfl)
theorem mw_119 : Cond.instanceMethod yX4_get ∈ wsL_law := in_r5 _ (List.mem_of_getElem? (i := 23) rfl)
theorem mw_120 : Cond.selects RX4 yX4_get yX4_get ∈ wsL_law := in_r6 _ (List.mem_of_getElem? (i := 0) rfl)
theorem mw_121 : Cond.code yX4_get cX4_get 3 (some .int) ∈ wsL_law := in_r6 _ (List.mem_of_getElem? (i := 1) rfl)
theorem mw_122 : Cond.methodLink RL 27 yX5_get ∈ wsL_law := in_r6 _ (List.mem_of_getElem? (i := 2) rfl)
theorem mw_123 : Cond.instanceMethod yX5_get ∈ wsL_law := in_r6 _ (List.mem_of_getElem? (i := 3) rfl)
theorem mw_124 : Cond.selects RX5 yX5_get yX5_get ∈ wsL_law := in_r6 _ (List.mem_of_getElem? (i := 4) rfl)
theorem mw_125 : Cond.code yX5_get cX5_get 3 (some .int) ∈ wsL_law := in_r6 _ (List.mem_of_getElem? (i := 5) rfl)
theorem mw_126 : Cond.methodLink RX5 44 yX5_d ∈ wsL_law := in_r6 _ (List.mem_of_getElem? (i := 6) rfl)
theorem mw_127 : Cond.instanceMethod yX5_d ∈ wsL_law := in_r6 _ (List.mem_of_getElem? (i := 7) rfl)
theorem mw_128 : Cond.selects RX5 yX5_d yX5_d ∈ wsL_law := in_r6 _ (List.mem_of_getElem? (i := 8) rfl)
theorem mw_129 : Cond.code yX5_d cX5_d 3 (some .int) ∈ wsL_law := in_r6 _ (List.mem_of_getElem? (i := 9) rfl)
theorem mw_130 : Cond.methodLink RL 28 yX4_is ∈ wsL_law := in_r6 _ (List.mem_of_getElem? (i := 10) rfl)
theorem mw_131 : Cond.instanceMethod yX4_is ∈ wsL_law := in_r6 _ (List.mem_of_getElem? (i := 11) rfl)
theorem mw_132 : Cond.selects RX4 yX4_is yX4_is ∈ wsL_law := in_r6 _ (List.mem_of_getElem? (i := 12) rfl)
theorem mw_133 : Cond.code yX4_is cX4_is 2 (some .int) ∈ wsL_law := in_r6 _ (List.mem_of_getElem? (i := 13) rfl)
theorem mw_134 : Cond.methodLink RX4 59 yX3_brokenThrees ∈ wsL_law := in_r6 _ (List.mem_of_getElem? (i := 14) rfl)
theorem mw_135 : Cond.instanceMethod yX3_brokenThrees ∈ wsL_law := in_r6 _ (List.mem_of_getElem? (i := 15) rfl)
theorem mw_136 : Cond.selects RX3 yX3_brokenThrees yX3_brokenThrees ∈ wsL_law := in_r6 _ (List.mem_of_getElem? (i := 16) rfl)
theorem mw_137 : Cond.code yX3_brokenThrees cX3_brokenThrees 5 (some .int) ∈ wsL_law := in_r6 _ (List.mem_of_getElem? (i := 17) rfl)
theorem mw_138 : Cond.methodLink RX3 35 yX3_shorterBy ∈ wsL_law := in_r6 _ (List.mem_of_getElem? (i := 18) rfl)
theorem mw_139 : Cond.instanceMethod yX3_shorterBy ∈ wsL_law := in_r6 _ (List.mem_of_getElem? (i := 19) rfl)
theorem mw_140 : Cond.selects RX3 yX3_shorterBy yX3_shorterBy ∈ wsL_law := in_r6 _ (List.mem_of_getElem? (i := 20) rfl)
theorem mw_141 : Cond.code yX3_shorterBy cX3_shorterBy 6 (some .int) ∈ wsL_law := in_r6 _ (List.mem_of_getElem? (i := 21) rfl)
theorem mw_142 : Cond.methodLink RX3 39 yX3_together ∈ wsL_law := in_r6 _ (List.mem_of_getElem? (i := 22) rfl)
theorem mw_143 : Cond.static yX3_together ∈ wsL_law := in_r6 _ (List.mem_of_getElem? (i := 23) rfl)
theorem mw_144 : Cond.code yX3_together cX3_together 3 (some .int) ∈ wsL_law := in_r7 _ (List.mem_of_getElem? (i := 0) rfl)
theorem mw_145 : Cond.methodLink RX3 29 Lib.Math.max.name ∈ wsL_law := in_r7 _ (List.mem_of_getElem? (i := 1) rfl)
theorem mw_146 : Cond.static Lib.Math.max.name ∈ wsL_law := in_r7 _ (List.mem_of_getElem? (i := 2) rfl)
theorem mw_147 : Cond.initialized "java/lang/Math" ∈ wsL_law := in_r7 _ (List.mem_of_getElem? (i := 3) rfl)
theorem mw_148 : Cond.code Lib.Math.max.name Lib.Math.max.code 2 (some .int) ∈ wsL_law := in_r7 _ (List.mem_of_getElem? (i := 4) rfl)
theorem mw_149 : Cond.methodLink RX4 63 yX4_asAnswer ∈ wsL_law := in_r7 _ (List.mem_of_getElem? (i := 5) rfl)
theorem mw_150 : Cond.static yX4_asAnswer ∈ wsL_law := in_r7 _ (List.mem_of_getElem? (i := 6) rfl)
theorem mw_151 : Cond.code yX4_asAnswer cX4_asAnswer 1 (some .int) ∈ wsL_law := in_r7 _ (List.mem_of_getElem? (i := 7) rfl)
theorem mw_152 : Cond.methodLink RX4 67 yX4_isNear ∈ wsL_law := in_r7 _ (List.mem_of_getElem? (i := 8) rfl)
theorem mw_153 : Cond.instanceMethod yX4_isNear ∈ wsL_law := in_r7 _ (List.mem_of_getElem? (i := 9) rfl)
theorem mw_154 : Cond.selects RX4 yX4_isNear yX4_isNear ∈ wsL_law := in_r7 _ (List.mem_of_getElem? (i := 10) rfl)
theorem mw_155 : Cond.code yX4_isNear cX4_isNear 1 (some .boolean) ∈ wsL_law := in_r7 _ (List.mem_of_getElem? (i := 11) rfl)
theorem mw_156 : Cond.methodLink RX4 71 yX3_brokenFours ∈ wsL_law := in_r7 _ (List.mem_of_getElem? (i := 12) rfl)
theorem mw_157 : Cond.instanceMethod yX3_brokenFours ∈ wsL_law := in_r7 _ (List.mem_of_getElem? (i := 13) rfl)
theorem mw_158 : Cond.selects RX3 yX3_brokenFours yX3_brokenFours ∈ wsL_law := in_r7 _ (List.mem_of_getElem? (i := 14) rfl)
theorem mw_159 : Cond.code yX3_brokenFours cX3_brokenFours 5 (some .int) ∈ wsL_law := in_r7 _ (List.mem_of_getElem? (i := 15) rfl)
theorem mw_160 : Cond.methodLink RX3 42 yX3_brokenFoursFrom ∈ wsL_law := in_r7 _ (List.mem_of_getElem? (i := 16) rfl)
theorem mw_161 : Cond.instanceMethod yX3_brokenFoursFrom ∈ wsL_law := in_r7 _ (List.mem_of_getElem? (i := 17) rfl)
theorem mw_162 : Cond.selects RX3 yX3_brokenFoursFrom yX3_brokenFoursFrom ∈ wsL_law := in_r7 _ (List.mem_of_getElem? (i := 18) rfl)
theorem mw_163 : Cond.code yX3_brokenFoursFrom cX3_brokenFoursFrom 6 (some .int) ∈ wsL_law := in_r7 _ (List.mem_of_getElem? (i := 19) rfl)
theorem mw_164 : Cond.methodLink RX3 45 yX3_twoGreatestAlike ∈ wsL_law := in_r7 _ (List.mem_of_getElem? (i := 20) rfl)
theorem mw_165 : Cond.static yX3_twoGreatestAlike ∈ wsL_law := in_r7 _ (List.mem_of_getElem? (i := 21) rfl)
theorem mw_166 : Cond.code yX3_twoGreatestAlike cX3_twoGreatestAlike 4 (some .boolean) ∈ wsL_law := in_r7 _ (List.mem_of_getElem? (i := 22) rfl)
theorem mw_167 : Cond.methodLink RL 31 yX5_is ∈ wsL_law := in_r7 _ (List.mem_of_getElem? (i := 23) rfl)
theorem mw_168 : Cond.instanceMethod yX5_is ∈ wsL_law := in_r8 _ (List.mem_of_getElem? (i := 0) rfl)
theorem mw_169 : Cond.selects RX5 yX5_is yX5_is ∈ wsL_law := in_r8 _ (List.mem_of_getElem? (i := 1) rfl)
theorem mw_170 : Cond.code yX5_is cX5_is 2 (some .int) ∈ wsL_law := in_r8 _ (List.mem_of_getElem? (i := 2) rfl)
theorem mw_171 : Cond.methodLink RX5 55 yX5_brokenOf ∈ wsL_law := in_r8 _ (List.mem_of_getElem? (i := 3) rfl)
theorem mw_172 : Cond.instanceMethod yX5_brokenOf ∈ wsL_law := in_r8 _ (List.mem_of_getElem? (i := 4) rfl)
theorem mw_173 : Cond.selects RX5 yX5_brokenOf yX5_brokenOf ∈ wsL_law := in_r8 _ (List.mem_of_getElem? (i := 5) rfl)
theorem mw_174 : Cond.code yX5_brokenOf cX5_brokenOf 7 (some .int) ∈ wsL_law := in_r8 _ (List.mem_of_getElem? (i := 6) rfl)
theorem mw_175 : Cond.methodLink RX5 48 yX5_greater ∈ wsL_law := in_r8 _ (List.mem_of_getElem? (i := 7) rfl)
theorem mw_176 : Cond.static yX5_greater ∈ wsL_law := in_r8 _ (List.mem_of_getElem? (i := 8) rfl)
theorem mw_177 : Cond.code yX5_greater cX5_greater 2 (some .int) ∈ wsL_law := in_r8 _ (List.mem_of_getElem? (i := 9) rfl)
theorem mw_178 : Cond.methodLink RX5 51 yX5_areFour ∈ wsL_law := in_r8 _ (List.mem_of_getElem? (i := 10) rfl)
theorem mw_179 : Cond.instanceMethod yX5_areFour ∈ wsL_law := in_r8 _ (List.mem_of_getElem? (i := 11) rfl)
theorem mw_180 : Cond.selects RX5 yX5_areFour yX5_areFour ∈ wsL_law := in_r8 _ (List.mem_of_getElem? (i := 12) rfl)
theorem mw_181 : Cond.code yX5_areFour cX5_areFour 9 (some .boolean) ∈ wsL_law := in_r8 _ (List.mem_of_getElem? (i := 13) rfl)
theorem mw_182 : Cond.methodLink RL 32 yX4_broken ∈ wsL_law := in_r8 _ (List.mem_of_getElem? (i := 14) rfl)
theorem mw_183 : Cond.instanceMethod yX4_broken ∈ wsL_law := in_r8 _ (List.mem_of_getElem? (i := 15) rfl)
theorem mw_184 : Cond.selects RX4 yX4_broken yX4_broken ∈ wsL_law := in_r8 _ (List.mem_of_getElem? (i := 16) rfl)
theorem mw_185 : Cond.code yX4_broken cX4_broken 2 (some .int) ∈ wsL_law := in_r8 _ (List.mem_of_getElem? (i := 17) rfl)
theorem mw_186 : Cond.methodLink RL 35 yX5_broken ∈ wsL_law := in_r8 _ (List.mem_of_getElem? (i := 18) rfl)
theorem mw_187 : Cond.instanceMethod yX5_broken ∈ wsL_law := in_r8 _ (List.mem_of_getElem? (i := 19) rfl)
theorem mw_188 : Cond.selects RX5 yX5_broken yX5_broken ∈ wsL_law := in_r8 _ (List.mem_of_getElem? (i := 20) rfl)
theorem mw_189 : Cond.code yX5_broken cX5_broken 2 (some .int) ∈ wsL_law := in_r8 _ (List.mem_of_getElem? (i := 21) rfl)
theorem mw_190 : Cond.methodLink RL 36 yX4_mend ∈ wsL_law := in_r8 _ (List.mem_of_getElem? (i := 22) rfl)
theorem mw_191 : Cond.instanceMethod yX4_mend ∈ wsL_law := in_r8 _ (List.mem_of_getElem? (i := 23) rfl)
theorem mw_192 : Cond.selects RX4 yX4_mend yX4_mend ∈ wsL_law := in_r9 _ (List.mem_of_getElem? (i := 0) rfl)
theorem mw_193 : Cond.code yX4_mend cX4_mend 1 (some .int) ∈ wsL_law := in_r9 _ (List.mem_of_getElem? (i := 1) rfl)
theorem mw_194 : Cond.methodLink RX4 75 yX3_closed ∈ wsL_law := in_r9 _ (List.mem_of_getElem? (i := 2) rfl)
theorem mw_195 : Cond.instanceMethod yX3_closed ∈ wsL_law := in_r9 _ (List.mem_of_getElem? (i := 3) rfl)
theorem mw_196 : Cond.selects RX3 yX3_closed yX3_closed ∈ wsL_law := in_r9 _ (List.mem_of_getElem? (i := 4) rfl)
theorem mw_197 : Cond.code yX3_closed cX3_closed 3 (some (.array (.array .int))) ∈ wsL_law := in_r9 _ (List.mem_of_getElem? (i := 5) rfl)
theorem mw_198 : Cond.methodLink RX3 49 arraycopyName ∈ wsL_law := in_r9 _ (List.mem_of_getElem? (i := 6) rfl)
theorem mw_199 : Cond.native arraycopyName ∈ wsL_law := in_r9 _ (List.mem_of_getElem? (i := 7) rfl)
theorem mw_200 : Cond.static arraycopyName ∈ wsL_law := in_r9 _ (List.mem_of_getElem? (i := 8) rfl)
theorem mw_201 : Cond.initialized "java/lang/System" ∈ wsL_law := in_r9 _ (List.mem_of_getElem? (i := 9) rfl)
theorem mw_202 : Cond.methodLink RX3 55 yX3_shortenBy ∈ wsL_law := in_r9 _ (List.mem_of_getElem? (i := 10) rfl)
theorem mw_203 : Cond.instanceMethod yX3_shortenBy ∈ wsL_law := in_r9 _ (List.mem_of_getElem? (i := 11) rfl)
theorem mw_204 : Cond.selects RX3 yX3_shortenBy yX3_shortenBy ∈ wsL_law := in_r9 _ (List.mem_of_getElem? (i := 12) rfl)
theorem mw_205 : Cond.code yX3_shortenBy cX3_shortenBy 5 none ∈ wsL_law := in_r9 _ (List.mem_of_getElem? (i := 13) rfl)
theorem mw_206 : Cond.methodLink RX3 59 Lib.Math.min.name ∈ wsL_law := in_r9 _ (List.mem_of_getElem? (i := 14) rfl)
theorem mw_207 : Cond.static Lib.Math.min.name ∈ wsL_law := in_r9 _ (List.mem_of_getElem? (i := 15) rfl)
theorem mw_208 : Cond.code Lib.Math.min.name Lib.Math.min.code 2 (some .int) ∈ wsL_law := in_r9 _ (List.mem_of_getElem? (i := 16) rfl)
theorem mw_209 : Cond.methodLink RX4 79 yX3_become ∈ wsL_law := in_r9 _ (List.mem_of_getElem? (i := 17) rfl)
theorem mw_210 : Cond.instanceMethod yX3_become ∈ wsL_law := in_r9 _ (List.mem_of_getElem? (i := 18) rfl)
theorem mw_211 : Cond.selects RX3 yX3_become yX3_become ∈ wsL_law := in_r9 _ (List.mem_of_getElem? (i := 19) rfl)
theorem mw_212 : Cond.code yX3_become cX3_become 5 (some .int) ∈ wsL_law := in_r9 _ (List.mem_of_getElem? (i := 20) rfl)
theorem mw_213 : Cond.methodLink RX3 62 yX3_put ∈ wsL_law := in_r9 _ (List.mem_of_getElem? (i := 21) rfl)
theorem mw_214 : Cond.methodLink RL 40 yX5_mend ∈ wsL_law := in_r9 _ (List.mem_of_getElem? (i := 22) rfl)
theorem mw_215 : Cond.instanceMethod yX5_mend ∈ wsL_law := in_r9 _ (List.mem_of_getElem? (i := 23) rfl)
theorem mw_216 : Cond.selects RX5 yX5_mend yX5_mend ∈ wsL_law := in_r10 _ (List.mem_of_getElem? (i := 0) rfl)
theorem mw_217 : Cond.code yX5_mend cX5_mend 1 (some .int) ∈ wsL_law := in_r10 _ (List.mem_of_getElem? (i := 1) rfl)
theorem mw_218 : Cond.methodLink RX5 59 yX5_make ∈ wsL_law := in_r10 _ (List.mem_of_getElem? (i := 2) rfl)
theorem mw_219 : Cond.instanceMethod yX5_make ∈ wsL_law := in_r10 _ (List.mem_of_getElem? (i := 3) rfl)
theorem mw_220 : Cond.selects RX5 yX5_make yX5_make ∈ wsL_law := in_r10 _ (List.mem_of_getElem? (i := 4) rfl)
theorem mw_221 : Cond.code yX5_make cX5_make 6 none ∈ wsL_law := in_r10 _ (List.mem_of_getElem? (i := 5) rfl)
theorem mw_222 : Cond.methodLink RX5 63 yX5_become ∈ wsL_law := in_r10 _ (List.mem_of_getElem? (i := 6) rfl)
theorem mw_223 : Cond.instanceMethod yX5_become ∈ wsL_law := in_r10 _ (List.mem_of_getElem? (i := 7) rfl)
theorem mw_224 : Cond.selects RX5 yX5_become yX5_become ∈ wsL_law := in_r10 _ (List.mem_of_getElem? (i := 8) rfl)
theorem mw_225 : Cond.code yX5_become cX5_become 4 (some .int) ∈ wsL_law := in_r10 _ (List.mem_of_getElem? (i := 9) rfl)
theorem mw_226 : Cond.methodLink RL 41 yX4_low ∈ wsL_law := in_r10 _ (List.mem_of_getElem? (i := 10) rfl)
theorem mw_227 : Cond.instanceMethod yX4_low ∈ wsL_law := in_r10 _ (List.mem_of_getElem? (i := 11) rfl)
theorem mw_228 : Cond.selects RX4 yX4_low yX4_low ∈ wsL_law := in_r10 _ (List.mem_of_getElem? (i := 12) rfl)
theorem mw_229 : Cond.code yX4_low cX4_low 3 (some .int) ∈ wsL_law := in_r10 _ (List.mem_of_getElem? (i := 13) rfl)
theorem mw_230 : Cond.methodLink RL 44 yX5_low ∈ wsL_law := in_r10 _ (List.mem_of_getElem? (i := 14) rfl)
theorem mw_231 : Cond.instanceMethod yX5_low ∈ wsL_law := in_r10 _ (List.mem_of_getElem? (i := 15) rfl)
theorem mw_232 : Cond.selects RX5 yX5_low yX5_low ∈ wsL_law := in_r10 _ (List.mem_of_getElem? (i := 16) rfl)
theorem mw_233 : Cond.code yX5_low cX5_low 3 (some .int) ∈ wsL_law := in_r10 _ (List.mem_of_getElem? (i := 17) rfl)
theorem mw_234 : Cond.methodLink RL 45 yX4_gap ∈ wsL_law := in_r10 _ (List.mem_of_getElem? (i := 18) rfl)
theorem mw_235 : Cond.instanceMethod yX4_gap ∈ wsL_law := in_r10 _ (List.mem_of_getElem? (i := 19) rfl)
theorem mw_236 : Cond.selects RX4 yX4_gap yX4_gap ∈ wsL_law := in_r10 _ (List.mem_of_getElem? (i := 20) rfl)
theorem mw_237 : Cond.code yX4_gap cX4_gap 1 (some .int) ∈ wsL_law := in_r10 _ (List.mem_of_getElem? (i := 21) rfl)
theorem mw_238 : Cond.methodLink RX4 83 yX3_greatestAbove ∈ wsL_law := in_r10 _ (List.mem_of_getElem? (i := 22) rfl)
theorem mw_239 : Cond.instanceMethod yX3_greatestAbove ∈ wsL_law := in_r10 _ (List.mem_of_getElem? (i := 23) rfl)
theorem mw_240 : Cond.selects RX3 yX3_greatestAbove yX3_greatestAbove ∈ wsL_law := in_r11 _ (List.mem_of_getElem? (i := 0) rfl)
theorem mw_241 : Cond.code yX3_greatestAbove cX3_greatestAbove 5 (some .int) ∈ wsL_law := in_r11 _ (List.mem_of_getElem? (i := 1) rfl)
theorem mw_242 : Cond.methodLink RL 48 yX5_gap ∈ wsL_law := in_r11 _ (List.mem_of_getElem? (i := 2) rfl)
theorem mw_243 : Cond.instanceMethod yX5_gap ∈ wsL_law := in_r11 _ (List.mem_of_getElem? (i := 3) rfl)
theorem mw_244 : Cond.selects RX5 yX5_gap yX5_gap ∈ wsL_law := in_r11 _ (List.mem_of_getElem? (i := 4) rfl)
theorem mw_245 : Cond.code yX5_gap cX5_gap 4 (some .int) ∈ wsL_law := in_r11 _ (List.mem_of_getElem? (i := 5) rfl)
theorem mw_246 : Cond.methodLink RL 49 yX4_groups ∈ wsL_law := in_r11 _ (List.mem_of_getElem? (i := 6) rfl)
theorem mw_247 : Cond.instanceMethod yX4_groups ∈ wsL_law := in_r11 _ (List.mem_of_getElem? (i := 7) rfl)
theorem mw_248 : Cond.selects RX4 yX4_groups yX4_groups ∈ wsL_law := in_r11 _ (List.mem_of_getElem? (i := 8) rfl)
theorem mw_249 : Cond.code yX4_groups cX4_groups 2 (some .int) ∈ wsL_law := in_r11 _ (List.mem_of_getElem? (i := 9) rfl)
theorem mw_250 : Cond.methodLink RX4 86 yX4_isReach ∈ wsL_law := in_r11 _ (List.mem_of_getElem? (i := 10) rfl)
theorem mw_251 : Cond.static yX4_isReach ∈ wsL_law := in_r11 _ (List.mem_of_getElem? (i := 11) rfl)
theorem mw_252 : Cond.code yX4_isReach cX4_isReach 1 (some .boolean) ∈ wsL_law := in_r11 _ (List.mem_of_getElem? (i := 12) rfl)
theorem mw_253 : Cond.methodLink RX4 90 yX3_groupsWithin ∈ wsL_law := in_r11 _ (List.mem_of_getElem? (i := 13) rfl)
theorem mw_254 : Cond.instanceMethod yX3_groupsWithin ∈ wsL_law := in_r11 _ (List.mem_of_getElem? (i := 14) rfl)
theorem mw_255 : Cond.selects RX3 yX3_groupsWithin yX3_groupsWithin ∈ wsL_law := in_r11 _ (List.mem_of_getElem? (i := 15) rfl)
theorem mw_256 : Cond.code yX3_groupsWithin cX3_groupsWithin 7 (some .int) ∈ wsL_law := in_r11 _ (List.mem_of_getElem? (i := 16) rfl)
theorem mw_257 : Cond.methodLink RX3 66 yX3_closed ∈ wsL_law := in_r11 _ (List.mem_of_getElem? (i := 17) rfl)
theorem mw_258 : Cond.methodLink RL 52 yX5_groups ∈ wsL_law := in_r11 _ (List.mem_of_getElem? (i := 18) rfl)
theorem mw_259 : Cond.instanceMethod yX5_groups ∈ wsL_law := in_r11 _ (List.mem_of_getElem? (i := 19) rfl)
theorem mw_260 : Cond.selects RX5 yX5_groups yX5_groups ∈ wsL_law := in_r11 _ (List.mem_of_getElem? (i := 20) rfl)
theorem mw_261 : Cond.code yX5_groups cX5_groups 6 (some .int) ∈ wsL_law := in_r11 _ (List.mem_of_getElem? (i := 21) rfl)
theorem mw_262 : Cond.methodLink RL 53 yX4_lower ∈ wsL_law := in_r11 _ (List.mem_of_getElem? (i := 22) rfl)
theorem mw_263 : Cond.instanceMethod yX4_lower ∈ wsL_law := in_r11 _ (List.mem_of_getElem? (i := 23) rfl)
theorem mw_264 : Cond.selects RX4 yX4_lower yX4_lower ∈ wsL_law := in_r12 _ (List.mem_of_getElem? (i := 0) rfl)
theorem mw_265 : Cond.code yX4_lower cX4_lower 1 (some .int) ∈ wsL_law := in_r12 _ (List.mem_of_getElem? (i := 1) rfl)
theorem mw_266 : Cond.methodLink RL 56 yX5_lower ∈ wsL_law := in_r12 _ (List.mem_of_getElem? (i := 2) rfl)
theorem mw_267 : Cond.instanceMethod yX5_lower ∈ wsL_law := in_r12 _ (List.mem_of_getElem? (i := 3) rfl)
theorem mw_268 : Cond.selects RX5 yX5_lower yX5_lower ∈ wsL_law := in_r12 _ (List.mem_of_getElem? (i := 4) rfl)
theorem mw_269 : Cond.code yX5_lower cX5_lower 1 (some .int) ∈ wsL_law := in_r12 _ (List.mem_of_getElem? (i := 5) rfl)
theorem mw_270 : Cond.methodLink RL 57 yX4_codes ∈ wsL_law := in_r12 _ (List.mem_of_getElem? (i := 6) rfl)
theorem mw_271 : Cond.instanceMethod yX4_codes ∈ wsL_law := in_r12 _ (List.mem_of_getElem? (i := 7) rfl)
theorem mw_272 : Cond.selects RX4 yX4_codes yX4_codes ∈ wsL_law := in_r12 _ (List.mem_of_getElem? (i := 8) rfl)
theorem mw_273 : Cond.code yX4_codes cX4_codes 1 (some .int) ∈ wsL_law := in_r12 _ (List.mem_of_getElem? (i := 9) rfl)
theorem mw_274 : Cond.methodLink RX4 93 yX1_howMany ∈ wsL_law := in_r12 _ (List.mem_of_getElem? (i := 10) rfl)
theorem mw_275 : Cond.instanceMethod yX1_howMany ∈ wsL_law := in_r12 _ (List.mem_of_getElem? (i := 11) rfl)
theorem mw_276 : Cond.selects RX1 yX1_howMany yX1_howMany ∈ wsL_law := in_r12 _ (List.mem_of_getElem? (i := 12) rfl)
theorem mw_277 : Cond.code yX1_howMany cX1_howMany 3 (some .int) ∈ wsL_law := in_r12 _ (List.mem_of_getElem? (i := 13) rfl)
theorem mw_278 : Cond.methodLink RL 60 yX5_codes ∈ wsL_law := in_r12 _ (List.mem_of_getElem? (i := 14) rfl)
theorem mw_279 : Cond.instanceMethod yX5_codes ∈ wsL_law := in_r12 _ (List.mem_of_getElem? (i := 15) rfl)
theorem mw_280 : Cond.selects RX5 yX5_codes yX5_codes ∈ wsL_law := in_r12 _ (List.mem_of_getElem? (i := 16) rfl)
theorem mw_281 : Cond.code yX5_codes cX5_codes 1 (some .int) ∈ wsL_law := in_r12 _ (List.mem_of_getElem? (i := 17) rfl)
theorem mw_282 : Cond.methodLink RX5 67 yX5_codeMany ∈ wsL_law := in_r12 _ (List.mem_of_getElem? (i := 18) rfl)
theorem mw_283 : Cond.instanceMethod yX5_codeMany ∈ wsL_law := in_r12 _ (List.mem_of_getElem? (i := 19) rfl)
theorem mw_284 : Cond.selects RX5 yX5_codeMany yX5_codeMany ∈ wsL_law := in_r12 _ (List.mem_of_getElem? (i := 20) rfl)
theorem mw_285 : Cond.code yX5_codeMany cX5_codeMany 3 (some .int) ∈ wsL_law := in_r12 _ (List.mem_of_getElem? (i := 21) rfl)
theorem mw_286 : Cond.methodLink RL 61 yX4_joined ∈ wsL_law := in_r12 _ (List.mem_of_getElem? (i := 22) rfl)
theorem mw_287 : Cond.instanceMethod yX4_joined ∈ wsL_law := in_r12 _ (List.mem_of_getElem? (i := 23) rfl)
theorem mw_288 : Cond.selects RX4 yX4_joined yX4_joined ∈ wsL_law := in_r13 _ (List.mem_of_getElem? (i := 0) rfl)
theorem mw_289 : Cond.code yX4_joined cX4_joined 4 (some .int) ∈ wsL_law := in_r13 _ (List.mem_of_getElem? (i := 1) rfl)
theorem mw_290 : Cond.methodLink RX4 96 yX4_isCode ∈ wsL_law := in_r13 _ (List.mem_of_getElem? (i := 2) rfl)
theorem mw_291 : Cond.instanceMethod yX4_isCode ∈ wsL_law := in_r13 _ (List.mem_of_getElem? (i := 3) rfl)
theorem mw_292 : Cond.selects RX4 yX4_isCode yX4_isCode ∈ wsL_law := in_r13 _ (List.mem_of_getElem? (i := 4) rfl)
theorem mw_293 : Cond.code yX4_isCode cX4_isCode 2 (some .boolean) ∈ wsL_law := in_r13 _ (List.mem_of_getElem? (i := 5) rfl)
theorem mw_294 : Cond.methodLink RX4 99 yX1_read ∈ wsL_law := in_r13 _ (List.mem_of_getElem? (i := 6) rfl)
theorem mw_295 : Cond.instanceMethod yX1_read ∈ wsL_law := in_r13 _ (List.mem_of_getElem? (i := 7) rfl)
theorem mw_296 : Cond.selects RX1 yX1_read yX1_read ∈ wsL_law := in_r13 _ (List.mem_of_getElem? (i := 8) rfl)
theorem mw_297 : Cond.code yX1_read cX1_read 4 none ∈ wsL_law := in_r13 _ (List.mem_of_getElem? (i := 9) rfl)
theorem mw_298 : Cond.methodLink RX1 42 yX1_readFigures ∈ wsL_law := in_r13 _ (List.mem_of_getElem? (i := 10) rfl)
theorem mw_299 : Cond.instanceMethod yX1_readFigures ∈ wsL_law := in_r13 _ (List.mem_of_getElem? (i := 11) rfl)
theorem mw_300 : Cond.selects RX1 yX1_readFigures yX1_readFigures ∈ wsL_law := in_r13 _ (List.mem_of_getElem? (i := 12) rfl)
theorem mw_301 : Cond.code yX1_readFigures cX1_readFigures 5 none ∈ wsL_law := in_r13 _ (List.mem_of_getElem? (i := 13) rfl)
theorem mw_302 : Cond.methodLink RX1 50 yJ7_fill_53178 ∈ wsL_law := in_r13 _ (List.mem_of_getElem? (i := 14) rfl)
theorem mw_303 : Cond.methodLink RX1 46 yX1_takeLeast ∈ wsL_law := in_r13 _ (List.mem_of_getElem? (i := 15) rfl)
theorem mw_304 : Cond.instanceMethod yX1_takeLeast ∈ wsL_law := in_r13 _ (List.mem_of_getElem? (i := 16) rfl)
theorem mw_305 : Cond.selects RX1 yX1_takeLeast yX1_takeLeast ∈ wsL_law := in_r13 _ (List.mem_of_getElem? (i := 17) rfl)
theorem mw_306 : Cond.code yX1_takeLeast cX1_takeLeast 2 (some .int) ∈ wsL_law := in_r13 _ (List.mem_of_getElem? (i := 18) rfl)
theorem mw_307 : Cond.methodLink RX4 102 yX1_joins ∈ wsL_law := in_r13 _ (List.mem_of_getElem? (i := 19) rfl)
theorem mw_308 : Cond.instanceMethod yX1_joins ∈ wsL_law := in_r13 _ (List.mem_of_getElem? (i := 20) rfl)
theorem mw_309 : Cond.selects RX1 yX1_joins yX1_joins ∈ wsL_law := in_r13 _ (List.mem_of_getElem? (i := 21) rfl)
theorem mw_310 : Cond.code yX1_joins cX1_joins 5 (some .boolean) ∈ wsL_law := in_r13 _ (List.mem_of_getElem? (i := 22) rfl)
theorem mw_311 : Cond.methodLink RL 64 yX5_joined ∈ wsL_law := in_r13 _ (List.mem_of_getElem? (i := 23) rfl)
theorem mw_312 : Cond.instanceMethod yX5_joined ∈ wsL_law := in_r14 _ (List.mem_of_getElem? (i := 0) rfl)
theorem mw_313 : Cond.selects RX5 yX5_joined yX5_joined ∈ wsL_law := in_r14 _ (List.mem_of_getElem? (i := 1) rfl)
theorem mw_314 : Cond.code yX5_joined cX5_joined 4 (some .int) ∈ wsL_law := in_r14 _ (List.mem_of_getElem? (i := 2) rfl)
theorem mw_315 : Cond.methodLink RX5 82 yX5_isCode ∈ wsL_law := in_r14 _ (List.mem_of_getElem? (i := 3) rfl)
theorem mw_316 : Cond.instanceMethod yX5_isCode ∈ wsL_law := in_r14 _ (List.mem_of_getElem? (i := 4) rfl)
theorem mw_317 : Cond.selects RX5 yX5_isCode yX5_isCode ∈ wsL_law := in_r14 _ (List.mem_of_getElem? (i := 5) rfl)
theorem mw_318 : Cond.code yX5_isCode cX5_isCode 2 (some .boolean) ∈ wsL_law := in_r14 _ (List.mem_of_getElem? (i := 6) rfl)
theorem mw_319 : Cond.methodLink RX5 77 yX5_lay ∈ wsL_law := in_r14 _ (List.mem_of_getElem? (i := 7) rfl)
theorem mw_320 : Cond.instanceMethod yX5_lay ∈ wsL_law := in_r14 _ (List.mem_of_getElem? (i := 8) rfl)
theorem mw_321 : Cond.selects RX5 yX5_lay yX5_lay ∈ wsL_law := in_r14 _ (List.mem_of_getElem? (i := 9) rfl)
theorem mw_322 : Cond.code yX5_lay cX5_lay 6 none ∈ wsL_law := in_r14 _ (List.mem_of_getElem? (i := 10) rfl)
theorem mw_323 : Cond.methodLink RX5 70 yX5_leaf ∈ wsL_law := in_r14 _ (List.mem_of_getElem? (i := 11) rfl)
theorem mw_324 : Cond.instanceMethod yX5_leaf ∈ wsL_law := in_r14 _ (List.mem_of_getElem? (i := 12) rfl)
theorem mw_325 : Cond.selects RX5 yX5_leaf yX5_leaf ∈ wsL_law := in_r14 _ (List.mem_of_getElem? (i := 13) rfl)
theorem mw_326 : Cond.code yX5_leaf cX5_leaf 2 (some .int) ∈ wsL_law := in_r14 _ (List.mem_of_getElem? (i := 14) rfl)
theorem mw_327 : Cond.methodLink RX5 73 yX5_join ∈ wsL_law := in_r14 _ (List.mem_of_getElem? (i := 15) rfl)
theorem mw_328 : Cond.instanceMethod yX5_join ∈ wsL_law := in_r14 _ (List.mem_of_getElem? (i := 16) rfl)
theorem mw_329 : Cond.selects RX5 yX5_join yX5_join ∈ wsL_law := in_r14 _ (List.mem_of_getElem? (i := 17) rfl)
theorem mw_330 : Cond.code yX5_join cX5_join 3 none ∈ wsL_law := in_r14 _ (List.mem_of_getElem? (i := 18) rfl)
theorem mw_331 : Cond.methodLink RL 65 yX4_way ∈ wsL_law := in_r14 _ (List.mem_of_getElem? (i := 19) rfl)
theorem mw_332 : Cond.instanceMethod yX4_way ∈ wsL_law := in_r14 _ (List.mem_of_getElem? (i := 20) rfl)
theorem mw_333 : Cond.selects RX4 yX4_way yX4_way ∈ wsL_law := in_r14 _ (List.mem_of_getElem? (i := 21) rfl)
theorem mw_334 : Cond.code yX4_way cX4_way 4 (some .int) ∈ wsL_law := in_r14 _ (List.mem_of_getElem? (i := 22) rfl)
theorem mw_335 : Cond.methodLink RX4 105 yX1_lay ∈ wsL_law := in_r14 _ (List.mem_of_getElem? (i := 23) rfl)
theorem mw_336 : Cond.instanceMethod yX1_lay ∈ wsL_law := in_r15 _ (List.mem_of_getElem? (i := 0) rfl)
theorem mw_337 : Cond.selects RX1 yX1_lay yX1_lay ∈ wsL_law := in_r15 _ (List.mem_of_getElem? (i := 1) rfl)
theorem mw_338 : Cond.code yX1_lay cX1_lay 5 none ∈ wsL_law := in_r15 _ (List.mem_of_getElem? (i := 2) rfl)
theorem mw_339 : Cond.methodLink RX1 56 yX1_read ∈ wsL_law := in_r15 _ (List.mem_of_getElem? (i := 3) rfl)
theorem mw_340 : Cond.methodLink RX1 59 yX1_layWay ∈ wsL_law := in_r15 _ (List.mem_of_getElem? (i := 4) rfl)
theorem mw_341 : Cond.instanceMethod yX1_layWay ∈ wsL_law := in_r15 _ (List.mem_of_getElem? (i := 5) rfl)
theorem mw_342 : Cond.selects RX1 yX1_layWay yX1_layWay ∈ wsL_law := in_r15 _ (List.mem_of_getElem? (i := 6) rfl)
theorem mw_343 : Cond.code yX1_layWay cX1_layWay 5 none ∈ wsL_law := in_r15 _ (List.mem_of_getElem? (i := 7) rfl)
theorem mw_344 : Cond.methodLink RL 68 yX5_way ∈ wsL_law := in_r15 _ (List.mem_of_getElem? (i := 8) rfl)
theorem mw_345 : Cond.instanceMethod yX5_way ∈ wsL_law := in_r15 _ (List.mem_of_getElem? (i := 9) rfl)
theorem mw_346 : Cond.selects RX5 yX5_way yX5_way ∈ wsL_law := in_r15 _ (List.mem_of_getElem? (i := 10) rfl)
theorem mw_347 : Cond.code yX5_way cX5_way 4 (some .int) ∈ wsL_law := in_r15 _ (List.mem_of_getElem? (i := 11) rfl)
theorem mw_348 : Cond.methodLink RX5 85 yX5_go ∈ wsL_law := in_r15 _ (List.mem_of_getElem? (i := 12) rfl)
theorem mw_349 : Cond.instanceMethod yX5_go ∈ wsL_law := in_r15 _ (List.mem_of_getElem? (i := 13) rfl)
theorem mw_350 : Cond.selects RX5 yX5_go yX5_go ∈ wsL_law := in_r15 _ (List.mem_of_getElem? (i := 14) rfl)
theorem mw_351 : Cond.code yX5_go cX5_go 6 none ∈ wsL_law := in_r15 _ (List.mem_of_getElem? (i := 15) rfl)
theorem mw_352 : Cond.constant RX5 81 (1000000) ∈ wsL_law := in_r15 _ (List.mem_of_getElem? (i := 16) rfl)
theorem mw_353 : Cond.methodLink RL 69 yX4_stretch ∈ wsL_law := in_r15 _ (List.mem_of_getElem? (i := 17) rfl)
theorem mw_354 : Cond.instanceMethod yX4_stretch ∈ wsL_law := in_r15 _ (List.mem_of_getElem? (i := 18) rfl)
theorem mw_355 : Cond.selects RX4 yX4_stretch yX4_stretch ∈ wsL_law := in_r15 _ (List.mem_of_getElem? (i := 19) rfl)
theorem mw_356 : Cond.code yX4_stretch cX4_stretch 5 (some .long) ∈ wsL_law := in_r15 _ (List.mem_of_getElem? (i := 20) rfl)
theorem mw_357 : Cond.constantLong RX4 111 (-102) ∈ wsL_law := in_r15 _ (List.mem_of_getElem? (i := 21) rfl)
theorem mw_358 : Cond.methodLink RX4 113 yX1_findStretch ∈ wsL_law := in_r15 _ (List.mem_of_getElem? (i := 22) rfl)
theorem mw_359 : Cond.instanceMethod yX1_findStretch ∈ wsL_law := in_r15 _ (List.mem_of_getElem? (i := 23) rfl)
theorem mw_360 : Cond.selects RX1 yX1_findStretch yX1_findStretch ∈ wsL_law := in_r16 _ (List.mem_of_getElem? (i := 0) rfl)
theorem mw_361 : Cond.code yX1_findStretch cX1_findStretch 3 none ∈ wsL_law := in_r16 _ (List.mem_of_getElem? (i := 1) rfl)
theorem mw_362 : Cond.methodLink RX4 122 yX4_greatestDivisor ∈ wsL_law := in_r16 _ (List.mem_of_getElem? (i := 2) rfl)
theorem mw_363 : Cond.static yX4_greatestDivisor ∈ wsL_law := in_r16 _ (List.mem_of_getElem? (i := 3) rfl)
theorem mw_364 : Cond.code yX4_greatestDivisor cX4_greatestDivisor 6 (some .int) ∈ wsL_law := in_r16 _ (List.mem_of_getElem? (i := 4) rfl)
theorem mw_365 : Cond.methodLink RL 73 yX5_stretch ∈ wsL_law := in_r16 _ (List.mem_of_getElem? (i := 5) rfl)
theorem mw_366 : Cond.instanceMethod yX5_stretch ∈ wsL_law := in_r16 _ (List.mem_of_getElem? (i := 6) rfl)
theorem mw_367 : Cond.selects RX5 yX5_stretch yX5_stretch ∈ wsL_law := in_r16 _ (List.mem_of_getElem? (i := 7) rfl)
theorem mw_368 : Cond.code yX5_stretch cX5_stretch 9 (some .long) ∈ wsL_law := in_r16 _ (List.mem_of_getElem? (i := 8) rfl)
theorem mw_369 : Cond.constantLong RX5 95 (-102) ∈ wsL_law := in_r16 _ (List.mem_of_getElem? (i := 9) rfl)
theorem mw_370 : Cond.fieldLink RX5 88 "HugTreesModel" "above" "J" ∈ wsL_law := in_r16 _ (List.mem_of_getElem? (i := 10) rfl)
theorem mw_371 : Cond.fieldLink RX5 92 "HugTreesModel" "below" "J" ∈ wsL_law := in_r16 _ (List.mem_of_getElem? (i := 11) rfl)
theorem mw_372 : Cond.methodLink RX5 97 yX5_stretchNow ∈ wsL_law := in_r16 _ (List.mem_of_getElem? (i := 12) rfl)
theorem mw_373 : Cond.instanceMethod yX5_stretchNow ∈ wsL_law := in_r16 _ (List.mem_of_getElem? (i := 13) rfl)
theorem mw_374 : Cond.selects RX5 yX5_stretchNow yX5_stretchNow ∈ wsL_law := in_r16 _ (List.mem_of_getElem? (i := 14) rfl)
theorem mw_375 : Cond.code yX5_stretchNow cX5_stretchNow 3 none ∈ wsL_law := in_r16 _ (List.mem_of_getElem? (i := 15) rfl)
theorem mw_376 : Cond.methodLink RL 74 yX4_spread ∈ wsL_law := in_r16 _ (List.mem_of_getElem? (i := 16) rfl)
theorem mw_377 : Cond.instanceMethod yX4_spread ∈ wsL_law := in_r16 _ (List.mem_of_getElem? (i := 17) rfl)
theorem mw_378 : Cond.selects RX4 yX4_spread yX4_spread ∈ wsL_law := in_r16 _ (List.mem_of_getElem? (i := 18) rfl)
theorem mw_379 : Cond.code yX4_spread cX4_spread 2 (some .int) ∈ wsL_law := in_r16 _ (List.mem_of_getElem? (i := 19) rfl)
theorem mw_380 : Cond.methodLink RX4 126 yX3_sumOf ∈ wsL_law := in_r16 _ (List.mem_of_getElem? (i := 20) rfl)
theorem mw_381 : Cond.instanceMethod yX3_sumOf ∈ wsL_law := in_r16 _ (List.mem_of_getElem? (i := 21) rfl)
theorem mw_382 : Cond.selects RX3 yX3_sumOf yX3_sumOf ∈ wsL_law := in_r16 _ (List.mem_of_getElem? (i := 22) rfl)
theorem mw_383 : Cond.code yX3_sumOf cX3_sumOf 5 (some .int) ∈ wsL_law := in_r16 _ (List.mem_of_getElem? (i := 23) rfl)
theorem mw_384 : Cond.methodLink RL 77 yX5_spread ∈ wsL_law := in_r17 _ (List.mem_of_getElem? (i := 0) rfl)
theorem mw_385 : Cond.instanceMethod yX5_spread ∈ wsL_law := in_r17 _ (List.mem_of_getElem? (i := 1) rfl)
theorem mw_386 : Cond.selects RX5 yX5_spread yX5_spread ∈ wsL_law := in_r17 _ (List.mem_of_getElem? (i := 2) rfl)
theorem mw_387 : Cond.code yX5_spread cX5_spread 2 (some .int) ∈ wsL_law := in_r17 _ (List.mem_of_getElem? (i := 3) rfl)
theorem mw_388 : Cond.methodLink RX5 100 yX5_spreadNow ∈ wsL_law := in_r17 _ (List.mem_of_getElem? (i := 4) rfl)
theorem mw_389 : Cond.instanceMethod yX5_spreadNow ∈ wsL_law := in_r17 _ (List.mem_of_getElem? (i := 5) rfl)
theorem mw_390 : Cond.selects RX5 yX5_spreadNow yX5_spreadNow ∈ wsL_law := in_r17 _ (List.mem_of_getElem? (i := 6) rfl)
theorem mw_391 : Cond.code yX5_spreadNow cX5_spreadNow 4 (some .int) ∈ wsL_law := in_r17 _ (List.mem_of_getElem? (i := 7) rfl)
theorem mw_392 : Cond.methodLink RL 78 yX4_best ∈ wsL_law := in_r17 _ (List.mem_of_getElem? (i := 8) rfl)
theorem mw_393 : Cond.instanceMethod yX4_best ∈ wsL_law := in_r17 _ (List.mem_of_getElem? (i := 9) rfl)
theorem mw_394 : Cond.selects RX4 yX4_best yX4_best ∈ wsL_law := in_r17 _ (List.mem_of_getElem? (i := 10) rfl)
theorem mw_395 : Cond.code yX4_best cX4_best 2 (some .int) ∈ wsL_law := in_r17 _ (List.mem_of_getElem? (i := 11) rfl)
theorem mw_396 : Cond.methodLink RX4 129 yX1_leastByStretch ∈ wsL_law := in_r17 _ (List.mem_of_getElem? (i := 12) rfl)
theorem mw_397 : Cond.instanceMethod yX1_leastByStretch ∈ wsL_law := in_r17 _ (List.mem_of_getElem? (i := 13) rfl)
theorem mw_398 : Cond.selects RX1 yX1_leastByStretch yX1_leastByStretch ∈ wsL_law := in_r17 _ (List.mem_of_getElem? (i := 14) rfl)
theorem mw_399 : Cond.code yX1_leastByStretch cX1_leastByStretch 6 (some .int) ∈ wsL_law := in_r17 _ (List.mem_of_getElem? (i := 15) rfl)
theorem mw_400 : Cond.methodLink RX1 66 yX1_howMany ∈ wsL_law := in_r17 _ (List.mem_of_getElem? (i := 16) rfl)
theorem mw_401 : Cond.methodLink RX1 69 yX1_lay ∈ wsL_law := in_r17 _ (List.mem_of_getElem? (i := 17) rfl)
theorem mw_402 : Cond.methodLink RX1 72 yX1_findStretch ∈ wsL_law := in_r17 _ (List.mem_of_getElem? (i := 18) rfl)
theorem mw_403 : Cond.methodLink RX4 132 yX1_leastBySpread ∈ wsL_law := in_r17 _ (List.mem_of_getElem? (i := 19) rfl)
theorem mw_404 : Cond.instanceMethod yX1_leastBySpread ∈ wsL_law := in_r17 _ (List.mem_of_getElem? (i := 20) rfl)
theorem mw_405 : Cond.selects RX1 yX1_leastBySpread yX1_leastBySpread ∈ wsL_law := in_r17 _ (List.mem_of_getElem? (i := 21) rfl)
theorem mw_406 : Cond.code yX1_leastBySpread cX1_leastBySpread 6 (some .int) ∈ wsL_law := in_r17 _ (List.mem_of_getElem? (i := 22) rfl)
theorem mw_407 : Cond.methodLink RX1 75 yX3_sumOf ∈ wsL_law := in_r17 _ (List.mem_of_getElem? (i := 23) rfl)
theorem mw_408 : Cond.methodLink RL 81 yX5_best ∈ wsL_law := in_r18 _ (List.mem_of_getElem? (i := 0) rfl)
theorem mw_409 : Cond.instanceMethod yX5_best ∈ wsL_law := in_r18 _ (List.mem_of_getElem? (i := 1) rfl)
theorem mw_410 : Cond.selects RX5 yX5_best yX5_best ∈ wsL_law := in_r18 _ (List.mem_of_getElem? (i := 2) rfl)
theorem mw_411 : Cond.code yX5_best cX5_best 12 (some .int) ∈ wsL_law := in_r18 _ (List.mem_of_getElem? (i := 3) rfl)
theorem mw_412 : Cond.fieldLink RX5 103 "HugTreesModel" "bests" "I" ∈ wsL_law := in_r18 _ (List.mem_of_getElem? (i := 4) rfl)
theorem mw_413 : Cond.methodLink RL 82 yX4_grow ∈ wsL_law := in_r18 _ (List.mem_of_getElem? (i := 5) rfl)
theorem mw_414 : Cond.instanceMethod yX4_grow ∈ wsL_law := in_r18 _ (List.mem_of_getElem? (i := 6) rfl)
theorem mw_415 : Cond.selects RX4 yX4_grow yX4_grow ∈ wsL_law := in_r18 _ (List.mem_of_getElem? (i := 7) rfl)
theorem mw_416 : Cond.code yX4_grow cX4_grow 2 (some .int) ∈ wsL_law := in_r18 _ (List.mem_of_getElem? (i := 8) rfl)
theorem mw_417 : Cond.methodLink RX4 135 yX3_greatestOf ∈ wsL_law := in_r18 _ (List.mem_of_getElem? (i := 9) rfl)
theorem mw_418 : Cond.instanceMethod yX3_greatestOf ∈ wsL_law := in_r18 _ (List.mem_of_getElem? (i := 10) rfl)
theorem mw_419 : Cond.selects RX3 yX3_greatestOf yX3_greatestOf ∈ wsL_law := in_r18 _ (List.mem_of_getElem? (i := 11) rfl)
theorem mw_420 : Cond.code yX3_greatestOf cX3_greatestOf 5 (some .int) ∈ wsL_law := in_r18 _ (List.mem_of_getElem? (i := 12) rfl)
theorem mw_421 : Cond.methodLink RL 85 yX5_grow ∈ wsL_law := in_r18 _ (List.mem_of_getElem? (i := 13) rfl)
theorem mw_422 : Cond.instanceMethod yX5_grow ∈ wsL_law := in_r18 _ (List.mem_of_getElem? (i := 14) rfl)
theorem mw_423 : Cond.selects RX5 yX5_grow yX5_grow ∈ wsL_law := in_r18 _ (List.mem_of_getElem? (i := 15) rfl)
theorem mw_424 : Cond.code yX5_grow cX5_grow 5 (some .int) ∈ wsL_law := in_r18 _ (List.mem_of_getElem? (i := 16) rfl)
theorem mw_425 : Cond.methodLink RL 86 yX4_weight ∈ wsL_law := in_r18 _ (List.mem_of_getElem? (i := 17) rfl)
theorem mw_426 : Cond.instanceMethod yX4_weight ∈ wsL_law := in_r18 _ (List.mem_of_getElem? (i := 18) rfl)
theorem mw_427 : Cond.selects RX4 yX4_weight yX4_weight ∈ wsL_law := in_r18 _ (List.mem_of_getElem? (i := 19) rfl)
theorem mw_428 : Cond.code yX4_weight cX4_weight 2 (some .int) ∈ wsL_law := in_r18 _ (List.mem_of_getElem? (i := 20) rfl)
theorem mw_429 : Cond.methodLink RX4 138 yX2_isPart ∈ wsL_law := in_r18 _ (List.mem_of_getElem? (i := 21) rfl)
theorem mw_430 : Cond.instanceMethod yX2_isPart ∈ wsL_law := in_r18 _ (List.mem_of_getElem? (i := 22) rfl)
theorem mw_431 : Cond.selects RX2 yX2_isPart yX2_isPart ∈ wsL_law := in_r18 _ (List.mem_of_getElem? (i := 23) rfl)
theorem mw_432 : Cond.code yX2_isPart cX2_isPart 2 (some .boolean) ∈ wsL_law := in_r19 _ (List.mem_of_getElem? (i := 0) rfl)
theorem mw_433 : Cond.methodLink RX2 21 yX2_allPoints ∈ wsL_law := in_r19 _ (List.mem_of_getElem? (i := 1) rfl)
theorem mw_434 : Cond.instanceMethod yX2_allPoints ∈ wsL_law := in_r19 _ (List.mem_of_getElem? (i := 2) rfl)
theorem mw_435 : Cond.selects RX2 yX2_allPoints yX2_allPoints ∈ wsL_law := in_r19 _ (List.mem_of_getElem? (i := 3) rfl)
theorem mw_436 : Cond.code yX2_allPoints cX2_allPoints 1 (some .int) ∈ wsL_law := in_r19 _ (List.mem_of_getElem? (i := 4) rfl)
theorem mw_437 : Cond.methodLink RX2 25 yX2_isIn ∈ wsL_law := in_r19 _ (List.mem_of_getElem? (i := 5) rfl)
theorem mw_438 : Cond.static yX2_isIn ∈ wsL_law := in_r19 _ (List.mem_of_getElem? (i := 6) rfl)
theorem mw_439 : Cond.code yX2_isIn cX2_isIn 2 (some .boolean) ∈ wsL_law := in_r19 _ (List.mem_of_getElem? (i := 7) rfl)
theorem mw_440 : Cond.methodLink RX4 141 yX2_weigh ∈ wsL_law := in_r19 _ (List.mem_of_getElem? (i := 8) rfl)
theorem mw_441 : Cond.instanceMethod yX2_weigh ∈ wsL_law := in_r19 _ (List.mem_of_getElem? (i := 9) rfl)
theorem mw_442 : Cond.selects RX2 yX2_weigh yX2_weigh ∈ wsL_law := in_r19 _ (List.mem_of_getElem? (i := 10) rfl)
theorem mw_443 : Cond.code yX2_weigh cX2_weigh 5 (some .int) ∈ wsL_law := in_r19 _ (List.mem_of_getElem? (i := 11) rfl)
theorem mw_444 : Cond.methodLink RX2 33 Lib.Math.min.name ∈ wsL_law := in_r19 _ (List.mem_of_getElem? (i := 12) rfl)
theorem mw_445 : Cond.methodLink RX2 29 yX2_leastAcross ∈ wsL_law := in_r19 _ (List.mem_of_getElem? (i := 13) rfl)
theorem mw_446 : Cond.instanceMethod yX2_leastAcross ∈ wsL_law := in_r19 _ (List.mem_of_getElem? (i := 14) rfl)
theorem mw_447 : Cond.selects RX2 yX2_leastAcross yX2_leastAcross ∈ wsL_law := in_r19 _ (List.mem_of_getElem? (i := 15) rfl)
theorem mw_448 : Cond.code yX2_leastAcross cX2_leastAcross 7 (some .int) ∈ wsL_law := in_r19 _ (List.mem_of_getElem? (i := 16) rfl)
theorem mw_449 : Cond.methodLink RX2 39 yX2_across ∈ wsL_law := in_r19 _ (List.mem_of_getElem? (i := 17) rfl)
theorem mw_450 : Cond.instanceMethod yX2_across ∈ wsL_law := in_r19 _ (List.mem_of_getElem? (i := 18) rfl)
theorem mw_451 : Cond.selects RX2 yX2_across yX2_across ∈ wsL_law := in_r19 _ (List.mem_of_getElem? (i := 19) rfl)
theorem mw_452 : Cond.code yX2_across cX2_across 9 (some .int) ∈ wsL_law := in_r19 _ (List.mem_of_getElem? (i := 20) rfl)
theorem mw_453 : Cond.methodLink RX2 47 Lib.Math.max.name ∈ wsL_law := in_r19 _ (List.mem_of_getElem? (i := 21) rfl)
theorem mw_454 : Cond.methodLink RL 89 yX5_weight ∈ wsL_law := in_r19 _ (List.mem_of_getElem? (i := 22) rfl)
theorem mw_455 : Cond.instanceMethod yX5_weight ∈ wsL_law := in_r19 _ (List.mem_of_getElem? (i := 23) rfl)
theorem mw_456 : Cond.selects RX5 yX5_weight yX5_weight ∈ wsL_law := in_r20 _ (List.mem_of_getElem? (i := 0) rfl)
theorem mw_457 : Cond.code yX5_weight cX5_weight 2 (some .int) ∈ wsL_law := in_r20 _ (List.mem_of_getElem? (i := 1) rfl)
theorem mw_458 : Cond.methodLink RX5 106 yX5_isPart ∈ wsL_law := in_r20 _ (List.mem_of_getElem? (i := 2) rfl)
theorem mw_459 : Cond.instanceMethod yX5_isPart ∈ wsL_law := in_r20 _ (List.mem_of_getElem? (i := 3) rfl)
theorem mw_460 : Cond.selects RX5 yX5_isPart yX5_isPart ∈ wsL_law := in_r20 _ (List.mem_of_getElem? (i := 4) rfl)
theorem mw_461 : Cond.code yX5_isPart cX5_isPart 2 (some .boolean) ∈ wsL_law := in_r20 _ (List.mem_of_getElem? (i := 5) rfl)
theorem mw_462 : Cond.methodLink RX5 109 yX5_weightOf ∈ wsL_law := in_r20 _ (List.mem_of_getElem? (i := 6) rfl)
theorem mw_463 : Cond.instanceMethod yX5_weightOf ∈ wsL_law := in_r20 _ (List.mem_of_getElem? (i := 7) rfl)
theorem mw_464 : Cond.selects RX5 yX5_weightOf yX5_weightOf ∈ wsL_law := in_r20 _ (List.mem_of_getElem? (i := 8) rfl)
theorem mw_465 : Cond.code yX5_weightOf cX5_weightOf 10 (some .int) ∈ wsL_law := in_r20 _ (List.mem_of_getElem? (i := 9) rfl)
theorem mw_466 : Cond.methodLink RL 90 yX4_parts ∈ wsL_law := in_r20 _ (List.mem_of_getElem? (i := 10) rfl)
theorem mw_467 : Cond.instanceMethod yX4_parts ∈ wsL_law := in_r20 _ (List.mem_of_getElem? (i := 11) rfl)
theorem mw_468 : Cond.selects RX4 yX4_parts yX4_parts ∈ wsL_law := in_r20 _ (List.mem_of_getElem? (i := 12) rfl)
theorem mw_469 : Cond.code yX4_parts cX4_parts 1 (some .int) ∈ wsL_law := in_r20 _ (List.mem_of_getElem? (i := 13) rfl)
theorem mw_470 : Cond.methodLink RX4 144 yX2_howManyWeigh ∈ wsL_law := in_r20 _ (List.mem_of_getElem? (i := 14) rfl)
theorem mw_471 : Cond.instanceMethod yX2_howManyWeigh ∈ wsL_law := in_r20 _ (List.mem_of_getElem? (i := 15) rfl)
theorem mw_472 : Cond.selects RX2 yX2_howManyWeigh yX2_howManyWeigh ∈ wsL_law := in_r20 _ (List.mem_of_getElem? (i := 16) rfl)
theorem mw_473 : Cond.code yX2_howManyWeigh cX2_howManyWeigh 3 (some .int) ∈ wsL_law := in_r20 _ (List.mem_of_getElem? (i := 17) rfl)
theorem mw_474 : Cond.methodLink RX2 50 yX2_weigh ∈ wsL_law := in_r20 _ (List.mem_of_getElem? (i := 18) rfl)
theorem mw_475 : Cond.methodLink RL 93 yX5_parts ∈ wsL_law := in_r20 _ (List.mem_of_getElem? (i := 19) rfl)
theorem mw_476 : Cond.instanceMethod yX5_parts ∈ wsL_law := in_r20 _ (List.mem_of_getElem? (i := 20) rfl)
theorem mw_477 : Cond.selects RX5 yX5_parts yX5_parts ∈ wsL_law := in_r20 _ (List.mem_of_getElem? (i := 21) rfl)
theorem mw_478 : Cond.code yX5_parts cX5_parts 3 (some .int) ∈ wsL_law := in_r20 _ (List.mem_of_getElem? (i := 22) rfl)
theorem mw_479 : Cond.methodLink RL 94 yX4_rest ∈ wsL_law := in_r20 _ (List.mem_of_getElem? (i := 23) rfl)
theorem mw_480 : Cond.instanceMethod yX4_rest ∈ wsL_law := in_r21 _ (List.mem_of_getElem? (i := 0) rfl)
theorem mw_481 : Cond.selects RX4 yX4_rest yX4_rest ∈ wsL_law := in_r21 _ (List.mem_of_getElem? (i := 1) rfl)
theorem mw_482 : Cond.code yX4_rest cX4_rest 3 (some .int) ∈ wsL_law := in_r21 _ (List.mem_of_getElem? (i := 2) rfl)
theorem mw_483 : Cond.methodLink RX4 147 yX2_leftOf ∈ wsL_law := in_r21 _ (List.mem_of_getElem? (i := 3) rfl)
theorem mw_484 : Cond.instanceMethod yX2_leftOf ∈ wsL_law := in_r21 _ (List.mem_of_getElem? (i := 4) rfl)
theorem mw_485 : Cond.selects RX2 yX2_leftOf yX2_leftOf ∈ wsL_law := in_r21 _ (List.mem_of_getElem? (i := 5) rfl)
theorem mw_486 : Cond.code yX2_leftOf cX2_leftOf 5 (some .int) ∈ wsL_law := in_r21 _ (List.mem_of_getElem? (i := 6) rfl)
theorem mw_487 : Cond.methodLink RL 97 yX5_rest ∈ wsL_law := in_r21 _ (List.mem_of_getElem? (i := 7) rfl)
theorem mw_488 : Cond.instanceMethod yX5_rest ∈ wsL_law := in_r21 _ (List.mem_of_getElem? (i := 8) rfl)
theorem mw_489 : Cond.selects RX5 yX5_rest yX5_rest ∈ wsL_law := in_r21 _ (List.mem_of_getElem? (i := 9) rfl)
theorem mw_490 : Cond.code yX5_rest cX5_rest 5 (some .int) ∈ wsL_law := in_r21 _ (List.mem_of_getElem? (i := 10) rfl)
theorem mw_491 : Cond.methodLink RL 98 yX4_drawn ∈ wsL_law := in_r21 _ (List.mem_of_getElem? (i := 11) rfl)
theorem mw_492 : Cond.instanceMethod yX4_drawn ∈ wsL_law := in_r21 _ (List.mem_of_getElem? (i := 12) rfl)
theorem mw_493 : Cond.selects RX4 yX4_drawn yX4_drawn ∈ wsL_law := in_r21 _ (List.mem_of_getElem? (i := 13) rfl)
theorem mw_494 : Cond.code yX4_drawn cX4_drawn 4 (some .int) ∈ wsL_law := in_r21 _ (List.mem_of_getElem? (i := 14) rfl)
theorem mw_495 : Cond.methodLink RX4 150 yX0_ordersThatPart ∈ wsL_law := in_r21 _ (List.mem_of_getElem? (i := 15) rfl)
theorem mw_496 : Cond.instanceMethod yX0_ordersThatPart ∈ wsL_law := in_r21 _ (List.mem_of_getElem? (i := 16) rfl)
theorem mw_497 : Cond.selects RX0 yX0_ordersThatPart yX0_ordersThatPart ∈ wsL_law := in_r21 _ (List.mem_of_getElem? (i := 17) rfl)
theorem mw_498 : Cond.code yX0_ordersThatPart cX0_ordersThatPart 6 (some .int) ∈ wsL_law := in_r21 _ (List.mem_of_getElem? (i := 18) rfl)
theorem mw_499 : Cond.methodLink RX0 25 yX0_reached ∈ wsL_law := in_r21 _ (List.mem_of_getElem? (i := 19) rfl)
theorem mw_500 : Cond.instanceMethod yX0_reached ∈ wsL_law := in_r21 _ (List.mem_of_getElem? (i := 20) rfl)
theorem mw_501 : Cond.selects RX0 yX0_reached yX0_reached ∈ wsL_law := in_r21 _ (List.mem_of_getElem? (i := 21) rfl)
theorem mw_502 : Cond.code yX0_reached cX0_reached 5 (some .int) ∈ wsL_law := in_r21 _ (List.mem_of_getElem? (i := 22) rfl)
theorem mw_503 : Cond.methodLink RX0 29 yJ6_bitCount_0f7a4 ∈ wsL_law := in_r21 _ (List.mem_of_getElem? (i := 23) rfl)
theorem mw_504 : Cond.static yJ6_bitCount_0f7a4 ∈ wsL_law := in_r22 _ (List.mem_of_getElem? (i := 0) rfl)
theorem mw_505 : Cond.initialized RJ6 ∈ wsL_law := in_r22 _ (List.mem_of_getElem? (i := 1) rfl)
theorem mw_506 : Cond.code yJ6_bitCount_0f7a4 cJ6_bitCount_0f7a4 1 (some .int) ∈ wsL_law := in_r22 _ (List.mem_of_getElem? (i := 2) rfl)
theorem mw_507 : Cond.constant RJ6 265 (1431655765) ∈ wsL_law := in_r22 _ (List.mem_of_getElem? (i := 3) rfl)
theorem mw_508 : Cond.constant RJ6 266 (858993459) ∈ wsL_law := in_r22 _ (List.mem_of_getElem? (i := 4) rfl)
theorem mw_509 : Cond.constant RJ6 267 (252645135) ∈ wsL_law := in_r22 _ (List.mem_of_getElem? (i := 5) rfl)
theorem mw_510 : Cond.methodLink RX0 35 yX0_howMany ∈ wsL_law := in_r22 _ (List.mem_of_getElem? (i := 6) rfl)
theorem mw_511 : Cond.instanceMethod yX0_howMany ∈ wsL_law := in_r22 _ (List.mem_of_getElem? (i := 7) rfl)
theorem mw_512 : Cond.selects RX0 yX0_howMany yX0_howMany ∈ wsL_law := in_r22 _ (List.mem_of_getElem? (i := 8) rfl)
theorem mw_513 : Cond.code yX0_howMany cX0_howMany 1 (some .int) ∈ wsL_law := in_r22 _ (List.mem_of_getElem? (i := 9) rfl)
theorem mw_514 : Cond.methodLink RL 101 yX5_drawn ∈ wsL_law := in_r22 _ (List.mem_of_getElem? (i := 10) rfl)
theorem mw_515 : Cond.instanceMethod yX5_drawn ∈ wsL_law := in_r22 _ (List.mem_of_getElem? (i := 11) rfl)
theorem mw_516 : Cond.selects RX5 yX5_drawn yX5_drawn ∈ wsL_law := in_r22 _ (List.mem_of_getElem? (i := 12) rfl)
theorem mw_517 : Cond.code yX5_drawn cX5_drawn 6 (some .int) ∈ wsL_law := in_r22 _ (List.mem_of_getElem? (i := 13) rfl)
theorem mw_518 : Cond.methodLink RX5 112 yX5_orders ∈ wsL_law := in_r22 _ (List.mem_of_getElem? (i := 14) rfl)
theorem mw_519 : Cond.instanceMethod yX5_orders ∈ wsL_law := in_r22 _ (List.mem_of_getElem? (i := 15) rfl)
theorem mw_520 : Cond.selects RX5 yX5_orders yX5_orders ∈ wsL_law := in_r22 _ (List.mem_of_getElem? (i := 16) rfl)
theorem mw_521 : Cond.code yX5_orders cX5_orders 3 (some .int) ∈ wsL_law := in_r22 _ (List.mem_of_getElem? (i := 17) rfl)
theorem mw_522 : Cond.methodLink RX5 115 yX5_draw ∈ wsL_law := in_r22 _ (List.mem_of_getElem? (i := 18) rfl)
theorem mw_523 : Cond.instanceMethod yX5_draw ∈ wsL_law := in_r22 _ (List.mem_of_getElem? (i := 19) rfl)
theorem mw_524 : Cond.selects RX5 yX5_draw yX5_draw ∈ wsL_law := in_r22 _ (List.mem_of_getElem? (i := 20) rfl)
theorem mw_525 : Cond.code yX5_draw cX5_draw 8 none ∈ wsL_law := in_r22 _ (List.mem_of_getElem? (i := 21) rfl)
theorem mw_526 : Cond.methodLink RX5 118 yX5_goalOf ∈ wsL_law := in_r22 _ (List.mem_of_getElem? (i := 22) rfl)
theorem mw_527 : Cond.instanceMethod yX5_goalOf ∈ wsL_law := in_r22 _ (List.mem_of_getElem? (i := 23) rfl)
theorem mw_528 : Cond.selects RX5 yX5_goalOf yX5_goalOf ∈ wsL_law := in_r23 _ (List.mem_of_getElem? (i := 0) rfl)
theorem mw_529 : Cond.code yX5_goalOf cX5_goalOf 4 (some .int) ∈ wsL_law := in_r23 _ (List.mem_of_getElem? (i := 1) rfl)
theorem mw_530 : Cond.methodLink RL 102 yX4_goes ∈ wsL_law := in_r23 _ (List.mem_of_getElem? (i := 2) rfl)
theorem mw_531 : Cond.instanceMethod yX4_goes ∈ wsL_law := in_r23 _ (List.mem_of_getElem? (i := 3) rfl)
theorem mw_532 : Cond.selects RX4 yX4_goes yX4_goes ∈ wsL_law := in_r23 _ (List.mem_of_getElem? (i := 4) rfl)
theorem mw_533 : Cond.code yX4_goes cX4_goes 4 (some .int) ∈ wsL_law := in_r23 _ (List.mem_of_getElem? (i := 5) rfl)
theorem mw_534 : Cond.methodLink RX4 157 yX0_howMany ∈ wsL_law := in_r23 _ (List.mem_of_getElem? (i := 6) rfl)
theorem mw_535 : Cond.methodLink RX4 158 yX0_firstWithin ∈ wsL_law := in_r23 _ (List.mem_of_getElem? (i := 7) rfl)
theorem mw_536 : Cond.instanceMethod yX0_firstWithin ∈ wsL_law := in_r23 _ (List.mem_of_getElem? (i := 8) rfl)
theorem mw_537 : Cond.selects RX0 yX0_firstWithin yX0_firstWithin ∈ wsL_law := in_r23 _ (List.mem_of_getElem? (i := 9) rfl)
theorem mw_538 : Cond.code yX0_firstWithin cX0_firstWithin 9 (some .int) ∈ wsL_law := in_r23 _ (List.mem_of_getElem? (i := 10) rfl)
theorem mw_539 : Cond.methodLink RX0 43 yX0_nextDealt ∈ wsL_law := in_r23 _ (List.mem_of_getElem? (i := 11) rfl)
theorem mw_540 : Cond.instanceMethod yX0_nextDealt ∈ wsL_law := in_r23 _ (List.mem_of_getElem? (i := 12) rfl)
theorem mw_541 : Cond.selects RX0 yX0_nextDealt yX0_nextDealt ∈ wsL_law := in_r23 _ (List.mem_of_getElem? (i := 13) rfl)
theorem mw_542 : Cond.code yX0_nextDealt cX0_nextDealt 6 (some .int) ∈ wsL_law := in_r23 _ (List.mem_of_getElem? (i := 14) rfl)
theorem mw_543 : Cond.methodLink RL 105 yX5_goes ∈ wsL_law := in_r23 _ (List.mem_of_getElem? (i := 15) rfl)
theorem mw_544 : Cond.instanceMethod yX5_goes ∈ wsL_law := in_r23 _ (List.mem_of_getElem? (i := 16) rfl)
theorem mw_545 : Cond.selects RX5 yX5_goes yX5_goes ∈ wsL_law := in_r23 _ (List.mem_of_getElem? (i := 17) rfl)
theorem mw_546 : Cond.code yX5_goes cX5_goes 4 (some .int) ∈ wsL_law := in_r23 _ (List.mem_of_getElem? (i := 18) rfl)
theorem mw_547 : Cond.methodLink RL 106 yX4_count ∈ wsL_law := in_r23 _ (List.mem_of_getElem? (i := 19) rfl)
theorem mw_548 : Cond.instanceMethod yX4_count ∈ wsL_law := in_r23 _ (List.mem_of_getElem? (i := 20) rfl)
theorem mw_549 : Cond.selects RX4 yX4_count yX4_count ∈ wsL_law := in_r23 _ (List.mem_of_getElem? (i := 21) rfl)
theorem mw_550 : Cond.code yX4_count cX4_count 2 (some .int) ∈ wsL_law := in_r23 _ (List.mem_of_getElem? (i := 22) rfl)
theorem mw_551 : Cond.methodLink RL 109 yX5_count ∈ wsL_law := in_r23 _ (List.mem_of_getElem? (i := 23) rfl)
theorem mw_552 : Cond.instanceMethod yX5_count ∈ wsL_law := in_r24 _ (List.mem_of_getElem? (i := 0) rfl)
theorem mw_553 : Cond.selects RX5 yX5_count yX5_count ∈ wsL_law := in_r24 _ (List.mem_of_getElem? (i := 1) rfl)
theorem mw_554 : Cond.code yX5_count cX5_count 6 (some .int) ∈ wsL_law := in_r24 _ (List.mem_of_getElem? (i := 2) rfl)
theorem mw_555 : Cond.methodLink RL 110 yX4_digest ∈ wsL_law := in_r24 _ (List.mem_of_getElem? (i := 3) rfl)
theorem mw_556 : Cond.instanceMethod yX4_digest ∈ wsL_law := in_r24 _ (List.mem_of_getElem? (i := 4) rfl)
theorem mw_557 : Cond.selects RX4 yX4_digest yX4_digest ∈ wsL_law := in_r24 _ (List.mem_of_getElem? (i := 5) rfl)
theorem mw_558 : Cond.code yX4_digest cX4_digest 6 (some .long) ∈ wsL_law := in_r24 _ (List.mem_of_getElem? (i := 6) rfl)
theorem mw_559 : Cond.constantLong RX4 164 (197) ∈ wsL_law := in_r24 _ (List.mem_of_getElem? (i := 7) rfl)
theorem mw_560 : Cond.methodLink RX4 166 yX4_taken ∈ wsL_law := in_r24 _ (List.mem_of_getElem? (i := 8) rfl)
theorem mw_561 : Cond.static yX4_taken ∈ wsL_law := in_r24 _ (List.mem_of_getElem? (i := 9) rfl)
theorem mw_562 : Cond.code yX4_taken cX4_taken 4 (some .long) ∈ wsL_law := in_r24 _ (List.mem_of_getElem? (i := 10) rfl)
theorem mw_563 : Cond.constantLong RX4 170 (31) ∈ wsL_law := in_r24 _ (List.mem_of_getElem? (i := 11) rfl)
theorem mw_564 : Cond.methodLink RL 114 yX5_digest ∈ wsL_law := in_r24 _ (List.mem_of_getElem? (i := 12) rfl)
theorem mw_565 : Cond.instanceMethod yX5_digest ∈ wsL_law := in_r24 _ (List.mem_of_getElem? (i := 13) rfl)
theorem mw_566 : Cond.selects RX5 yX5_digest yX5_digest ∈ wsL_law := in_r24 _ (List.mem_of_getElem? (i := 14) rfl)
theorem mw_567 : Cond.code yX5_digest cX5_digest 3 (some .long) ∈ wsL_law := in_r24 _ (List.mem_of_getElem? (i := 15) rfl)
theorem mw_568 : Cond.constantLong RX5 126 (197) ∈ wsL_law := in_r24 _ (List.mem_of_getElem? (i := 16) rfl)
theorem mw_569 : Cond.fieldLink RX5 123 "HugTreesModel" "h" "J" ∈ wsL_law := in_r24 _ (List.mem_of_getElem? (i := 17) rfl)
theorem mw_570 : Cond.methodLink RX5 128 yX5_mix ∈ wsL_law := in_r24 _ (List.mem_of_getElem? (i := 18) rfl)
theorem mw_571 : Cond.instanceMethod yX5_mix ∈ wsL_law := in_r24 _ (List.mem_of_getElem? (i := 19) rfl)
theorem mw_572 : Cond.selects RX5 yX5_mix yX5_mix ∈ wsL_law := in_r24 _ (List.mem_of_getElem? (i := 20) rfl)
theorem mw_573 : Cond.code yX5_mix cX5_mix 3 none ∈ wsL_law := in_r24 _ (List.mem_of_getElem? (i := 21) rfl)
theorem mw_574 : Cond.constantLong RX5 121 (31) ∈ wsL_law := in_r24 _ (List.mem_of_getElem? (i := 22) rfl)
def MW (y : MethodName) (b : ByteArray) (n : Nat) (r : Option FieldType) (k : Nat) : Prop := Cond.initialized y.cls ∈ wsL_law ∧ Cond.code y b n r ∈ wsL_law ∧ (y.cls ≠ "java/lang/invoke/MethodHandle" ∧ y.cls ≠ "java/lang/invoke/VarHandle" ∧ (parseMethodDescriptor y.desc).map (fun d => d.parameters.length) = some k)
def MV (y : MethodName) (b : ByteArray) (n : Nat) (r : Option FieldType) (k : Nat) : Prop := MW y b n r k ∧ Cond.instanceMethod y ∈ wsL_law ∧ Cond.selects y.cls y y ∈ wsL_law
def MS (y : MethodName) (b : ByteArray) (n : Nat) (r : Option FieldType) (k : Nat) : Prop := MW y b n r k ∧ Cond.static y ∈ wsL_law
theorem mv_yX3_begin : MV yX3_begin cX3_begin 3 none 1 := ⟨⟨mw_14, mw_61, by decide +kernel⟩, mw_59, mw_60⟩
theorem ms_yJ7_fill_53178 : MS yJ7_fill_53178 cJ7_fill_53178 4 none 2 := ⟨⟨mw_65, mw_66, by decide +kernel⟩, mw_64⟩
theorem mv_yX5_begin : MV yX5_begin cX5_begin 3 none 0 := ⟨⟨mw_5, mw_82, by decide +kernel⟩, mw_80, mw_81⟩
theorem mv_yX4_points : MV yX4_points cX4_points 2 (some .int) 1 := ⟨⟨mw_2, mw_86, by decide +kernel⟩, mw_84, mw_85⟩
theorem mv_yX5_points : MV yX5_points cX5_points 2 (some .int) 1 := ⟨⟨mw_5, mw_90, by decide +kernel⟩, mw_88, mw_89⟩
theorem ms_yX5_in : MS yX5_in cX5_in 3 (some .boolean) 3 := ⟨⟨mw_5, mw_93, by decide +kernel⟩, mw_92⟩
theorem mv_yX4_set : MV yX4_set cX4_set 5 (some .int) 3 := ⟨⟨mw_2, mw_97, by decide +kernel⟩, mw_95, mw_96⟩
theorem mv_yX4_areKnown : MV yX4_areKnown cX4_areKnown 3 (some .boolean) 2 := ⟨⟨mw_2, mw_101, by decide +kernel⟩, mw_99, mw_100⟩
theorem mv_yX4_isKnown : MV yX4_isKnown cX4_isKnown 2 (some .boolean) 1 := ⟨⟨mw_2, mw_105, by decide +kernel⟩, mw_103, mw_104⟩
theorem mv_yX3_put : MV yX3_put cX3_put 4 none 3 := ⟨⟨mw_14, mw_109, by decide +kernel⟩, mw_107, mw_108⟩
theorem mv_yX5_set : MV yX5_set cX5_set 5 (some .int) 3 := ⟨⟨mw_5, mw_113, by decide +kernel⟩, mw_111, mw_112⟩
theorem mv_yX5_isPoint : MV yX5_isPoint cX5_isPoint 2 (some .boolean) 1 := ⟨⟨mw_5, mw_117, by decide +kernel⟩, mw_115, mw_116⟩
theorem mv_yX4_get : MV yX4_get cX4_get 3 (some .int) 2 := ⟨⟨mw_2, mw_121, by decide +kernel⟩, mw_119, mw_120⟩
theorem mv_yX5_get : MV yX5_get cX5_get 3 (some .int) 2 := ⟨⟨mw_5, mw_125, by decide +kernel⟩, mw_123, mw_124⟩
theorem mv_yX5_d : MV yX5_d cX5_d 3 (some .int) 2 := ⟨⟨mw_5, mw_129, by decide +kernel⟩, mw_127, mw_128⟩
theorem mv_yX4_is : MV yX4_is cX4_is 2 (some .int) 1 := ⟨⟨mw_2, mw_133, by decide +kernel⟩, mw_131, mw_132⟩
theorem mv_yX3_brokenThrees : MV yX3_brokenThrees cX3_brokenThrees 5 (some .int) 1 := ⟨⟨mw_14, mw_137, by decide +kernel⟩, mw_135, mw_136⟩
theorem mv_yX3_shorterBy : MV yX3_shorterBy cX3_shorterBy 6 (some .int) 3 := ⟨⟨mw_14, mw_141, by decide +kernel⟩, mw_139, mw_140⟩
theorem ms_yX3_together : MS yX3_together cX3_together 3 (some .int) 3 := ⟨⟨mw_14, mw_144, by decide +kernel⟩, mw_143⟩
theorem ms_yX4_asAnswer : MS yX4_asAnswer cX4_asAnswer 1 (some .int) 1 := ⟨⟨mw_2, mw_151, by decide +kernel⟩, mw_150⟩
theorem mv_yX4_isNear : MV yX4_isNear cX4_isNear 1 (some .boolean) 0 := ⟨⟨mw_2, mw_155, by decide +kernel⟩, mw_153, mw_154⟩
theorem mv_yX3_brokenFours : MV yX3_brokenFours cX3_brokenFours 5 (some .int) 0 := ⟨⟨mw_14, mw_159, by decide +kernel⟩, mw_157, mw_158⟩
theorem mv_yX3_brokenFoursFrom : MV yX3_brokenFoursFrom cX3_brokenFoursFrom 6 (some .int) 3 := ⟨⟨mw_14, mw_163, by decide +kernel⟩, mw_161, mw_162⟩
theorem ms_yX3_twoGreatestAlike : MS yX3_twoGreatestAlike cX3_twoGreatestAlike 4 (some .boolean) 3 := ⟨⟨mw_14, mw_166, by decide +kernel⟩, mw_165⟩
theorem mv_yX5_is : MV yX5_is cX5_is 2 (some .int) 1 := ⟨⟨mw_5, mw_170, by decide +kernel⟩, mw_168, mw_169⟩
theorem mv_yX5_brokenOf : MV yX5_brokenOf cX5_brokenOf 7 (some .int) 1 := ⟨⟨mw_5, mw_174, by decide +kernel⟩, mw_172, mw_173⟩
theorem ms_yX5_greater : MS yX5_greater cX5_greater 2 (some .int) 2 := ⟨⟨mw_5, mw_177, by decide +kernel⟩, mw_176⟩
theorem mv_yX5_areFour : MV yX5_areFour cX5_areFour 9 (some .boolean) 4 := ⟨⟨mw_5, mw_181, by decide +kernel⟩, mw_179, mw_180⟩
theorem mv_yX4_broken : MV yX4_broken cX4_broken 2 (some .int) 1 := ⟨⟨mw_2, mw_185, by decide +kernel⟩, mw_183, mw_184⟩
theorem mv_yX5_broken : MV yX5_broken cX5_broken 2 (some .int) 1 := ⟨⟨mw_5, mw_189, by decide +kernel⟩, mw_187, mw_188⟩
theorem mv_yX4_mend : MV yX4_mend cX4_mend 1 (some .int) 0 := ⟨⟨mw_2, mw_193, by decide +kernel⟩, mw_191, mw_192⟩
theorem mv_yX3_closed : MV yX3_closed cX3_closed 3 (some (.array (.array .int))) 1 := ⟨⟨mw_14, mw_197, by decide +kernel⟩, mw_195, mw_196⟩
theorem mv_yX3_shortenBy : MV yX3_shortenBy cX3_shortenBy 5 none 2 := ⟨⟨mw_14, mw_205, by decide +kernel⟩, mw_203, mw_204⟩
theorem mv_yX3_become : MV yX3_become cX3_become 5 (some .int) 1 := ⟨⟨mw_14, mw_212, by decide +kernel⟩, mw_210, mw_211⟩
theorem mv_yX5_mend : MV yX5_mend cX5_mend 1 (some .int) 0 := ⟨⟨mw_5, mw_217, by decide +kernel⟩, mw_215, mw_216⟩
theorem mv_yX5_make : MV yX5_make cX5_make 6 none 1 := ⟨⟨mw_5, mw_221, by decide +kernel⟩, mw_219, mw_220⟩
theorem mv_yX5_become : MV yX5_become cX5_become 4 (some .int) 0 := ⟨⟨mw_5, mw_225, by decide +kernel⟩, mw_223, mw_224⟩
theorem mv_yX4_low : MV yX4_low cX4_low 3 (some .int) 2 := ⟨⟨mw_2, mw_229, by decide +kernel⟩, mw_227, mw_228⟩
theorem mv_yX5_low : MV yX5_low cX5_low 3 (some .int) 2 := ⟨⟨mw_5, mw_233, by decide +kernel⟩, mw_231, mw_232⟩
theorem mv_yX4_gap : MV yX4_gap cX4_gap 1 (some .int) 0 := ⟨⟨mw_2, mw_237, by decide +kernel⟩, mw_235, mw_236⟩
theorem mv_yX3_greatestAbove : MV yX3_greatestAbove cX3_greatestAbove 5 (some .int) 1 := ⟨⟨mw_14, mw_241, by decide +kernel⟩, mw_239, mw_240⟩
theorem mv_yX5_gap : MV yX5_gap cX5_gap 4 (some .int) 0 := ⟨⟨mw_5, mw_245, by decide +kernel⟩, mw_243, mw_244⟩
theorem mv_yX4_groups : MV yX4_groups cX4_groups 2 (some .int) 1 := ⟨⟨mw_2, mw_249, by decide +kernel⟩, mw_247, mw_248⟩
theorem ms_yX4_isReach : MS yX4_isReach cX4_isReach 1 (some .boolean) 1 := ⟨⟨mw_2, mw_252, by decide +kernel⟩, mw_251⟩
theorem mv_yX3_groupsWithin : MV yX3_groupsWithin cX3_groupsWithin 7 (some .int) 1 := ⟨⟨mw_14, mw_256, by decide +kernel⟩, mw_254, mw_255⟩
theorem mv_yX5_groups : MV yX5_groups cX5_groups 6 (some .int) 1 := ⟨⟨mw_5, mw_261, by decide +kernel⟩, mw_259, mw_260⟩
theorem mv_yX4_lower : MV yX4_lower cX4_lower 1 (some .int) 0 := ⟨⟨mw_2, mw_265, by decide +kernel⟩, mw_263, mw_264⟩
theorem mv_yX5_lower : MV yX5_lower cX5_lower 1 (some .int) 0 := ⟨⟨mw_5, mw_269, by decide +kernel⟩, mw_267, mw_268⟩
theorem mv_yX4_codes : MV yX4_codes cX4_codes 1 (some .int) 0 := ⟨⟨mw_2, mw_273, by decide +kernel⟩, mw_271, mw_272⟩
theorem mv_yX1_howMany : MV yX1_howMany cX1_howMany 3 (some .int) 0 := ⟨⟨mw_18, mw_277, by decide +kernel⟩, mw_275, mw_276⟩
theorem mv_yX5_codes : MV yX5_codes cX5_codes 1 (some .int) 0 := ⟨⟨mw_5, mw_281, by decide +kernel⟩, mw_279, mw_280⟩
theorem mv_yX5_codeMany : MV yX5_codeMany cX5_codeMany 3 (some .int) 0 := ⟨⟨mw_5, mw_285, by decide +kernel⟩, mw_283, mw_284⟩
theorem mv_yX4_joined : MV yX4_joined cX4_joined 4 (some .int) 3 := ⟨⟨mw_2, mw_289, by decide +kernel⟩, mw_287, mw_288⟩
theorem mv_yX4_isCode : MV yX4_isCode cX4_isCode 2 (some .boolean) 1 := ⟨⟨mw_2, mw_293, by decide +kernel⟩, mw_291, mw_292⟩
theorem mv_yX1_read : MV yX1_read cX1_read 4 none 1 := ⟨⟨mw_18, mw_297, by decide +kernel⟩, mw_295, mw_296⟩
theorem mv_yX1_readFigures : MV yX1_readFigures cX1_readFigures 5 none 1 := ⟨⟨mw_18, mw_301, by decide +kernel⟩, mw_299, mw_300⟩
theorem mv_yX1_takeLeast : MV yX1_takeLeast cX1_takeLeast 2 (some .int) 0 := ⟨⟨mw_18, mw_306, by decide +kernel⟩, mw_304, mw_305⟩
theorem mv_yX1_joins : MV yX1_joins cX1_joins 5 (some .boolean) 2 := ⟨⟨mw_18, mw_310, by decide +kernel⟩, mw_308, mw_309⟩
theorem mv_yX5_joined : MV yX5_joined cX5_joined 4 (some .int) 3 := ⟨⟨mw_5, mw_314, by decide +kernel⟩, mw_312, mw_313⟩
theorem mv_yX5_isCode : MV yX5_isCode cX5_isCode 2 (some .boolean) 1 := ⟨⟨mw_5, mw_318, by decide +kernel⟩, mw_316, mw_317⟩
theorem mv_yX5_lay : MV yX5_lay cX5_lay 6 none 1 := ⟨⟨mw_5, mw_322, by decide +kernel⟩, mw_320, mw_321⟩
theorem mv_yX5_leaf : MV yX5_leaf cX5_leaf 2 (some .int) 0 := ⟨⟨mw_5, mw_326, by decide +kernel⟩, mw_324, mw_325⟩
theorem mv_yX5_join : MV yX5_join cX5_join 3 none 2 := ⟨⟨mw_5, mw_330, by decide +kernel⟩, mw_328, mw_329⟩
theorem mv_yX4_way : MV yX4_way cX4_way 4 (some .int) 3 := ⟨⟨mw_2, mw_334, by decide +kernel⟩, mw_332, mw_333⟩
theorem mv_yX1_lay : MV yX1_lay cX1_lay 5 none 1 := ⟨⟨mw_18, mw_338, by decide +kernel⟩, mw_336, mw_337⟩
theorem mv_yX1_layWay : MV yX1_layWay cX1_layWay 5 none 2 := ⟨⟨mw_18, mw_343, by decide +kernel⟩, mw_341, mw_342⟩
theorem mv_yX5_way : MV yX5_way cX5_way 4 (some .int) 3 := ⟨⟨mw_5, mw_347, by decide +kernel⟩, mw_345, mw_346⟩
theorem mv_yX5_go : MV yX5_go cX5_go 6 none 1 := ⟨⟨mw_5, mw_351, by decide +kernel⟩, mw_349, mw_350⟩
theorem mv_yX4_stretch : MV yX4_stretch cX4_stretch 5 (some .long) 2 := ⟨⟨mw_2, mw_356, by decide +kernel⟩, mw_354, mw_355⟩
theorem mv_yX1_findStretch : MV yX1_findStretch cX1_findStretch 3 none 0 := ⟨⟨mw_18, mw_361, by decide +kernel⟩, mw_359, mw_360⟩
theorem ms_yX4_greatestDivisor : MS yX4_greatestDivisor cX4_greatestDivisor 6 (some .int) 2 := ⟨⟨mw_2, mw_364, by decide +kernel⟩, mw_363⟩
theorem mv_yX5_stretch : MV yX5_stretch cX5_stretch 9 (some .long) 2 := ⟨⟨mw_5, mw_368, by decide +kernel⟩, mw_366, mw_367⟩
theorem mv_yX5_stretchNow : MV yX5_stretchNow cX5_stretchNow 3 none 0 := ⟨⟨mw_5, mw_375, by decide +kernel⟩, mw_373, mw_374⟩
theorem mv_yX4_spread : MV yX4_spread cX4_spread 2 (some .int) 1 := ⟨⟨mw_2, mw_379, by decide +kernel⟩, mw_377, mw_378⟩
theorem mv_yX3_sumOf : MV yX3_sumOf cX3_sumOf 5 (some .int) 1 := ⟨⟨mw_14, mw_383, by decide +kernel⟩, mw_381, mw_382⟩
theorem mv_yX5_spread : MV yX5_spread cX5_spread 2 (some .int) 1 := ⟨⟨mw_5, mw_387, by decide +kernel⟩, mw_385, mw_386⟩
theorem mv_yX5_spreadNow : MV yX5_spreadNow cX5_spreadNow 4 (some .int) 0 := ⟨⟨mw_5, mw_391, by decide +kernel⟩, mw_389, mw_390⟩
theorem mv_yX4_best : MV yX4_best cX4_best 2 (some .int) 1 := ⟨⟨mw_2, mw_395, by decide +kernel⟩, mw_393, mw_394⟩
theorem mv_yX1_leastByStretch : MV yX1_leastByStretch cX1_leastByStretch 6 (some .int) 0 := ⟨⟨mw_18, mw_399, by decide +kernel⟩, mw_397, mw_398⟩
theorem mv_yX1_leastBySpread : MV yX1_leastBySpread cX1_leastBySpread 6 (some .int) 0 := ⟨⟨mw_18, mw_406, by decide +kernel⟩, mw_404, mw_405⟩
theorem mv_yX5_best : MV yX5_best cX5_best 12 (some .int) 1 := ⟨⟨mw_5, mw_411, by decide +kernel⟩, mw_409, mw_410⟩
theorem mv_yX4_grow : MV yX4_grow cX4_grow 2 (some .int) 1 := ⟨⟨mw_2, mw_416, by decide +kernel⟩, mw_414, mw_415⟩
theorem mv_yX3_greatestOf : MV yX3_greatestOf cX3_greatestOf 5 (some .int) 1 := ⟨⟨mw_14, mw_420, by decide +kernel⟩, mw_418, mw_419⟩
theorem mv_yX5_grow : MV yX5_grow cX5_grow 5 (some .int) 1 := ⟨⟨mw_5, mw_424, by decide +kernel⟩, mw_422, mw_423⟩
theorem mv_yX4_weight : MV yX4_weight cX4_weight 2 (some .int) 1 := ⟨⟨mw_2, mw_428, by decide +kernel⟩, mw_426, mw_427⟩
theorem mv_yX2_isPart : MV yX2_isPart cX2_isPart 2 (some .boolean) 1 := ⟨⟨mw_22, mw_432, by decide +kernel⟩, mw_430, mw_431⟩
theorem mv_yX2_allPoints : MV yX2_allPoints cX2_allPoints 1 (some .int) 0 := ⟨⟨mw_22, mw_436, by decide +kernel⟩, mw_434, mw_435⟩
theorem ms_yX2_isIn : MS yX2_isIn cX2_isIn 2 (some .boolean) 2 := ⟨⟨mw_22, mw_439, by decide +kernel⟩, mw_438⟩
theorem mv_yX2_weigh : MV yX2_weigh cX2_weigh 5 (some .int) 1 := ⟨⟨mw_22, mw_443, by decide +kernel⟩, mw_441, mw_442⟩
theorem mv_yX2_leastAcross : MV yX2_leastAcross cX2_leastAcross 7 (some .int) 3 := ⟨⟨mw_22, mw_448, by decide +kernel⟩, mw_446, mw_447⟩
theorem mv_yX2_across : MV yX2_across cX2_across 9 (some .int) 4 := ⟨⟨mw_22, mw_452, by decide +kernel⟩, mw_450, mw_451⟩
theorem mv_yX5_weight : MV yX5_weight cX5_weight 2 (some .int) 1 := ⟨⟨mw_5, mw_457, by decide +kernel⟩, mw_455, mw_456⟩
theorem mv_yX5_isPart : MV yX5_isPart cX5_isPart 2 (some .boolean) 1 := ⟨⟨mw_5, mw_461, by decide +kernel⟩, mw_459, mw_460⟩
theorem mv_yX5_weightOf : MV yX5_weightOf cX5_weightOf 10 (some .int) 1 := ⟨⟨mw_5, mw_465, by decide +kernel⟩, mw_463, mw_464⟩
theorem mv_yX4_parts : MV yX4_parts cX4_parts 1 (some .int) 0 := ⟨⟨mw_2, mw_469, by decide +kernel⟩, mw_467, mw_468⟩
theorem mv_yX2_howManyWeigh : MV yX2_howManyWeigh cX2_howManyWeigh 3 (some .int) 0 := ⟨⟨mw_22, mw_473, by decide +kernel⟩, mw_471, mw_472⟩
theorem mv_yX5_parts : MV yX5_parts cX5_parts 3 (some .int) 0 := ⟨⟨mw_5, mw_478, by decide +kernel⟩, mw_476, mw_477⟩
theorem mv_yX4_rest : MV yX4_rest cX4_rest 3 (some .int) 2 := ⟨⟨mw_2, mw_482, by decide +kernel⟩, mw_480, mw_481⟩
theorem mv_yX2_leftOf : MV yX2_leftOf cX2_leftOf 5 (some .int) 2 := ⟨⟨mw_22, mw_486, by decide +kernel⟩, mw_484, mw_485⟩
theorem mv_yX5_rest : MV yX5_rest cX5_rest 5 (some .int) 2 := ⟨⟨mw_5, mw_490, by decide +kernel⟩, mw_488, mw_489⟩
theorem mv_yX4_drawn : MV yX4_drawn cX4_drawn 4 (some .int) 3 := ⟨⟨mw_2, mw_494, by decide +kernel⟩, mw_492, mw_493⟩
theorem mv_yX0_ordersThatPart : MV yX0_ordersThatPart cX0_ordersThatPart 6 (some .int) 3 := ⟨⟨mw_26, mw_498, by decide +kernel⟩, mw_496, mw_497⟩
theorem mv_yX0_reached : MV yX0_reached cX0_reached 5 (some .int) 2 := ⟨⟨mw_26, mw_502, by decide +kernel⟩, mw_500, mw_501⟩
theorem ms_yJ6_bitCount_0f7a4 : MS yJ6_bitCount_0f7a4 cJ6_bitCount_0f7a4 1 (some .int) 1 := ⟨⟨mw_505, mw_506, by decide +kernel⟩, mw_504⟩
theorem mv_yX0_howMany : MV yX0_howMany cX0_howMany 1 (some .int) 0 := ⟨⟨mw_26, mw_513, by decide +kernel⟩, mw_511, mw_512⟩
theorem mv_yX5_drawn : MV yX5_drawn cX5_drawn 6 (some .int) 3 := ⟨⟨mw_5, mw_517, by decide +kernel⟩, mw_515, mw_516⟩
theorem mv_yX5_orders : MV yX5_orders cX5_orders 3 (some .int) 0 := ⟨⟨mw_5, mw_521, by decide +kernel⟩, mw_519, mw_520⟩
theorem mv_yX5_draw : MV yX5_draw cX5_draw 8 none 1 := ⟨⟨mw_5, mw_525, by decide +kernel⟩, mw_523, mw_524⟩
theorem mv_yX5_goalOf : MV yX5_goalOf cX5_goalOf 4 (some .int) 2 := ⟨⟨mw_5, mw_529, by decide +kernel⟩, mw_527, mw_528⟩
theorem mv_yX4_goes : MV yX4_goes cX4_goes 4 (some .int) 3 := ⟨⟨mw_2, mw_533, by decide +kernel⟩, mw_531, mw_532⟩
theorem mv_yX0_firstWithin : MV yX0_firstWithin cX0_firstWithin 9 (some .int) 3 := ⟨⟨mw_26, mw_538, by decide +kernel⟩, mw_536, mw_537⟩
theorem mv_yX0_nextDealt : MV yX0_nextDealt cX0_nextDealt 6 (some .int) 3 := ⟨⟨mw_26, mw_542, by decide +kernel⟩, mw_540, mw_541⟩
theorem mv_yX5_goes : MV yX5_goes cX5_goes 4 (some .int) 3 := ⟨⟨mw_5, mw_546, by decide +kernel⟩, mw_544, mw_545⟩
theorem mv_yX4_count : MV yX4_count cX4_count 2 (some .int) 1 := ⟨⟨mw_2, mw_550, by decide +kernel⟩, mw_548, mw_549⟩
theorem mv_yX5_count : MV yX5_count cX5_count 6 (some .int) 1 := ⟨⟨mw_5, mw_554, by decide +kernel⟩, mw_552, mw_553⟩
theorem mv_yX4_digest : MV yX4_digest cX4_digest 6 (some .long) 0 := ⟨⟨mw_2, mw_558, by decide +kernel⟩, mw_556, mw_557⟩
theorem ms_yX4_taken : MS yX4_taken cX4_taken 4 (some .long) 2 := ⟨⟨mw_2, mw_562, by decide +kernel⟩, mw_561⟩
theorem mv_yX5_digest : MV yX5_digest cX5_digest 3 (some .long) 0 := ⟨⟨mw_5, mw_567, by decide +kernel⟩, mw_565, mw_566⟩
theorem mv_yX5_mix : MV yX5_mix cX5_mix 3 none 1 := ⟨⟨mw_5, mw_573, by decide +kernel⟩, mw_571, mw_572⟩
theorem w_max_static : Cond.static Lib.Math.max.name ∈ wsL_law := mw_146
theorem w_min_static : Cond.static Lib.Math.min.name ∈ wsL_law := mw_207
theorem w_math_ini : Cond.initialized "java/lang/Math" ∈ wsL_law := mw_147
theorem w_max_code : Cond.code Lib.Math.max.name Lib.Math.max.code 2 (some .int) ∈ wsL_law := mw_148
theorem w_min_code : Cond.code Lib.Math.min.name Lib.Math.min.code 2 (some .int) ∈ wsL_law := mw_208
theorem UP.calling {D : va_G} {tys : List (ClassId × FieldType)} {N : Nat} {ad : Nat → Nat} {fa : Nat} {cf : Nat → va_E} {U : State} {g : JFrame} {mk : MethodId} {a : Array Value} (h : UP D tys N ad fa cf U) : UP D tys N ad fa cf (U.calling g mk a) := by
  obtain ⟨h1, h2, h3, h4, h5, h6⟩ := h
  exact ⟨h1, va_K.moved (u := U) (U := U.calling g mk a) (Vm.Alike.refl U.vm) h2, h3, NW.same (u := U) (U := U.calling g mk a) rfl h4, va_Z.moved (u := U) (U := U.calling g mk a) (Vm.Alike.refl U.vm) h5, va_T.moved (u := U) (U := U.calling g mk a) (Vm.Alike.refl U.vm) h6⟩
section UCALL
variable {p : Program} {l : Launch} {e : Env} {R : Room} {s : State} {m : MethodId} {args : Array Value} {below : List Frame} {meth : Method} {c : Code} {H : Heap} {locs : List Loc} {Q : State → Prop}
variable {cc : ByteArray} {nL pc : Nat} {own : String} {ls : Array Slot} {rest : List Value} {D : va_G} {A : Nat → Prop} {tys : List (ClassId × FieldType)} {N : Nat} {ad : Nat → Nat} {fa : Nat} {cf cf' : Nat → va_E} {o : Option Value}
theorem Cx.sub (C : Cx p s m args meth c cc nL own D tys fa A) (hW : Wd D N ad cf A s.heap H locs) : ∀ q, UA N ad H.size q → A q := by
  intro q h
  rcases h with ⟨k, hk, rfl⟩ | h
  · exact hW.2.1.2 k _ (uw_get hk)
  · exact C.2.2.2.2.2.2.2.2.1 q (Nat.le_trans hW.2.2.1 h)
theorem Cx.up (C : Cx p s m args meth c cc nL own D tys fa A) (hW : Wd D N ad cf A s.heap H locs) {U : State} (hU : U.heap = H) (hw : s.WarmedH U.vm) : UP D tys N ad fa cf U := by
  subst hU
  have hsub := Cx.sub C hW
  have hkeep : ∀ a : Nat, a < s.heap.size → ¬ A a → U.heap[a]? = s.heap[a]? := hW.2.2.2.1
  have hF := C.2.2.2.2.2.2.2.2.2
  exact ⟨hW.1, va_K.moved hw.alike C.2.2.2.2.2.1, ⟨hW.2.1.1, fun _ _ _ => trivial⟩, C.2.2.2.2.2.2.1.warm hw, ((hF.1.kept hkeep).moved hw.alike).narrow hsub, ((hF.2.kept hkeep).moved hw.alike).narrow hsub⟩
theorem u_run {st0 : List Value} {a : Array Value} {A1 : Nat → Prop} {free : Addr → Prop} (hr : va_Run p l e R s m args below meth c H locs 0 0 0 0 (F0 m pc ls st0) rest (uQ D N ad cf' o A1 a) free) (hW : Wd D N ad cf A s.heap H locs) (hA1 : ∀ q, A1 q → A q) (hfree : ∀ q, free q → A q)
    (kk : ∀ (H1 : Heap) (locs1 : List Loc), Wd D N ad cf' A s.heap H1 locs1 → W p l e R s m args below meth c H1 locs1 0 0 Q (F0 m (pc + 3) ls (o.toList ++ rest))) : W p l e R s m args below meth c H locs 0 0 Q (F0 m pc ls st0) := by
  intro T hT X
  obtain ⟨v, st₀, t, T', L, h0, X', hL, e1, e2, ⟨⟨hv, hp⟩, hz, hk⟩, st⟩ := hr T hT X
  cases hv
  rw [h0] at hz hk
  obtain ⟨t2, a1, b1⟩ := kk T'.heap (locs ++ L) ⟨by rw [e1]; exact hp, uw_D hW.2.1, ⟨Nat.le_trans hW.2.2.1 (by rw [e1]; exact hz), fun q h1 h2 => by rw [e1, hk q (Nat.lt_of_lt_of_le h1 hW.2.2.1) (fun z => h2 (hA1 q z))]; exact hW.2.2.2.1 q h1 h2, fun q hq => (List.mem_append.mp hq).elim (hW.2.2.2.2 q) (fun h => hfree _ (hL q h))⟩⟩ T' rfl X'
  exact ⟨t2, st t2 a1, b1⟩
theorem u_blind {As : List Value} {sz : Nat} : FrameBlind (va_Pc As (fun U => U.heap.size = sz ∧ UP D tys N ad fa cf U)) := fun a U g mk q => by
  obtain ⟨q1, q2, q3⟩ := q
  exact ⟨q1, q2, q3.calling⟩
theorem u_callV {y : MethodName} {b : ByteArray} {maxL : Nat} {ret : Option FieldType} {rm : Room} {index k ci n : Nat} {q : vw_C} {As : List Value} {fs : List Value} {st0 st1 : List Value} (C : Cx p s m args meth c cc nL own D tys fa A) (hW : Wd D N ad cf A s.heap H locs)
    (hM : Ct l y (Cond.code y b maxL ret :: wsL_law) rm D tys N ad fa (.ref (ad k) :: As) cf cf' o) (mv : MV y b maxL ret n) (hl : Cond.methodLink own index y ∈ wsL_law) (hn : As.length = n)
    (hR : rm.cells = 0 ∧ rm.slots = 0 ∧ rm.frames + 1 ≤ R.frames ∧ 8 + (maxL + 11) + rm.locals ≤ R.locals) (hk : k < N) (he : cf k = .inr (ci, fs)) (hc : vwCl[ci]? = some q) (hq : q.1 = y.cls) {lv : List (Nat × Value)} (hls : lv_has ls nL lv) (hroom : (rest.map fun v => v.category).sum ≤ 8)
    (hst : st0 = As.reverse ++ .ref (ad k) :: rest) (hst1 : o.toList ++ rest = st1) (hdg : decode cc pc = .ok (.invokevirtual index, 3))
    (kk : ∀ (H1 : Heap) (locs1 : List Loc), Wd D N ad cf' A s.heap H1 locs1 → W p l e R s m args below meth c H1 locs1 0 0 Q (F0 m (pc + 3) ls st1)) : W p l e R s m args below meth c H locs 0 0 Q (F0 m pc ls st0) := by
  subst hst; subst hst1
  obtain ⟨⟨w1, w2, w3⟩, w4, w5⟩ := mv
  have hts := C.2.2.2.2.1
  have hcb : CallB R s args own index y b maxL ret (Cond.code y b maxL ret :: wsL_law) rm 0 0 n := callB_of n hts (wU_good w2) rfl hR.1 hR.2.1 (hts _ w1) (hts _ hl) w3 hR.2.2
  have hrecv := va_recv (q := q) C.2.2.2.2.2.1 hW.1 hc ((uw_get hk).trans (by rw [he]))
  rw [hq] at hrecv
  have hrun := va_runV (e := e) (below := below) (meth := meth) (As := As) (rest := rest) (b := ad k) (C := y.cls) (H := H) (locs := locs) (g := F0 m pc ls (As.reverse ++ .ref (ad k) :: rest)) ⟨C.1, C.2.1, C.2.2.1, C.2.2.2.1, hts⟩ (hM H.size) ⟨hcb, hts _ w4, hts _ w5⟩ ⟨u_blind, hrecv, fun U hU hw => ⟨rfl, by rw [hU], Cx.up C hW hU hw⟩⟩ rfl hn hls.1 rfl (lv_room hroom) hdg ⟨Nat.zero_le _, Nat.zero_le _⟩
  exact u_run hrun hW (Cx.sub C hW) (Cx.sub C hW) kk
theorem u_callS {y : MethodName} {b : ByteArray} {maxL : Nat} {ret : Option FieldType} {rm : Room} {index n : Nat} {As : List Value} {st0 st1 : List Value} (C : Cx p s m args meth c cc nL own D tys fa A) (hW : Wd D N ad cf A s.heap H locs)
    (hM : Ct l y (Cond.code y b maxL ret :: wsL_law) rm D tys N ad fa As cf cf' o) (mv : MS y b maxL ret n) (hl : Cond.methodLink own index y ∈ wsL_law) (hn : As.length = n)
    (hR : rm.cells = 0 ∧ rm.slots = 0 ∧ rm.frames + 1 ≤ R.frames ∧ 8 + (maxL + 11) + rm.locals ≤ R.locals) {lv : List (Nat × Value)} (hls : lv_has ls nL lv) (hroom : (rest.map fun v => v.category).sum ≤ 8)
    (hst : st0 = As.reverse ++ rest) (hst1 : o.toList ++ rest = st1) (hdg : decode cc pc = .ok (.invokestatic index, 3))
    (kk : ∀ (H1 : Heap) (locs1 : List Loc), Wd D N ad cf' A s.heap H1 locs1 → W p l e R s m args below meth c H1 locs1 0 0 Q (F0 m (pc + 3) ls st1)) : W p l e R s m args below meth c H locs 0 0 Q (F0 m pc ls st0) := by
  subst hst; subst hst1
  obtain ⟨⟨w1, w2, w3⟩, w4⟩ := mv
  have hts := C.2.2.2.2.1
  have hcb : CallB R s args own index y b maxL ret (Cond.code y b maxL ret :: wsL_law) rm 0 0 n := callB_of n hts (wU_good w2) rfl hR.1 hR.2.1 (hts _ w1) (hts _ hl) w3 hR.2.2
  have hrun := va_runS (e := e) (below := below) (meth := meth) (As := As) (rest := rest) (H := H) (locs := locs) (g := F0 m pc ls (As.reverse ++ rest)) ⟨C.1, C.2.1, C.2.2.1, C.2.2.2.1, hts⟩ (hM H.size) ⟨hcb, hts _ w4⟩ ⟨u_blind, fun U hU hw => ⟨rfl, by rw [hU], Cx.up C hW hU hw⟩⟩ rfl hn hls.1 rfl (lv_room hroom) hdg ⟨Nat.zero_le _, Nat.zero_le _⟩
  exact u_run hrun hW (Cx.sub C hW) (Cx.sub C hW) kk
theorem u_callSN {y : MethodName} {b : ByteArray} {maxL : Nat} {ret : Option FieldType} {rm : Room} {index n : Nat} {host : String} {As : List Value} {st0 st1 : List Value} (C : Cx p s m args meth c cc nL own D tys fa A) (hW : Wd D N ad cf A s.heap H locs)
    (hM : Ct l y (Cond.code y b maxL ret :: wsL_law) rm D tys N ad fa As cf cf' o) (mv : MS y b maxL ret n) (hl : Cond.methodLinkNest own index y host ∈ nestW) (hn : As.length = n)
    (hR : rm.cells = 0 ∧ rm.slots = 0 ∧ rm.frames + 1 ≤ R.frames ∧ 8 + (maxL + 11) + rm.locals ≤ R.locals) {lv : List (Nat × Value)} (hls : lv_has ls nL lv) (hroom : (rest.map fun v => v.category).sum ≤ 8)
    (hst : st0 = As.reverse ++ rest) (hst1 : o.toList ++ rest = st1) (hdg : decode cc pc = .ok (.invokestatic index, 3))
    (kk : ∀ (H1 : Heap) (locs1 : List Loc), Wd D N ad cf' A s.heap H1 locs1 → W p l e R s m args below meth c H1 locs1 0 0 Q (F0 m (pc + 3) ls st1)) : W p l e R s m args below meth c H locs 0 0 Q (F0 m pc ls st0) := by
  subst hst; subst hst1
  obtain ⟨⟨w1, w2, w3⟩, w4⟩ := mv
  have hts := C.2.2.2.2.1
  have hcb := va_cnB (R := R) (host := host) (own := own) (index := index) (bytes := b) (maxL := maxL) (ret := ret) n hts (wU_good w2) rfl hR.1 hR.2.1 (C.2.2.2.2.2.2.1 _ hl) (hts _ w1) w3 hR.2.2
  have hrun := va_runSN (e := e) (below := below) (meth := meth) (As := As) (rest := rest) (H := H) (locs := locs) (g := F0 m pc ls (As.reverse ++ rest)) ⟨C.1, C.2.1, C.2.2.1, C.2.2.2.1, hts⟩ (hM H.size) ⟨hcb, hts _ w4, trivial⟩ ⟨u_blind, fun U hU hw => ⟨rfl, by rw [hU], Cx.up C hW hU hw⟩⟩ rfl hn hls.1 rfl (lv_room hroom) hdg ⟨Nat.zero_le _, Nat.zero_le _⟩
  exact u_run hrun hW (Cx.sub C hW) (Cx.sub C hW) kk
theorem u_max {index : Nat} (C : Cx p s m args meth c cc nL own D tys fa A) (hl : Cond.methodLink own index Lib.Math.max.name ∈ wsL_law) {lv : List (Nat × Value)} (hls : lv_has ls nL lv) {x y : Int32} (hf : 1 ≤ R.frames) (hlo : (rest.map fun v => v.category).sum + 13 ≤ R.locals) (hdg : decode cc pc = .ok (.invokestatic index, 3))
    (kk : W p l e R s m args below meth c H locs 0 0 Q (F0 m (pc + 3) ls (.int (if x < y then y else x) :: rest))) : W p l e R s m args below meth c H locs 0 0 Q (F0 m pc ls (.int y :: .int x :: rest)) :=
  va_mmax C.1 C.2.1 (C.2.2.1.trans hls.1.symm) C.2.2.2.1 (C.2.2.2.2.1 _ hl) (C.2.2.2.2.1 _ w_max_static) (C.2.2.2.2.1 _ w_math_ini) (C.2.2.2.2.1 _ w_max_code) hf hlo (Nat.zero_le _) (Nat.zero_le _) hdg kk
theorem u_min {index : Nat} (C : Cx p s m args meth c cc nL own D tys fa A) (hl : Cond.methodLink own index Lib.Math.min.name ∈ wsL_law) {lv : List (Nat × Value)} (hls : lv_has ls nL lv) {x y : Int32} (hf : 1 ≤ R.frames) (hlo : (rest.map fun v => v.category).sum + 13 ≤ R.locals) (hdg : decode cc pc = .ok (.invokestatic index, 3))
    (kk : W p l e R s m args below meth c H locs 0 0 Q (F0 m (pc + 3) ls (.int (if y < x then y else x) :: rest))) : W p l e R s m args below meth c H locs 0 0 Q (F0 m pc ls (.int y :: .int x :: rest)) :=
  va_mmin C.1 C.2.1 (C.2.2.1.trans hls.1.symm) C.2.2.2.1 (C.2.2.2.2.1 _ hl) (C.2.2.2.2.1 _ w_min_static) (C.2.2.2.2.1 _ w_math_ini) (C.2.2.2.2.1 _ w_min_code) hf hlo (Nat.zero_le _) (Nat.zero_le _) hdg kk
end UCALL
