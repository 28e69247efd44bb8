/-! the words of the tables that the walks need, by their places; rooms; the facts of each method (printed by gen/gen.py) -/
theorem tk_0 : Cond.initialized RL ∈ gtbl := List.mem_filter.mpr ⟨List.mem_append_right _ (List.mem_of_getElem? (i := 0) (by decide +kernel)), by decide +kernel⟩
theorem tk_1 : Cond.initialized RX8 ∈ gtbl := List.mem_filter.mpr ⟨List.mem_append_right _ (List.mem_of_getElem? (i := 1) (by decide +kernel)), by decide +kernel⟩
theorem tk_p1 : Cond.selects RX8 yX8_isAllowed yX8_isAllowed ∈ gtbl := List.mem_filter.mpr ⟨List.mem_append_left _ (List.mem_of_getElem? (i := 1) (by decide +kernel)), by decide +kernel⟩
theorem tk_2 : Cond.initialized RX0 ∈ gtbl := List.mem_filter.mpr ⟨List.mem_append_right _ (List.mem_of_getElem? (i := 2) (by decide +kernel)), by decide +kernel⟩
theorem tk_p2 : Cond.selects RX8 yX8_carryOut yX8_carryOut ∈ gtbl := List.mem_filter.mpr ⟨List.mem_append_left _ (List.mem_of_getElem? (i := 2) (by decide +kernel)), by decide +kernel⟩
theorem tk_3 : Cond.initialized RX2 ∈ gtbl := List.mem_filter.mpr ⟨List.mem_append_right _ (List.mem_of_getElem? (i := 3) (by decide +kernel)), by decide +kernel⟩
theorem tk_p3 : Cond.selects RX9 yX9_isResource yX9_isResource ∈ gtbl := List.mem_filter.mpr ⟨List.mem_append_left _ (List.mem_of_getElem? (i := 3) (by decide +kernel)), by decide +kernel⟩
theorem tk_4 : Cond.initialized RX4 ∈ gtbl := List.mem_filter.mpr ⟨List.mem_append_right _ (List.mem_of_getElem? (i := 4) (by decide +kernel)), by decide +kernel⟩
theorem tk_p4 : Cond.selects RX9 yX9_begins yX9_begins ∈ gtbl := List.mem_filter.mpr ⟨List.mem_append_left _ (List.mem_of_getElem? (i := 4) (by decide +kernel)), by decide +kernel⟩
theorem tk_5 : Cond.initialized RX6 ∈ gtbl := List.mem_filter.mpr ⟨List.mem_append_right _ (List.mem_of_getElem? (i := 5) (by decide +kernel)), by decide +kernel⟩
theorem tk_p5 : Cond.selects RX9 yX9_records yX9_records ∈ gtbl := List.mem_filter.mpr ⟨List.mem_append_left _ (List.mem_of_getElem? (i := 5) (by decide +kernel)), by decide +kernel⟩
theorem tk_6 : Cond.initialized RX7 ∈ gtbl := List.mem_filter.mpr ⟨List.mem_append_right _ (List.mem_of_getElem? (i := 6) (by decide +kernel)), by decide +kernel⟩
theorem tk_p6 : Cond.selects RX9 yX9_isBelow yX9_isBelow ∈ gtbl := List.mem_filter.mpr ⟨List.mem_append_left _ (List.mem_of_getElem? (i := 6) (by decide +kernel)), by decide +kernel⟩
theorem tk_7 : Cond.initialized RX1 ∈ gtbl := List.mem_filter.mpr ⟨List.mem_append_right _ (List.mem_of_getElem? (i := 7) (by decide +kernel)), by decide +kernel⟩
theorem tk_p7 : Cond.selects RX9 yX9_isTask yX9_isTask ∈ gtbl := List.mem_filter.mpr ⟨List.mem_append_left _ (List.mem_of_getElem? (i := 7) (by decide +kernel)), by decide +kernel⟩
theorem tk_8 : Cond.initialized RX3 ∈ gtbl := List.mem_filter.mpr ⟨List.mem_append_right _ (List.mem_of_getElem? (i := 8) (by decide +kernel)), by decide +kernel⟩
theorem tk_p8 : Cond.selects RX9 yX9_of yX9_of ∈ gtbl := List.mem_filter.mpr ⟨List.mem_append_left _ (List.mem_of_getElem? (i := 8) (by decide +kernel)), by decide +kernel⟩
theorem tk_9 : Cond.initialized RX5 ∈ gtbl := List.mem_filter.mpr ⟨List.mem_append_right _ (List.mem_of_getElem? (i := 9) (by decide +kernel)), by decide +kernel⟩
theorem tk_p9 : Cond.selects RX9 yX9_overlaps yX9_overlaps ∈ gtbl := List.mem_filter.mpr ⟨List.mem_append_left _ (List.mem_of_getElem? (i := 9) (by decide +kernel)), by decide +kernel⟩
theorem tk_10 : Cond.initialized RX9 ∈ gtbl := List.mem_filter.mpr ⟨List.mem_append_right _ (List.mem_of_getElem? (i := 10) (by decide +kernel)), by decide +kernel⟩
theorem tk_p10 : Cond.selects RX9 yX9_puts yX9_puts ∈ gtbl := List.mem_filter.mpr ⟨List.mem_append_left _ (List.mem_of_getElem? (i := 10) (by decide +kernel)), by decide +kernel⟩
theorem tk_p11 : Cond.selects RX9 yX9_requestFault yX9_requestFault ∈ gtbl := List.mem_filter.mpr ⟨List.mem_append_left _ (List.mem_of_getElem? (i := 11) (by decide +kernel)), by decide +kernel⟩
theorem tk_p12 : Cond.selects RX9 yX9_isRunning yX9_isRunning ∈ gtbl := List.mem_filter.mpr ⟨List.mem_append_left _ (List.mem_of_getElem? (i := 12) (by decide +kernel)), by decide +kernel⟩
theorem tk_p13 : Cond.selects RX9 yX9_asks yX9_asks ∈ gtbl := List.mem_filter.mpr ⟨List.mem_append_left _ (List.mem_of_getElem? (i := 13) (by decide +kernel)), by decide +kernel⟩
theorem tk_14 : Cond.initialized "java/lang/IndexOutOfBoundsException" ∈ gtbl := List.mem_filter.mpr ⟨List.mem_append_right _ (List.mem_of_getElem? (i := 14) (by decide +kernel)), by decide +kernel⟩
theorem tk_p14 : Cond.selects RX9 yX9_happens yX9_happens ∈ gtbl := List.mem_filter.mpr ⟨List.mem_append_left _ (List.mem_of_getElem? (i := 14) (by decide +kernel)), by decide +kernel⟩
theorem tk_15 : Cond.initialized "java/lang/IllegalStateException" ∈ gtbl := List.mem_filter.mpr ⟨List.mem_append_right _ (List.mem_of_getElem? (i := 15) (by decide +kernel)), by decide +kernel⟩
theorem tk_p15 : Cond.selects RX9 yX9_isOver yX9_isOver ∈ gtbl := List.mem_filter.mpr ⟨List.mem_append_left _ (List.mem_of_getElem? (i := 15) (by decide +kernel)), by decide +kernel⟩
theorem tk_16 : Cond.initialized RJ10 ∈ gtbl := List.mem_filter.mpr ⟨List.mem_append_right _ (List.mem_of_getElem? (i := 16) (by decide +kernel)), by decide +kernel⟩
theorem tk_p16 : Cond.selects RX9 yX9_inTheWay yX9_inTheWay ∈ gtbl := List.mem_filter.mpr ⟨List.mem_append_left _ (List.mem_of_getElem? (i := 16) (by decide +kernel)), by decide +kernel⟩
theorem tk_17 : Cond.initialized "java/lang/IllegalArgumentException" ∈ gtbl := List.mem_filter.mpr ⟨List.mem_append_right _ (List.mem_of_getElem? (i := 17) (by decide +kernel)), by decide +kernel⟩
theorem tk_p17 : Cond.selects RX9 yX9_younger yX9_younger ∈ gtbl := List.mem_filter.mpr ⟨List.mem_append_left _ (List.mem_of_getElem? (i := 17) (by decide +kernel)), by decide +kernel⟩
theorem tk_18 : Cond.initialized RJ6 ∈ gtbl := List.mem_filter.mpr ⟨List.mem_append_right _ (List.mem_of_getElem? (i := 18) (by decide +kernel)), by decide +kernel⟩
theorem tk_p18 : Cond.selects RX9 yX9_ends yX9_ends ∈ gtbl := List.mem_filter.mpr ⟨List.mem_append_left _ (List.mem_of_getElem? (i := 18) (by decide +kernel)), by decide +kernel⟩
theorem tk_19 : Cond.classLink RL 8 RX8 ∈ gtbl := List.mem_filter.mpr ⟨List.mem_append_right _ (List.mem_of_getElem? (i := 19) (by decide +kernel)), by decide +kernel⟩
theorem tk_p19 : Cond.selects RX9 yX9_leaves yX9_leaves ∈ gtbl := List.mem_filter.mpr ⟨List.mem_append_left _ (List.mem_of_getElem? (i := 19) (by decide +kernel)), by decide +kernel⟩
theorem tk_20 : Cond.instantiable RX8 7 ∈ gtbl := List.mem_filter.mpr ⟨List.mem_append_right _ (List.mem_of_getElem? (i := 20) (by decide +kernel)), by decide +kernel⟩
theorem tk_p20 : Cond.selects RX9 yX9_placeOf yX9_placeOf ∈ gtbl := List.mem_filter.mpr ⟨List.mem_append_left _ (List.mem_of_getElem? (i := 20) (by decide +kernel)), by decide +kernel⟩
theorem tk_21 : Cond.methodLink RL 88 yX8_init ∈ gtbl := List.mem_filter.mpr ⟨List.mem_append_right _ (List.mem_of_getElem? (i := 21) (by decide +kernel)), by decide +kernel⟩
theorem tk_p21 : Cond.selects RX9 yX9_waits yX9_waits ∈ gtbl := List.mem_filter.mpr ⟨List.mem_append_left _ (List.mem_of_getElem? (i := 21) (by decide +kernel)), by decide +kernel⟩
theorem tk_22 : Cond.instanceMethod yX8_init ∈ gtbl := List.mem_filter.mpr ⟨List.mem_append_right _ (List.mem_of_getElem? (i := 22) (by decide +kernel)), by decide +kernel⟩
theorem tk_p22 : Cond.selects RX9 yX9_grants yX9_grants ∈ gtbl := List.mem_filter.mpr ⟨List.mem_append_left _ (List.mem_of_getElem? (i := 22) (by decide +kernel)), by decide +kernel⟩
theorem tk_23 : Cond.code yX8_init cX8_init 1 none ∈ gtbl := List.mem_filter.mpr ⟨List.mem_append_right _ (List.mem_of_getElem? (i := 23) (by decide +kernel)), by decide +kernel⟩
theorem tk_p23 : Cond.selects RX9 yX9_settles yX9_settles ∈ gtbl := List.mem_filter.mpr ⟨List.mem_append_left _ (List.mem_of_getElem? (i := 23) (by decide +kernel)), by decide +kernel⟩
theorem tk_24 : Cond.methodLink RX8 1 Lib.objectInit ∈ gtbl := List.mem_filter.mpr ⟨List.mem_append_right _ (List.mem_of_getElem? (i := 24) (by decide +kernel)), by decide +kernel⟩
theorem tk_p24 : Cond.selects RX9 yX9_waitsFor yX9_waitsFor ∈ gtbl := List.mem_filter.mpr ⟨List.mem_append_left _ (List.mem_of_getElem? (i := 24) (by decide +kernel)), by decide +kernel⟩
theorem tk_25 : Cond.instanceMethod Lib.objectInit ∈ gtbl := List.mem_filter.mpr ⟨List.mem_append_right _ (List.mem_of_getElem? (i := 25) (by decide +kernel)), by decide +kernel⟩
theorem tk_p25 : Cond.selects RX9 yX9_isWaiting yX9_isWaiting ∈ gtbl := List.mem_filter.mpr ⟨List.mem_append_left _ (List.mem_of_getElem? (i := 25) (by decide +kernel)), by decide +kernel⟩
theorem tk_26 : Cond.code Lib.objectInit ⟨#[0xb1]⟩ 1 none ∈ gtbl := List.mem_filter.mpr ⟨List.mem_append_right _ (List.mem_of_getElem? (i := 26) (by decide +kernel)), by decide +kernel⟩
theorem tk_p26 : Cond.selects RX9 yX9_releaseFault yX9_releaseFault ∈ gtbl := List.mem_filter.mpr ⟨List.mem_append_left _ (List.mem_of_getElem? (i := 26) (by decide +kernel)), by decide +kernel⟩
theorem tk_27 : Cond.classLink RX8 7 RX0 ∈ gtbl := List.mem_filter.mpr ⟨List.mem_append_right _ (List.mem_of_getElem? (i := 27) (by decide +kernel)), by decide +kernel⟩
theorem tk_p27 : Cond.selects RX9 yX9_lets yX9_lets ∈ gtbl := List.mem_filter.mpr ⟨List.mem_append_left _ (List.mem_of_getElem? (i := 27) (by decide +kernel)), by decide +kernel⟩
theorem tk_28 : Cond.instantiable RX0 14 ∈ gtbl := List.mem_filter.mpr ⟨List.mem_append_right _ (List.mem_of_getElem? (i := 28) (by decide +kernel)), by decide +kernel⟩
theorem tk_p28 : Cond.selects RX9 yX9_finishFault yX9_finishFault ∈ gtbl := List.mem_filter.mpr ⟨List.mem_append_left _ (List.mem_of_getElem? (i := 28) (by decide +kernel)), by decide +kernel⟩
theorem tk_p29 : Cond.selects RX9 yX9_finishes yX9_finishes ∈ gtbl := List.mem_filter.mpr ⟨List.mem_append_left _ (List.mem_of_getElem? (i := 29) (by decide +kernel)), by decide +kernel⟩
theorem tk_30 : Cond.instanceMethod yX0_init ∈ gtbl := List.mem_filter.mpr ⟨List.mem_append_right _ (List.mem_of_getElem? (i := 30) (by decide +kernel)), by decide +kernel⟩
theorem tk_p30 : Cond.selects RX9 yX9_abortFault yX9_abortFault ∈ gtbl := List.mem_filter.mpr ⟨List.mem_append_left _ (List.mem_of_getElem? (i := 30) (by decide +kernel)), by decide +kernel⟩
theorem tk_31 : Cond.code yX0_init cX0_init 1 none ∈ gtbl := List.mem_filter.mpr ⟨List.mem_append_right _ (List.mem_of_getElem? (i := 31) (by decide +kernel)), by decide +kernel⟩
theorem tk_p31 : Cond.selects RX9 yX9_aborts yX9_aborts ∈ gtbl := List.mem_filter.mpr ⟨List.mem_append_left _ (List.mem_of_getElem? (i := 31) (by decide +kernel)), by decide +kernel⟩
theorem tk_32 : Cond.methodLink RX0 3 Lib.objectInit ∈ gtbl := List.mem_filter.mpr ⟨List.mem_append_right _ (List.mem_of_getElem? (i := 32) (by decide +kernel)), by decide +kernel⟩
theorem tk_p32 : Cond.selects RX9 yX9_restartFault yX9_restartFault ∈ gtbl := List.mem_filter.mpr ⟨List.mem_append_left _ (List.mem_of_getElem? (i := 32) (by decide +kernel)), by decide +kernel⟩
theorem tk_33 : Cond.classLink RX0 9 RX2 ∈ gtbl := List.mem_filter.mpr ⟨List.mem_append_right _ (List.mem_of_getElem? (i := 33) (by decide +kernel)), by decide +kernel⟩
theorem tk_p33 : Cond.selects RX9 yX9_all yX9_all ∈ gtbl := List.mem_filter.mpr ⟨List.mem_append_left _ (List.mem_of_getElem? (i := 33) (by decide +kernel)), by decide +kernel⟩
theorem tk_34 : Cond.instantiable RX2 4 ∈ gtbl := List.mem_filter.mpr ⟨List.mem_append_right _ (List.mem_of_getElem? (i := 34) (by decide +kernel)), by decide +kernel⟩
theorem tk_p34 : Cond.selects RX9 yX9_part yX9_part ∈ gtbl := List.mem_filter.mpr ⟨List.mem_append_left _ (List.mem_of_getElem? (i := 34) (by decide +kernel)), by decide +kernel⟩
theorem tk_p35 : Cond.selects RX9 yX9_sets yX9_sets ∈ gtbl := List.mem_filter.mpr ⟨List.mem_append_left _ (List.mem_of_getElem? (i := 35) (by decide +kernel)), by decide +kernel⟩
theorem tk_36 : Cond.instanceMethod yX2_init ∈ gtbl := List.mem_filter.mpr ⟨List.mem_append_right _ (List.mem_of_getElem? (i := 36) (by decide +kernel)), by decide +kernel⟩
theorem tk_p36 : Cond.selects RX9 yX9_probeFault yX9_probeFault ∈ gtbl := List.mem_filter.mpr ⟨List.mem_append_left _ (List.mem_of_getElem? (i := 36) (by decide +kernel)), by decide +kernel⟩
theorem tk_37 : Cond.code yX2_init cX2_init 1 none ∈ gtbl := List.mem_filter.mpr ⟨List.mem_append_right _ (List.mem_of_getElem? (i := 37) (by decide +kernel)), by decide +kernel⟩
theorem tk_p37 : Cond.selects RX9 yX9_starts yX9_starts ∈ gtbl := List.mem_filter.mpr ⟨List.mem_append_left _ (List.mem_of_getElem? (i := 37) (by decide +kernel)), by decide +kernel⟩
theorem tk_38 : Cond.methodLink RX2 3 Lib.objectInit ∈ gtbl := List.mem_filter.mpr ⟨List.mem_append_right _ (List.mem_of_getElem? (i := 38) (by decide +kernel)), by decide +kernel⟩
theorem tk_p38 : Cond.selects RX9 yX9_sendsAll yX9_sendsAll ∈ gtbl := List.mem_filter.mpr ⟨List.mem_append_left _ (List.mem_of_getElem? (i := 38) (by decide +kernel)), by decide +kernel⟩
theorem tk_39 : Cond.fieldLink RX2 9 RX2 "parent" "[I" ∈ gtbl := List.mem_filter.mpr ⟨List.mem_append_right _ (List.mem_of_getElem? (i := 39) (by decide +kernel)), by decide +kernel⟩
theorem tk_p39 : Cond.selects RX9 yX9_sends yX9_sends ∈ gtbl := List.mem_filter.mpr ⟨List.mem_append_left _ (List.mem_of_getElem? (i := 39) (by decide +kernel)), by decide +kernel⟩
theorem tk_40 : Cond.fieldLink RX8 92 RX2 "parent" "[I" ∈ gtbl := List.mem_filter.mpr ⟨List.mem_append_right _ (List.mem_of_getElem? (i := 40) (by decide +kernel)), by decide +kernel⟩
theorem tk_p40 : Cond.selects RX9 yX9_deliversUpTo yX9_deliversUpTo ∈ gtbl := List.mem_filter.mpr ⟨List.mem_append_left _ (List.mem_of_getElem? (i := 40) (by decide +kernel)), by decide +kernel⟩
theorem tk_41 : Cond.fieldLink RX2 15 RX2 "above" "[I" ∈ gtbl := List.mem_filter.mpr ⟨List.mem_append_right _ (List.mem_of_getElem? (i := 41) (by decide +kernel)), by decide +kernel⟩
theorem tk_p41 : Cond.selects RX9 yX9_delivers yX9_delivers ∈ gtbl := List.mem_filter.mpr ⟨List.mem_append_left _ (List.mem_of_getElem? (i := 41) (by decide +kernel)), by decide +kernel⟩
theorem tk_42 : Cond.fieldLink RX8 96 RX2 "above" "[I" ∈ gtbl := List.mem_filter.mpr ⟨List.mem_append_right _ (List.mem_of_getElem? (i := 42) (by decide +kernel)), by decide +kernel⟩
theorem tk_p42 : Cond.selects RX9 yX9_isStale yX9_isStale ∈ gtbl := List.mem_filter.mpr ⟨List.mem_append_left _ (List.mem_of_getElem? (i := 42) (by decide +kernel)), by decide +kernel⟩
theorem tk_43 : Cond.fieldLink RX0 63 RX2 "above" "[I" ∈ gtbl := List.mem_filter.mpr ⟨List.mem_append_right _ (List.mem_of_getElem? (i := 43) (by decide +kernel)), by decide +kernel⟩
theorem tk_p43 : Cond.selects RX9 yX9_finds yX9_finds ∈ gtbl := List.mem_filter.mpr ⟨List.mem_append_left _ (List.mem_of_getElem? (i := 43) (by decide +kernel)), by decide +kernel⟩
theorem tk_44 : Cond.fieldLink RX2 18 RX2 "below" "[I" ∈ gtbl := List.mem_filter.mpr ⟨List.mem_append_right _ (List.mem_of_getElem? (i := 44) (by decide +kernel)), by decide +kernel⟩
theorem tk_p44 : Cond.selects RX9 yX9_isBefore yX9_isBefore ∈ gtbl := List.mem_filter.mpr ⟨List.mem_append_left _ (List.mem_of_getElem? (i := 44) (by decide +kernel)), by decide +kernel⟩
theorem tk_45 : Cond.fieldLink RX8 104 RX2 "below" "[I" ∈ gtbl := List.mem_filter.mpr ⟨List.mem_append_right _ (List.mem_of_getElem? (i := 45) (by decide +kernel)), by decide +kernel⟩
theorem tk_p45 : Cond.selects RX9 yX9_isOnPath yX9_isOnPath ∈ gtbl := List.mem_filter.mpr ⟨List.mem_append_left _ (List.mem_of_getElem? (i := 45) (by decide +kernel)), by decide +kernel⟩
theorem tk_46 : Cond.fieldLink RX0 78 RX2 "below" "[I" ∈ gtbl := List.mem_filter.mpr ⟨List.mem_append_right _ (List.mem_of_getElem? (i := 46) (by decide +kernel)), by decide +kernel⟩
theorem tk_p46 : Cond.selects RX9 yX9_cyclic yX9_cyclic ∈ gtbl := List.mem_filter.mpr ⟨List.mem_append_left _ (List.mem_of_getElem? (i := 46) (by decide +kernel)), by decide +kernel⟩
theorem tk_47 : Cond.fieldLink RX2 21 RX2 "size" "I" ∈ gtbl := List.mem_filter.mpr ⟨List.mem_append_right _ (List.mem_of_getElem? (i := 47) (by decide +kernel)), by decide +kernel⟩
theorem tk_p47 : Cond.selects RX9 yX9_lays yX9_lays ∈ gtbl := List.mem_filter.mpr ⟨List.mem_append_left _ (List.mem_of_getElem? (i := 47) (by decide +kernel)), by decide +kernel⟩
theorem tk_48 : Cond.fieldLink RX8 70 RX2 "size" "I" ∈ gtbl := List.mem_filter.mpr ⟨List.mem_append_right _ (List.mem_of_getElem? (i := 48) (by decide +kernel)), by decide +kernel⟩
theorem tk_p48 : Cond.selects RX9 yX9_mail yX9_mail ∈ gtbl := List.mem_filter.mpr ⟨List.mem_append_left _ (List.mem_of_getElem? (i := 48) (by decide +kernel)), by decide +kernel⟩
theorem tk_p49 : Cond.selects RX9 yX9_stuckTasks yX9_stuckTasks ∈ gtbl := List.mem_filter.mpr ⟨List.mem_append_left _ (List.mem_of_getElem? (i := 49) (by decide +kernel)), by decide +kernel⟩
theorem tk_p50 : Cond.selects RX9 yX9_costOf yX9_costOf ∈ gtbl := List.mem_filter.mpr ⟨List.mem_append_left _ (List.mem_of_getElem? (i := 50) (by decide +kernel)), by decide +kernel⟩
theorem tk_p51 : Cond.selects RX9 yX9_faultOf yX9_faultOf ∈ gtbl := List.mem_filter.mpr ⟨List.mem_append_left _ (List.mem_of_getElem? (i := 51) (by decide +kernel)), by decide +kernel⟩
theorem tk_p52 : Cond.selects RX9 yX9_here yX9_here ∈ gtbl := List.mem_filter.mpr ⟨List.mem_append_left _ (List.mem_of_getElem? (i := 52) (by decide +kernel)), by decide +kernel⟩
theorem tk_p53 : Cond.selects RX9 yX9_readsCommand yX9_readsCommand ∈ gtbl := List.mem_filter.mpr ⟨List.mem_append_left _ (List.mem_of_getElem? (i := 53) (by decide +kernel)), by decide +kernel⟩
theorem tk_p54 : Cond.selects RX9 yX9_readsNumber yX9_readsNumber ∈ gtbl := List.mem_filter.mpr ⟨List.mem_append_left _ (List.mem_of_getElem? (i := 54) (by decide +kernel)), by decide +kernel⟩
theorem tk_p55 : Cond.selects RX9 yX9_does yX9_does ∈ gtbl := List.mem_filter.mpr ⟨List.mem_append_left _ (List.mem_of_getElem? (i := 55) (by decide +kernel)), by decide +kernel⟩
theorem tk_p56 : Cond.selects RX9 yX9_mixes yX9_mixes ∈ gtbl := List.mem_filter.mpr ⟨List.mem_append_left _ (List.mem_of_getElem? (i := 56) (by decide +kernel)), by decide +kernel⟩
theorem tk_58 : Cond.arrayClass .int ∈ gtbl := List.mem_filter.mpr ⟨List.mem_append_right _ (List.mem_of_getElem? (i := 58) (by decide +kernel)), by decide +kernel⟩
theorem tk_59 : Cond.classLink RX0 18 RX4 ∈ gtbl := List.mem_filter.mpr ⟨List.mem_append_right _ (List.mem_of_getElem? (i := 59) (by decide +kernel)), by decide +kernel⟩
theorem tk_60 : Cond.instantiable RX4 6 ∈ gtbl := List.mem_filter.mpr ⟨List.mem_append_right _ (List.mem_of_getElem? (i := 60) (by decide +kernel)), by decide +kernel⟩
theorem tk_62 : Cond.instanceMethod yX4_init ∈ gtbl := List.mem_filter.mpr ⟨List.mem_append_right _ (List.mem_of_getElem? (i := 62) (by decide +kernel)), by decide +kernel⟩
theorem tk_63 : Cond.code yX4_init cX4_init 1 none ∈ gtbl := List.mem_filter.mpr ⟨List.mem_append_right _ (List.mem_of_getElem? (i := 63) (by decide +kernel)), by decide +kernel⟩
theorem tk_64 : Cond.methodLink RX4 3 Lib.objectInit ∈ gtbl := List.mem_filter.mpr ⟨List.mem_append_right _ (List.mem_of_getElem? (i := 64) (by decide +kernel)), by decide +kernel⟩
theorem tk_65 : Cond.fieldLink RX4 9 RX4 "path" "[J" ∈ gtbl := List.mem_filter.mpr ⟨List.mem_append_right _ (List.mem_of_getElem? (i := 65) (by decide +kernel)), by decide +kernel⟩
theorem tk_66 : Cond.fieldLink RX1 122 RX4 "path" "[J" ∈ gtbl := List.mem_filter.mpr ⟨List.mem_append_right _ (List.mem_of_getElem? (i := 66) (by decide +kernel)), by decide +kernel⟩
theorem tk_67 : Cond.fieldLink RX4 15 RX4 "length" "[I" ∈ gtbl := List.mem_filter.mpr ⟨List.mem_append_right _ (List.mem_of_getElem? (i := 67) (by decide +kernel)), by decide +kernel⟩
theorem tk_68 : Cond.fieldLink RX1 126 RX4 "length" "[I" ∈ gtbl := List.mem_filter.mpr ⟨List.mem_append_right _ (List.mem_of_getElem? (i := 68) (by decide +kernel)), by decide +kernel⟩
theorem tk_69 : Cond.fieldLink RX4 19 RX4 "target" "[I" ∈ gtbl := List.mem_filter.mpr ⟨List.mem_append_right _ (List.mem_of_getElem? (i := 69) (by decide +kernel)), by decide +kernel⟩
theorem tk_70 : Cond.fieldLink RX1 129 RX4 "target" "[I" ∈ gtbl := List.mem_filter.mpr ⟨List.mem_append_right _ (List.mem_of_getElem? (i := 70) (by decide +kernel)), by decide +kernel⟩
theorem tk_71 : Cond.fieldLink RX4 22 RX4 "hops" "[I" ∈ gtbl := List.mem_filter.mpr ⟨List.mem_append_right _ (List.mem_of_getElem? (i := 71) (by decide +kernel)), by decide +kernel⟩
theorem tk_72 : Cond.fieldLink RX1 132 RX4 "hops" "[I" ∈ gtbl := List.mem_filter.mpr ⟨List.mem_append_right _ (List.mem_of_getElem? (i := 72) (by decide +kernel)), by decide +kernel⟩
theorem tk_73 : Cond.fieldLink RX4 29 RX4 "first" "I" ∈ gtbl := List.mem_filter.mpr ⟨List.mem_append_right _ (List.mem_of_getElem? (i := 73) (by decide +kernel)), by decide +kernel⟩
theorem tk_74 : Cond.fieldLink RX4 33 RX4 "size" "I" ∈ gtbl := List.mem_filter.mpr ⟨List.mem_append_right _ (List.mem_of_getElem? (i := 74) (by decide +kernel)), by decide +kernel⟩
theorem tk_75 : Cond.fieldLink RX1 107 RX4 "size" "I" ∈ gtbl := List.mem_filter.mpr ⟨List.mem_append_right _ (List.mem_of_getElem? (i := 75) (by decide +kernel)), by decide +kernel⟩
theorem tk_76 : Cond.fieldLink RX8 199 RX4 "size" "I" ∈ gtbl := List.mem_filter.mpr ⟨List.mem_append_right _ (List.mem_of_getElem? (i := 76) (by decide +kernel)), by decide +kernel⟩
theorem tk_90 : Cond.arrayClass .long ∈ gtbl := List.mem_filter.mpr ⟨List.mem_append_right _ (List.mem_of_getElem? (i := 90) (by decide +kernel)), by decide +kernel⟩
theorem tk_91 : Cond.fieldLink RX0 12 RX0 "forest" "LProbeLocks$Forest;" ∈ gtbl := List.mem_filter.mpr ⟨List.mem_append_right _ (List.mem_of_getElem? (i := 91) (by decide +kernel)), by decide +kernel⟩
theorem tk_92 : Cond.fieldLink RX8 56 RX0 "forest" "LProbeLocks$Forest;" ∈ gtbl := List.mem_filter.mpr ⟨List.mem_append_right _ (List.mem_of_getElem? (i := 92) (by decide +kernel)), by decide +kernel⟩
theorem tk_93 : Cond.fieldLink RX0 21 RX0 "mail" "LProbeLocks$Mail;" ∈ gtbl := List.mem_filter.mpr ⟨List.mem_append_right _ (List.mem_of_getElem? (i := 93) (by decide +kernel)), by decide +kernel⟩
theorem tk_94 : Cond.fieldLink RX1 103 RX0 "mail" "LProbeLocks$Mail;" ∈ gtbl := List.mem_filter.mpr ⟨List.mem_append_right _ (List.mem_of_getElem? (i := 94) (by decide +kernel)), by decide +kernel⟩
theorem tk_95 : Cond.fieldLink RX8 195 RX0 "mail" "LProbeLocks$Mail;" ∈ gtbl := List.mem_filter.mpr ⟨List.mem_append_right _ (List.mem_of_getElem? (i := 95) (by decide +kernel)), by decide +kernel⟩
theorem tk_96 : Cond.fieldLink RX0 25 RX0 "cost" "[I" ∈ gtbl := List.mem_filter.mpr ⟨List.mem_append_right _ (List.mem_of_getElem? (i := 96) (by decide +kernel)), by decide +kernel⟩
theorem tk_97 : Cond.fieldLink RX8 153 RX0 "cost" "[I" ∈ gtbl := List.mem_filter.mpr ⟨List.mem_append_right _ (List.mem_of_getElem? (i := 97) (by decide +kernel)), by decide +kernel⟩
theorem tk_98 : Cond.fieldLink RX1 175 RX0 "cost" "[I" ∈ gtbl := List.mem_filter.mpr ⟨List.mem_append_right _ (List.mem_of_getElem? (i := 98) (by decide +kernel)), by decide +kernel⟩
theorem tk_99 : Cond.fieldLink RX0 29 RX0 "serial" "[I" ∈ gtbl := List.mem_filter.mpr ⟨List.mem_append_right _ (List.mem_of_getElem? (i := 99) (by decide +kernel)), by decide +kernel⟩
theorem tk_100 : Cond.fieldLink RX8 156 RX0 "serial" "[I" ∈ gtbl := List.mem_filter.mpr ⟨List.mem_append_right _ (List.mem_of_getElem? (i := 100) (by decide +kernel)), by decide +kernel⟩
theorem tk_101 : Cond.fieldLink RX1 186 RX0 "serial" "[I" ∈ gtbl := List.mem_filter.mpr ⟨List.mem_append_right _ (List.mem_of_getElem? (i := 101) (by decide +kernel)), by decide +kernel⟩
theorem tk_102 : Cond.fieldLink RX0 32 RX0 "state" "[I" ∈ gtbl := List.mem_filter.mpr ⟨List.mem_append_right _ (List.mem_of_getElem? (i := 102) (by decide +kernel)), by decide +kernel⟩
theorem tk_103 : Cond.fieldLink RX1 67 RX0 "state" "[I" ∈ gtbl := List.mem_filter.mpr ⟨List.mem_append_right _ (List.mem_of_getElem? (i := 103) (by decide +kernel)), by decide +kernel⟩
theorem tk_104 : Cond.fieldLink RX8 150 RX0 "state" "[I" ∈ gtbl := List.mem_filter.mpr ⟨List.mem_append_right _ (List.mem_of_getElem? (i := 104) (by decide +kernel)), by decide +kernel⟩
theorem tk_105 : Cond.fieldLink RX0 35 RX0 "held" "[I" ∈ gtbl := List.mem_filter.mpr ⟨List.mem_append_right _ (List.mem_of_getElem? (i := 105) (by decide +kernel)), by decide +kernel⟩
theorem tk_106 : Cond.fieldLink RX8 159 RX0 "held" "[I" ∈ gtbl := List.mem_filter.mpr ⟨List.mem_append_right _ (List.mem_of_getElem? (i := 106) (by decide +kernel)), by decide +kernel⟩
theorem tk_107 : Cond.fieldLink RX1 178 RX0 "held" "[I" ∈ gtbl := List.mem_filter.mpr ⟨List.mem_append_right _ (List.mem_of_getElem? (i := 107) (by decide +kernel)), by decide +kernel⟩
theorem tk_108 : Cond.fieldLink RX0 38 RX0 "wanted" "[I" ∈ gtbl := List.mem_filter.mpr ⟨List.mem_append_right _ (List.mem_of_getElem? (i := 108) (by decide +kernel)), by decide +kernel⟩
theorem tk_109 : Cond.fieldLink RX8 162 RX0 "wanted" "[I" ∈ gtbl := List.mem_filter.mpr ⟨List.mem_append_right _ (List.mem_of_getElem? (i := 109) (by decide +kernel)), by decide +kernel⟩
theorem tk_110 : Cond.fieldLink RX0 41 RX0 "order" "[I" ∈ gtbl := List.mem_filter.mpr ⟨List.mem_append_right _ (List.mem_of_getElem? (i := 110) (by decide +kernel)), by decide +kernel⟩
theorem tk_111 : Cond.fieldLink RX8 174 RX0 "order" "[I" ∈ gtbl := List.mem_filter.mpr ⟨List.mem_append_right _ (List.mem_of_getElem? (i := 111) (by decide +kernel)), by decide +kernel⟩
theorem tk_112 : Cond.fieldLink RX0 85 RX0 "queued" "I" ∈ gtbl := List.mem_filter.mpr ⟨List.mem_append_right _ (List.mem_of_getElem? (i := 112) (by decide +kernel)), by decide +kernel⟩
theorem tk_113 : Cond.fieldLink RX8 171 RX0 "queued" "I" ∈ gtbl := List.mem_filter.mpr ⟨List.mem_append_right _ (List.mem_of_getElem? (i := 113) (by decide +kernel)), by decide +kernel⟩
theorem tk_114 : Cond.fieldLink RX0 51 RX0 "alive" "I" ∈ gtbl := List.mem_filter.mpr ⟨List.mem_append_right _ (List.mem_of_getElem? (i := 114) (by decide +kernel)), by decide +kernel⟩
theorem tk_115 : Cond.fieldLink RX8 147 RX0 "alive" "I" ∈ gtbl := List.mem_filter.mpr ⟨List.mem_append_right _ (List.mem_of_getElem? (i := 115) (by decide +kernel)), by decide +kernel⟩
theorem tk_116 : Cond.fieldLink RX1 36 RX0 "policy" "I" ∈ gtbl := List.mem_filter.mpr ⟨List.mem_append_right _ (List.mem_of_getElem? (i := 116) (by decide +kernel)), by decide +kernel⟩
theorem tk_117 : Cond.fieldLink RX8 180 RX0 "policy" "I" ∈ gtbl := List.mem_filter.mpr ⟨List.mem_append_right _ (List.mem_of_getElem? (i := 117) (by decide +kernel)), by decide +kernel⟩
theorem tk_118 : Cond.fieldLink RX0 116 RX0 "policy" "I" ∈ gtbl := List.mem_filter.mpr ⟨List.mem_append_right _ (List.mem_of_getElem? (i := 118) (by decide +kernel)), by decide +kernel⟩
theorem tk_119 : Cond.fieldLink RX1 172 RX0 "rule" "I" ∈ gtbl := List.mem_filter.mpr ⟨List.mem_append_right _ (List.mem_of_getElem? (i := 119) (by decide +kernel)), by decide +kernel⟩
theorem tk_120 : Cond.fieldLink RX8 183 RX0 "rule" "I" ∈ gtbl := List.mem_filter.mpr ⟨List.mem_append_right _ (List.mem_of_getElem? (i := 120) (by decide +kernel)), by decide +kernel⟩
theorem tk_121 : Cond.fieldLink RX0 119 RX0 "rule" "I" ∈ gtbl := List.mem_filter.mpr ⟨List.mem_append_right _ (List.mem_of_getElem? (i := 121) (by decide +kernel)), by decide +kernel⟩
theorem tk_122 : Cond.fieldLink RX0 44 RX0 "budget" "I" ∈ gtbl := List.mem_filter.mpr ⟨List.mem_append_right _ (List.mem_of_getElem? (i := 122) (by decide +kernel)), by decide +kernel⟩
theorem tk_123 : Cond.fieldLink RX1 96 RX0 "budget" "I" ∈ gtbl := List.mem_filter.mpr ⟨List.mem_append_right _ (List.mem_of_getElem? (i := 123) (by decide +kernel)), by decide +kernel⟩
theorem tk_124 : Cond.fieldLink RX8 186 RX0 "budget" "I" ∈ gtbl := List.mem_filter.mpr ⟨List.mem_append_right _ (List.mem_of_getElem? (i := 124) (by decide +kernel)), by decide +kernel⟩
theorem tk_125 : Cond.fieldLink RX0 48 RX0 "nextSerial" "I" ∈ gtbl := List.mem_filter.mpr ⟨List.mem_append_right _ (List.mem_of_getElem? (i := 125) (by decide +kernel)), by decide +kernel⟩
theorem tk_155 : Cond.classLink RX8 19 RX6 ∈ gtbl := List.mem_filter.mpr ⟨List.mem_append_right _ (List.mem_of_getElem? (i := 155) (by decide +kernel)), by decide +kernel⟩
theorem tk_156 : Cond.instantiable RX6 4 ∈ gtbl := List.mem_filter.mpr ⟨List.mem_append_right _ (List.mem_of_getElem? (i := 156) (by decide +kernel)), by decide +kernel⟩
theorem tk_158 : Cond.instanceMethod yX6_init ∈ gtbl := List.mem_filter.mpr ⟨List.mem_append_right _ (List.mem_of_getElem? (i := 158) (by decide +kernel)), by decide +kernel⟩
theorem tk_159 : Cond.code yX6_init cX6_init 1 none ∈ gtbl := List.mem_filter.mpr ⟨List.mem_append_right _ (List.mem_of_getElem? (i := 159) (by decide +kernel)), by decide +kernel⟩
theorem tk_160 : Cond.methodLink RX6 3 Lib.objectInit ∈ gtbl := List.mem_filter.mpr ⟨List.mem_append_right _ (List.mem_of_getElem? (i := 160) (by decide +kernel)), by decide +kernel⟩
theorem tk_161 : Cond.fieldLink RX6 9 RX6 "counts" "[I" ∈ gtbl := List.mem_filter.mpr ⟨List.mem_append_right _ (List.mem_of_getElem? (i := 161) (by decide +kernel)), by decide +kernel⟩
theorem tk_162 : Cond.fieldLink RX8 205 RX6 "counts" "[I" ∈ gtbl := List.mem_filter.mpr ⟨List.mem_append_right _ (List.mem_of_getElem? (i := 162) (by decide +kernel)), by decide +kernel⟩
theorem tk_163 : Cond.fieldLink RX6 15 RX6 "latestRing" "I" ∈ gtbl := List.mem_filter.mpr ⟨List.mem_append_right _ (List.mem_of_getElem? (i := 163) (by decide +kernel)), by decide +kernel⟩
theorem tk_164 : Cond.fieldLink RX8 223 RX6 "latestRing" "I" ∈ gtbl := List.mem_filter.mpr ⟨List.mem_append_right _ (List.mem_of_getElem? (i := 164) (by decide +kernel)), by decide +kernel⟩
theorem tk_165 : Cond.fieldLink RX6 19 RX6 "latestVictim" "I" ∈ gtbl := List.mem_filter.mpr ⟨List.mem_append_right _ (List.mem_of_getElem? (i := 165) (by decide +kernel)), by decide +kernel⟩
theorem tk_166 : Cond.fieldLink RX8 226 RX6 "latestVictim" "I" ∈ gtbl := List.mem_filter.mpr ⟨List.mem_append_right _ (List.mem_of_getElem? (i := 166) (by decide +kernel)), by decide +kernel⟩
theorem tk_167 : Cond.fieldLink RX6 22 RX6 "latestInitiator" "I" ∈ gtbl := List.mem_filter.mpr ⟨List.mem_append_right _ (List.mem_of_getElem? (i := 167) (by decide +kernel)), by decide +kernel⟩
theorem tk_168 : Cond.fieldLink RX8 229 RX6 "latestInitiator" "I" ∈ gtbl := List.mem_filter.mpr ⟨List.mem_append_right _ (List.mem_of_getElem? (i := 168) (by decide +kernel)), by decide +kernel⟩
theorem tk_178 : Cond.classLink RX8 26 RX7 ∈ gtbl := List.mem_filter.mpr ⟨List.mem_append_right _ (List.mem_of_getElem? (i := 178) (by decide +kernel)), by decide +kernel⟩
theorem tk_179 : Cond.instantiable RX7 4 ∈ gtbl := List.mem_filter.mpr ⟨List.mem_append_right _ (List.mem_of_getElem? (i := 179) (by decide +kernel)), by decide +kernel⟩
theorem tk_181 : Cond.instanceMethod yX7_init ∈ gtbl := List.mem_filter.mpr ⟨List.mem_append_right _ (List.mem_of_getElem? (i := 181) (by decide +kernel)), by decide +kernel⟩
theorem tk_182 : Cond.code yX7_init cX7_init 1 none ∈ gtbl := List.mem_filter.mpr ⟨List.mem_append_right _ (List.mem_of_getElem? (i := 182) (by decide +kernel)), by decide +kernel⟩
theorem tk_183 : Cond.methodLink RX7 3 Lib.objectInit ∈ gtbl := List.mem_filter.mpr ⟨List.mem_append_right _ (List.mem_of_getElem? (i := 183) (by decide +kernel)), by decide +kernel⟩
theorem tk_184 : Cond.fieldLink RX7 9 RX7 "next" "[I" ∈ gtbl := List.mem_filter.mpr ⟨List.mem_append_right _ (List.mem_of_getElem? (i := 184) (by decide +kernel)), by decide +kernel⟩
theorem tk_185 : Cond.fieldLink RX7 15 RX7 "reach" "[I" ∈ gtbl := List.mem_filter.mpr ⟨List.mem_append_right _ (List.mem_of_getElem? (i := 185) (by decide +kernel)), by decide +kernel⟩
theorem tk_186 : Cond.fieldLink RX7 28 RX7 "onRing" "I" ∈ gtbl := List.mem_filter.mpr ⟨List.mem_append_right _ (List.mem_of_getElem? (i := 186) (by decide +kernel)), by decide +kernel⟩
theorem tk_187 : Cond.fieldLink RX1 159 RX7 "onRing" "I" ∈ gtbl := List.mem_filter.mpr ⟨List.mem_append_right _ (List.mem_of_getElem? (i := 187) (by decide +kernel)), by decide +kernel⟩
theorem tk_188 : Cond.fieldLink RX8 211 RX7 "onRing" "I" ∈ gtbl := List.mem_filter.mpr ⟨List.mem_append_right _ (List.mem_of_getElem? (i := 188) (by decide +kernel)), by decide +kernel⟩
theorem tk_189 : Cond.fieldLink RX7 41 RX7 "ways" "[I" ∈ gtbl := List.mem_filter.mpr ⟨List.mem_append_right _ (List.mem_of_getElem? (i := 189) (by decide +kernel)), by decide +kernel⟩
theorem tk_199 : Cond.classLink RX8 33 RX1 ∈ gtbl := List.mem_filter.mpr ⟨List.mem_append_right _ (List.mem_of_getElem? (i := 199) (by decide +kernel)), by decide +kernel⟩
theorem tk_200 : Cond.instantiable RX1 3 ∈ gtbl := List.mem_filter.mpr ⟨List.mem_append_right _ (List.mem_of_getElem? (i := 200) (by decide +kernel)), by decide +kernel⟩
theorem tk_201 : Cond.methodLink RX8 35 yX1_init ∈ gtbl := List.mem_filter.mpr ⟨List.mem_append_right _ (List.mem_of_getElem? (i := 201) (by decide +kernel)), by decide +kernel⟩
theorem tk_202 : Cond.instanceMethod yX1_init ∈ gtbl := List.mem_filter.mpr ⟨List.mem_append_right _ (List.mem_of_getElem? (i := 202) (by decide +kernel)), by decide +kernel⟩
theorem tk_203 : Cond.code yX1_init cX1_init 4 none ∈ gtbl := List.mem_filter.mpr ⟨List.mem_append_right _ (List.mem_of_getElem? (i := 203) (by decide +kernel)), by decide +kernel⟩
theorem tk_204 : Cond.methodLink RX1 3 Lib.objectInit ∈ gtbl := List.mem_filter.mpr ⟨List.mem_append_right _ (List.mem_of_getElem? (i := 204) (by decide +kernel)), by decide +kernel⟩
theorem tk_205 : Cond.fieldLink RX1 9 RX1 "books" "LProbeLocks$Books;" ∈ gtbl := List.mem_filter.mpr ⟨List.mem_append_right _ (List.mem_of_getElem? (i := 205) (by decide +kernel)), by decide +kernel⟩
theorem tk_206 : Cond.fieldLink RX1 15 RX1 "tally" "LProbeLocks$Tally;" ∈ gtbl := List.mem_filter.mpr ⟨List.mem_append_right _ (List.mem_of_getElem? (i := 206) (by decide +kernel)), by decide +kernel⟩
theorem tk_207 : Cond.fieldLink RX1 19 RX1 "waits" "LProbeLocks$Waits;" ∈ gtbl := List.mem_filter.mpr ⟨List.mem_append_right _ (List.mem_of_getElem? (i := 207) (by decide +kernel)), by decide +kernel⟩
theorem tk_215 : Cond.classLink RX8 42 RX3 ∈ gtbl := List.mem_filter.mpr ⟨List.mem_append_right _ (List.mem_of_getElem? (i := 215) (by decide +kernel)), by decide +kernel⟩
theorem tk_216 : Cond.instantiable RX3 2 ∈ gtbl := List.mem_filter.mpr ⟨List.mem_append_right _ (List.mem_of_getElem? (i := 216) (by decide +kernel)), by decide +kernel⟩
theorem tk_218 : Cond.instanceMethod yX3_init ∈ gtbl := List.mem_filter.mpr ⟨List.mem_append_right _ (List.mem_of_getElem? (i := 218) (by decide +kernel)), by decide +kernel⟩
theorem tk_219 : Cond.code yX3_init cX3_init 1 none ∈ gtbl := List.mem_filter.mpr ⟨List.mem_append_right _ (List.mem_of_getElem? (i := 219) (by decide +kernel)), by decide +kernel⟩
theorem tk_220 : Cond.methodLink RX3 3 Lib.objectInit ∈ gtbl := List.mem_filter.mpr ⟨List.mem_append_right _ (List.mem_of_getElem? (i := 220) (by decide +kernel)), by decide +kernel⟩
theorem tk_221 : Cond.classLink RX3 9 RX0 ∈ gtbl := List.mem_filter.mpr ⟨List.mem_append_right _ (List.mem_of_getElem? (i := 221) (by decide +kernel)), by decide +kernel⟩
theorem tk_223 : Cond.fieldLink RX3 11 RX3 "records" "[LProbeLocks$Books;" ∈ gtbl := List.mem_filter.mpr ⟨List.mem_append_right _ (List.mem_of_getElem? (i := 223) (by decide +kernel)), by decide +kernel⟩
theorem tk_224 : Cond.fieldLink RX3 17 RX3 "size" "I" ∈ gtbl := List.mem_filter.mpr ⟨List.mem_append_right _ (List.mem_of_getElem? (i := 224) (by decide +kernel)), by decide +kernel⟩
theorem tk_225 : Cond.fieldLink RX8 272 RX3 "size" "I" ∈ gtbl := List.mem_filter.mpr ⟨List.mem_append_right _ (List.mem_of_getElem? (i := 225) (by decide +kernel)), by decide +kernel⟩
theorem tk_231 : Cond.classLink RX8 49 RX5 ∈ gtbl := List.mem_filter.mpr ⟨List.mem_append_right _ (List.mem_of_getElem? (i := 231) (by decide +kernel)), by decide +kernel⟩
theorem tk_232 : Cond.instantiable RX5 2 ∈ gtbl := List.mem_filter.mpr ⟨List.mem_append_right _ (List.mem_of_getElem? (i := 232) (by decide +kernel)), by decide +kernel⟩
theorem tk_234 : Cond.instanceMethod yX5_init ∈ gtbl := List.mem_filter.mpr ⟨List.mem_append_right _ (List.mem_of_getElem? (i := 234) (by decide +kernel)), by decide +kernel⟩
theorem tk_235 : Cond.code yX5_init cX5_init 1 none ∈ gtbl := List.mem_filter.mpr ⟨List.mem_append_right _ (List.mem_of_getElem? (i := 235) (by decide +kernel)), by decide +kernel⟩
theorem tk_236 : Cond.methodLink RX5 3 Lib.objectInit ∈ gtbl := List.mem_filter.mpr ⟨List.mem_append_right _ (List.mem_of_getElem? (i := 236) (by decide +kernel)), by decide +kernel⟩
theorem tk_237 : Cond.fieldLink RX5 9 RX5 "text" "[C" ∈ gtbl := List.mem_filter.mpr ⟨List.mem_append_right _ (List.mem_of_getElem? (i := 237) (by decide +kernel)), by decide +kernel⟩
theorem tk_238 : Cond.fieldLink RX8 258 RX5 "text" "[C" ∈ gtbl := List.mem_filter.mpr ⟨List.mem_append_right _ (List.mem_of_getElem? (i := 238) (by decide +kernel)), by decide +kernel⟩
theorem tk_239 : Cond.fieldLink RX5 15 RX5 "length" "I" ∈ gtbl := List.mem_filter.mpr ⟨List.mem_append_right _ (List.mem_of_getElem? (i := 239) (by decide +kernel)), by decide +kernel⟩
theorem tk_240 : Cond.fieldLink RX8 249 RX5 "length" "I" ∈ gtbl := List.mem_filter.mpr ⟨List.mem_append_right _ (List.mem_of_getElem? (i := 240) (by decide +kernel)), by decide +kernel⟩
theorem tk_246 : Cond.arrayClass .char ∈ gtbl := List.mem_filter.mpr ⟨List.mem_append_right _ (List.mem_of_getElem? (i := 246) (by decide +kernel)), by decide +kernel⟩
theorem tk_247 : Cond.fieldLink RX8 10 RX8 "books" "LProbeLocks$Books;" ∈ gtbl := List.mem_filter.mpr ⟨List.mem_append_right _ (List.mem_of_getElem? (i := 247) (by decide +kernel)), by decide +kernel⟩
theorem tk_248 : Cond.fieldLink RX8 16 RX8 "spare" "LProbeLocks$Books;" ∈ gtbl := List.mem_filter.mpr ⟨List.mem_append_right _ (List.mem_of_getElem? (i := 248) (by decide +kernel)), by decide +kernel⟩
theorem tk_249 : Cond.fieldLink RX8 22 RX8 "tally" "LProbeLocks$Tally;" ∈ gtbl := List.mem_filter.mpr ⟨List.mem_append_right _ (List.mem_of_getElem? (i := 249) (by decide +kernel)), by decide +kernel⟩
theorem tk_250 : Cond.fieldLink RX8 29 RX8 "waits" "LProbeLocks$Waits;" ∈ gtbl := List.mem_filter.mpr ⟨List.mem_append_right _ (List.mem_of_getElem? (i := 250) (by decide +kernel)), by decide +kernel⟩
theorem tk_251 : Cond.fieldLink RX8 38 RX8 "desk" "LProbeLocks$Desk;" ∈ gtbl := List.mem_filter.mpr ⟨List.mem_append_right _ (List.mem_of_getElem? (i := 251) (by decide +kernel)), by decide +kernel⟩
theorem tk_252 : Cond.fieldLink RX8 45 RX8 "history" "LProbeLocks$History;" ∈ gtbl := List.mem_filter.mpr ⟨List.mem_append_right _ (List.mem_of_getElem? (i := 252) (by decide +kernel)), by decide +kernel⟩
theorem tk_253 : Cond.fieldLink RX8 52 RX8 "script" "LProbeLocks$Script;" ∈ gtbl := List.mem_filter.mpr ⟨List.mem_append_right _ (List.mem_of_getElem? (i := 253) (by decide +kernel)), by decide +kernel⟩
theorem tk_269 : Cond.methodLink RL 101 yX8_resources ∈ gtbl := List.mem_filter.mpr ⟨List.mem_append_right _ (List.mem_of_getElem? (i := 269) (by decide +kernel)), by decide +kernel⟩
theorem tk_270 : Cond.instanceMethod yX8_resources ∈ gtbl := List.mem_filter.mpr ⟨List.mem_append_right _ (List.mem_of_getElem? (i := 270) (by decide +kernel)), by decide +kernel⟩
theorem tk_271 : Cond.selects RX8 yX8_resources yX8_resources ∈ gtbl := List.mem_filter.mpr ⟨List.mem_append_right _ (List.mem_of_getElem? (i := 271) (by decide +kernel)), by decide +kernel⟩
theorem tk_272 : Cond.code yX8_resources cX8_resources 1 (some .int) ∈ gtbl := List.mem_filter.mpr ⟨List.mem_append_right _ (List.mem_of_getElem? (i := 272) (by decide +kernel)), by decide +kernel⟩
theorem tk_273 : Cond.methodLink RL 130 yX8_tasks ∈ gtbl := List.mem_filter.mpr ⟨List.mem_append_right _ (List.mem_of_getElem? (i := 273) (by decide +kernel)), by decide +kernel⟩
theorem tk_274 : Cond.instanceMethod yX8_tasks ∈ gtbl := List.mem_filter.mpr ⟨List.mem_append_right _ (List.mem_of_getElem? (i := 274) (by decide +kernel)), by decide +kernel⟩
theorem tk_275 : Cond.selects RX8 yX8_tasks yX8_tasks ∈ gtbl := List.mem_filter.mpr ⟨List.mem_append_right _ (List.mem_of_getElem? (i := 275) (by decide +kernel)), by decide +kernel⟩
theorem tk_276 : Cond.code yX8_tasks cX8_tasks 1 (some .int) ∈ gtbl := List.mem_filter.mpr ⟨List.mem_append_right _ (List.mem_of_getElem? (i := 276) (by decide +kernel)), by decide +kernel⟩
theorem tk_277 : Cond.methodLink RL 137 yX8_waiting ∈ gtbl := List.mem_filter.mpr ⟨List.mem_append_right _ (List.mem_of_getElem? (i := 277) (by decide +kernel)), by decide +kernel⟩
theorem tk_278 : Cond.instanceMethod yX8_waiting ∈ gtbl := List.mem_filter.mpr ⟨List.mem_append_right _ (List.mem_of_getElem? (i := 278) (by decide +kernel)), by decide +kernel⟩
theorem tk_279 : Cond.selects RX8 yX8_waiting yX8_waiting ∈ gtbl := List.mem_filter.mpr ⟨List.mem_append_right _ (List.mem_of_getElem? (i := 279) (by decide +kernel)), by decide +kernel⟩
theorem tk_280 : Cond.code yX8_waiting cX8_waiting 2 (some .int) ∈ gtbl := List.mem_filter.mpr ⟨List.mem_append_right _ (List.mem_of_getElem? (i := 280) (by decide +kernel)), by decide +kernel⟩
theorem tk_281 : Cond.methodLink RX8 85 yX8_isWithin ∈ gtbl := List.mem_filter.mpr ⟨List.mem_append_right _ (List.mem_of_getElem? (i := 281) (by decide +kernel)), by decide +kernel⟩
theorem tk_282 : Cond.static yX8_isWithin ∈ gtbl := List.mem_filter.mpr ⟨List.mem_append_right _ (List.mem_of_getElem? (i := 282) (by decide +kernel)), by decide +kernel⟩
theorem tk_283 : Cond.code yX8_isWithin cX8_isWithin 3 (some .boolean) ∈ gtbl := List.mem_filter.mpr ⟨List.mem_append_right _ (List.mem_of_getElem? (i := 283) (by decide +kernel)), by decide +kernel⟩
theorem tk_284 : Cond.methodLink RL 159 yX8_messages ∈ gtbl := List.mem_filter.mpr ⟨List.mem_append_right _ (List.mem_of_getElem? (i := 284) (by decide +kernel)), by decide +kernel⟩
theorem tk_285 : Cond.instanceMethod yX8_messages ∈ gtbl := List.mem_filter.mpr ⟨List.mem_append_right _ (List.mem_of_getElem? (i := 285) (by decide +kernel)), by decide +kernel⟩
theorem tk_286 : Cond.selects RX8 yX8_messages yX8_messages ∈ gtbl := List.mem_filter.mpr ⟨List.mem_append_right _ (List.mem_of_getElem? (i := 286) (by decide +kernel)), by decide +kernel⟩
theorem tk_287 : Cond.code yX8_messages cX8_messages 1 (some .int) ∈ gtbl := List.mem_filter.mpr ⟨List.mem_append_right _ (List.mem_of_getElem? (i := 287) (by decide +kernel)), by decide +kernel⟩
theorem tk_288 : Cond.methodLink RL 169 yX8_onCycles ∈ gtbl := List.mem_filter.mpr ⟨List.mem_append_right _ (List.mem_of_getElem? (i := 288) (by decide +kernel)), by decide +kernel⟩
theorem tk_289 : Cond.instanceMethod yX8_onCycles ∈ gtbl := List.mem_filter.mpr ⟨List.mem_append_right _ (List.mem_of_getElem? (i := 289) (by decide +kernel)), by decide +kernel⟩
theorem tk_290 : Cond.selects RX8 yX8_onCycles yX8_onCycles ∈ gtbl := List.mem_filter.mpr ⟨List.mem_append_right _ (List.mem_of_getElem? (i := 290) (by decide +kernel)), by decide +kernel⟩
theorem tk_291 : Cond.code yX8_onCycles cX8_onCycles 1 (some .int) ∈ gtbl := List.mem_filter.mpr ⟨List.mem_append_right _ (List.mem_of_getElem? (i := 291) (by decide +kernel)), by decide +kernel⟩
theorem tk_292 : Cond.methodLink RX8 208 yX7_read ∈ gtbl := List.mem_filter.mpr ⟨List.mem_append_right _ (List.mem_of_getElem? (i := 292) (by decide +kernel)), by decide +kernel⟩
theorem tk_293 : Cond.instanceMethod yX7_read ∈ gtbl := List.mem_filter.mpr ⟨List.mem_append_right _ (List.mem_of_getElem? (i := 293) (by decide +kernel)), by decide +kernel⟩
theorem tk_294 : Cond.selects RX7 yX7_read yX7_read ∈ gtbl := List.mem_filter.mpr ⟨List.mem_append_right _ (List.mem_of_getElem? (i := 294) (by decide +kernel)), by decide +kernel⟩
theorem tk_295 : Cond.code yX7_read cX7_read 4 none ∈ gtbl := List.mem_filter.mpr ⟨List.mem_append_right _ (List.mem_of_getElem? (i := 295) (by decide +kernel)), by decide +kernel⟩
theorem tk_296 : Cond.methodLink RX7 18 yX0_waitsFor ∈ gtbl := List.mem_filter.mpr ⟨List.mem_append_right _ (List.mem_of_getElem? (i := 296) (by decide +kernel)), by decide +kernel⟩
theorem tk_297 : Cond.instanceMethod yX0_waitsFor ∈ gtbl := List.mem_filter.mpr ⟨List.mem_append_right _ (List.mem_of_getElem? (i := 297) (by decide +kernel)), by decide +kernel⟩
theorem tk_298 : Cond.selects RX0 yX0_waitsFor yX0_waitsFor ∈ gtbl := List.mem_filter.mpr ⟨List.mem_append_right _ (List.mem_of_getElem? (i := 298) (by decide +kernel)), by decide +kernel⟩
theorem tk_299 : Cond.code yX0_waitsFor cX0_waitsFor 2 (some .int) ∈ gtbl := List.mem_filter.mpr ⟨List.mem_append_right _ (List.mem_of_getElem? (i := 299) (by decide +kernel)), by decide +kernel⟩
theorem tk_300 : Cond.methodLink RX0 72 yX0_isIn ∈ gtbl := List.mem_filter.mpr ⟨List.mem_append_right _ (List.mem_of_getElem? (i := 300) (by decide +kernel)), by decide +kernel⟩
theorem tk_301 : Cond.instanceMethod yX0_isIn ∈ gtbl := List.mem_filter.mpr ⟨List.mem_append_right _ (List.mem_of_getElem? (i := 301) (by decide +kernel)), by decide +kernel⟩
theorem tk_302 : Cond.selects RX0 yX0_isIn yX0_isIn ∈ gtbl := List.mem_filter.mpr ⟨List.mem_append_right _ (List.mem_of_getElem? (i := 302) (by decide +kernel)), by decide +kernel⟩
theorem tk_303 : Cond.code yX0_isIn cX0_isIn 3 (some .boolean) ∈ gtbl := List.mem_filter.mpr ⟨List.mem_append_right _ (List.mem_of_getElem? (i := 303) (by decide +kernel)), by decide +kernel⟩
theorem tk_304 : Cond.methodLink RX0 81 yX0_holdersInWay ∈ gtbl := List.mem_filter.mpr ⟨List.mem_append_right _ (List.mem_of_getElem? (i := 304) (by decide +kernel)), by decide +kernel⟩
theorem tk_305 : Cond.instanceMethod yX0_holdersInWay ∈ gtbl := List.mem_filter.mpr ⟨List.mem_append_right _ (List.mem_of_getElem? (i := 305) (by decide +kernel)), by decide +kernel⟩
theorem tk_306 : Cond.selects RX0 yX0_holdersInWay yX0_holdersInWay ∈ gtbl := List.mem_filter.mpr ⟨List.mem_append_right _ (List.mem_of_getElem? (i := 306) (by decide +kernel)), by decide +kernel⟩
theorem tk_307 : Cond.code yX0_holdersInWay cX0_holdersInWay 6 (some .int) ∈ gtbl := List.mem_filter.mpr ⟨List.mem_append_right _ (List.mem_of_getElem? (i := 307) (by decide +kernel)), by decide +kernel⟩
theorem tk_309 : Cond.static yX8_inSet ∈ gtbl := List.mem_filter.mpr ⟨List.mem_append_right _ (List.mem_of_getElem? (i := 309) (by decide +kernel)), by decide +kernel⟩
theorem tk_310 : Cond.code yX8_inSet cX8_inSet 2 (some .boolean) ∈ gtbl := List.mem_filter.mpr ⟨List.mem_append_right _ (List.mem_of_getElem? (i := 310) (by decide +kernel)), by decide +kernel⟩
theorem tk_311 : Cond.methodLink RL 173 yX8_stuck ∈ gtbl := List.mem_filter.mpr ⟨List.mem_append_right _ (List.mem_of_getElem? (i := 311) (by decide +kernel)), by decide +kernel⟩
theorem tk_312 : Cond.instanceMethod yX8_stuck ∈ gtbl := List.mem_filter.mpr ⟨List.mem_append_right _ (List.mem_of_getElem? (i := 312) (by decide +kernel)), by decide +kernel⟩
theorem tk_313 : Cond.selects RX8 yX8_stuck yX8_stuck ∈ gtbl := List.mem_filter.mpr ⟨List.mem_append_right _ (List.mem_of_getElem? (i := 313) (by decide +kernel)), by decide +kernel⟩
theorem tk_314 : Cond.code yX8_stuck cX8_stuck 1 (some .int) ∈ gtbl := List.mem_filter.mpr ⟨List.mem_append_right _ (List.mem_of_getElem? (i := 314) (by decide +kernel)), by decide +kernel⟩
theorem tk_315 : Cond.methodLink RX8 214 yX7_leadingToRings ∈ gtbl := List.mem_filter.mpr ⟨List.mem_append_right _ (List.mem_of_getElem? (i := 315) (by decide +kernel)), by decide +kernel⟩
theorem tk_316 : Cond.instanceMethod yX7_leadingToRings ∈ gtbl := List.mem_filter.mpr ⟨List.mem_append_right _ (List.mem_of_getElem? (i := 316) (by decide +kernel)), by decide +kernel⟩
theorem tk_317 : Cond.selects RX7 yX7_leadingToRings yX7_leadingToRings ∈ gtbl := List.mem_filter.mpr ⟨List.mem_append_right _ (List.mem_of_getElem? (i := 317) (by decide +kernel)), by decide +kernel⟩
theorem tk_318 : Cond.code yX7_leadingToRings cX7_leadingToRings 3 (some .int) ∈ gtbl := List.mem_filter.mpr ⟨List.mem_append_right _ (List.mem_of_getElem? (i := 318) (by decide +kernel)), by decide +kernel⟩
theorem tk_319 : Cond.methodLink RL 180 yX8_cycles ∈ gtbl := List.mem_filter.mpr ⟨List.mem_append_right _ (List.mem_of_getElem? (i := 319) (by decide +kernel)), by decide +kernel⟩
theorem tk_320 : Cond.instanceMethod yX8_cycles ∈ gtbl := List.mem_filter.mpr ⟨List.mem_append_right _ (List.mem_of_getElem? (i := 320) (by decide +kernel)), by decide +kernel⟩
theorem tk_321 : Cond.selects RX8 yX8_cycles yX8_cycles ∈ gtbl := List.mem_filter.mpr ⟨List.mem_append_right _ (List.mem_of_getElem? (i := 321) (by decide +kernel)), by decide +kernel⟩
theorem tk_322 : Cond.code yX8_cycles cX8_cycles 1 (some .int) ∈ gtbl := List.mem_filter.mpr ⟨List.mem_append_right _ (List.mem_of_getElem? (i := 322) (by decide +kernel)), by decide +kernel⟩
theorem tk_323 : Cond.methodLink RX8 220 yX7_countRings ∈ gtbl := List.mem_filter.mpr ⟨List.mem_append_right _ (List.mem_of_getElem? (i := 323) (by decide +kernel)), by decide +kernel⟩
theorem tk_324 : Cond.instanceMethod yX7_countRings ∈ gtbl := List.mem_filter.mpr ⟨List.mem_append_right _ (List.mem_of_getElem? (i := 324) (by decide +kernel)), by decide +kernel⟩
theorem tk_325 : Cond.selects RX7 yX7_countRings yX7_countRings ∈ gtbl := List.mem_filter.mpr ⟨List.mem_append_right _ (List.mem_of_getElem? (i := 325) (by decide +kernel)), by decide +kernel⟩
theorem tk_326 : Cond.code yX7_countRings cX7_countRings 4 (some .int) ∈ gtbl := List.mem_filter.mpr ⟨List.mem_append_right _ (List.mem_of_getElem? (i := 326) (by decide +kernel)), by decide +kernel⟩
theorem tk_327 : Cond.methodLink RX7 44 yX7_ringsFrom ∈ gtbl := List.mem_filter.mpr ⟨List.mem_append_right _ (List.mem_of_getElem? (i := 327) (by decide +kernel)), by decide +kernel⟩
theorem tk_328 : Cond.instanceMethod yX7_ringsFrom ∈ gtbl := List.mem_filter.mpr ⟨List.mem_append_right _ (List.mem_of_getElem? (i := 328) (by decide +kernel)), by decide +kernel⟩
theorem tk_329 : Cond.selects RX7 yX7_ringsFrom yX7_ringsFrom ∈ gtbl := List.mem_filter.mpr ⟨List.mem_append_right _ (List.mem_of_getElem? (i := 329) (by decide +kernel)), by decide +kernel⟩
theorem tk_330 : Cond.code yX7_ringsFrom cX7_ringsFrom 10 (some .int) ∈ gtbl := List.mem_filter.mpr ⟨List.mem_append_right _ (List.mem_of_getElem? (i := 330) (by decide +kernel)), by decide +kernel⟩
theorem tk_331 : Cond.methodLink RX7 48 yX7_extend ∈ gtbl := List.mem_filter.mpr ⟨List.mem_append_right _ (List.mem_of_getElem? (i := 331) (by decide +kernel)), by decide +kernel⟩
theorem tk_332 : Cond.instanceMethod yX7_extend ∈ gtbl := List.mem_filter.mpr ⟨List.mem_append_right _ (List.mem_of_getElem? (i := 332) (by decide +kernel)), by decide +kernel⟩
theorem tk_333 : Cond.selects RX7 yX7_extend yX7_extend ∈ gtbl := List.mem_filter.mpr ⟨List.mem_append_right _ (List.mem_of_getElem? (i := 333) (by decide +kernel)), by decide +kernel⟩
theorem tk_334 : Cond.code yX7_extend cX7_extend 6 none ∈ gtbl := List.mem_filter.mpr ⟨List.mem_append_right _ (List.mem_of_getElem? (i := 334) (by decide +kernel)), by decide +kernel⟩
theorem tk_335 : Cond.methodLink RL 187 yX8_bestVictims ∈ gtbl := List.mem_filter.mpr ⟨List.mem_append_right _ (List.mem_of_getElem? (i := 335) (by decide +kernel)), by decide +kernel⟩
theorem tk_336 : Cond.instanceMethod yX8_bestVictims ∈ gtbl := List.mem_filter.mpr ⟨List.mem_append_right _ (List.mem_of_getElem? (i := 336) (by decide +kernel)), by decide +kernel⟩
theorem tk_337 : Cond.selects RX8 yX8_bestVictims yX8_bestVictims ∈ gtbl := List.mem_filter.mpr ⟨List.mem_append_right _ (List.mem_of_getElem? (i := 337) (by decide +kernel)), by decide +kernel⟩
theorem tk_338 : Cond.code yX8_bestVictims cX8_bestVictims 1 (some .int) ∈ gtbl := List.mem_filter.mpr ⟨List.mem_append_right _ (List.mem_of_getElem? (i := 338) (by decide +kernel)), by decide +kernel⟩
theorem tk_339 : Cond.methodLink RX8 232 yX7_leastVictims ∈ gtbl := List.mem_filter.mpr ⟨List.mem_append_right _ (List.mem_of_getElem? (i := 339) (by decide +kernel)), by decide +kernel⟩
theorem tk_340 : Cond.instanceMethod yX7_leastVictims ∈ gtbl := List.mem_filter.mpr ⟨List.mem_append_right _ (List.mem_of_getElem? (i := 340) (by decide +kernel)), by decide +kernel⟩
theorem tk_341 : Cond.selects RX7 yX7_leastVictims yX7_leastVictims ∈ gtbl := List.mem_filter.mpr ⟨List.mem_append_right _ (List.mem_of_getElem? (i := 341) (by decide +kernel)), by decide +kernel⟩
theorem tk_342 : Cond.code yX7_leastVictims cX7_leastVictims 7 (some .int) ∈ gtbl := List.mem_filter.mpr ⟨List.mem_append_right _ (List.mem_of_getElem? (i := 342) (by decide +kernel)), by decide +kernel⟩
theorem tk_343 : Cond.methodLink RX7 52 yX7_costOf ∈ gtbl := List.mem_filter.mpr ⟨List.mem_append_right _ (List.mem_of_getElem? (i := 343) (by decide +kernel)), by decide +kernel⟩
theorem tk_344 : Cond.instanceMethod yX7_costOf ∈ gtbl := List.mem_filter.mpr ⟨List.mem_append_right _ (List.mem_of_getElem? (i := 344) (by decide +kernel)), by decide +kernel⟩
theorem tk_345 : Cond.selects RX7 yX7_costOf yX7_costOf ∈ gtbl := List.mem_filter.mpr ⟨List.mem_append_right _ (List.mem_of_getElem? (i := 345) (by decide +kernel)), by decide +kernel⟩
theorem tk_346 : Cond.code yX7_costOf cX7_costOf 5 (some .int) ∈ gtbl := List.mem_filter.mpr ⟨List.mem_append_right _ (List.mem_of_getElem? (i := 346) (by decide +kernel)), by decide +kernel⟩
theorem tk_347 : Cond.methodLink RX7 55 yJ6_bitCount_0f7a4 ∈ gtbl := List.mem_filter.mpr ⟨List.mem_append_right _ (List.mem_of_getElem? (i := 347) (by decide +kernel)), by decide +kernel⟩
theorem tk_348 : Cond.static yJ6_bitCount_0f7a4 ∈ gtbl := List.mem_filter.mpr ⟨List.mem_append_right _ (List.mem_of_getElem? (i := 348) (by decide +kernel)), by decide +kernel⟩
theorem tk_349 : Cond.code yJ6_bitCount_0f7a4 cJ6_bitCount_0f7a4 1 (some .int) ∈ gtbl := List.mem_filter.mpr ⟨List.mem_append_right _ (List.mem_of_getElem? (i := 349) (by decide +kernel)), by decide +kernel⟩
theorem tk_350 : Cond.constant RJ6 265 1431655765 ∈ gtbl := List.mem_filter.mpr ⟨List.mem_append_right _ (List.mem_of_getElem? (i := 350) (by decide +kernel)), by decide +kernel⟩
theorem tk_351 : Cond.constant RJ6 266 858993459 ∈ gtbl := List.mem_filter.mpr ⟨List.mem_append_right _ (List.mem_of_getElem? (i := 351) (by decide +kernel)), by decide +kernel⟩
theorem tk_352 : Cond.constant RJ6 267 252645135 ∈ gtbl := List.mem_filter.mpr ⟨List.mem_append_right _ (List.mem_of_getElem? (i := 352) (by decide +kernel)), by decide +kernel⟩
theorem tk_353 : Cond.methodLink RX7 60 yX7_isRingFree ∈ gtbl := List.mem_filter.mpr ⟨List.mem_append_right _ (List.mem_of_getElem? (i := 353) (by decide +kernel)), by decide +kernel⟩
theorem tk_354 : Cond.instanceMethod yX7_isRingFree ∈ gtbl := List.mem_filter.mpr ⟨List.mem_append_right _ (List.mem_of_getElem? (i := 354) (by decide +kernel)), by decide +kernel⟩
theorem tk_355 : Cond.selects RX7 yX7_isRingFree yX7_isRingFree ∈ gtbl := List.mem_filter.mpr ⟨List.mem_append_right _ (List.mem_of_getElem? (i := 355) (by decide +kernel)), by decide +kernel⟩
theorem tk_356 : Cond.code yX7_isRingFree cX7_isRingFree 6 (some .boolean) ∈ gtbl := List.mem_filter.mpr ⟨List.mem_append_right _ (List.mem_of_getElem? (i := 356) (by decide +kernel)), by decide +kernel⟩
theorem tk_357 : Cond.methodLink RL 191 yX8_wouldEnd ∈ gtbl := List.mem_filter.mpr ⟨List.mem_append_right _ (List.mem_of_getElem? (i := 357) (by decide +kernel)), by decide +kernel⟩
theorem tk_358 : Cond.instanceMethod yX8_wouldEnd ∈ gtbl := List.mem_filter.mpr ⟨List.mem_append_right _ (List.mem_of_getElem? (i := 358) (by decide +kernel)), by decide +kernel⟩
theorem tk_359 : Cond.selects RX8 yX8_wouldEnd yX8_wouldEnd ∈ gtbl := List.mem_filter.mpr ⟨List.mem_append_right _ (List.mem_of_getElem? (i := 359) (by decide +kernel)), by decide +kernel⟩
theorem tk_360 : Cond.code yX8_wouldEnd cX8_wouldEnd 4 (some .int) ∈ gtbl := List.mem_filter.mpr ⟨List.mem_append_right _ (List.mem_of_getElem? (i := 360) (by decide +kernel)), by decide +kernel⟩
theorem tk_361 : Cond.methodLink RX8 236 yX0_copyFrom ∈ gtbl := List.mem_filter.mpr ⟨List.mem_append_right _ (List.mem_of_getElem? (i := 361) (by decide +kernel)), by decide +kernel⟩
theorem tk_362 : Cond.instanceMethod yX0_copyFrom ∈ gtbl := List.mem_filter.mpr ⟨List.mem_append_right _ (List.mem_of_getElem? (i := 362) (by decide +kernel)), by decide +kernel⟩
theorem tk_363 : Cond.selects RX0 yX0_copyFrom yX0_copyFrom ∈ gtbl := List.mem_filter.mpr ⟨List.mem_append_right _ (List.mem_of_getElem? (i := 363) (by decide +kernel)), by decide +kernel⟩
theorem tk_364 : Cond.code yX0_copyFrom cX0_copyFrom 2 none ∈ gtbl := List.mem_filter.mpr ⟨List.mem_append_right _ (List.mem_of_getElem? (i := 364) (by decide +kernel)), by decide +kernel⟩
theorem tk_365 : Cond.methodLink RX0 103 yX2_copyFrom ∈ gtbl := List.mem_filter.mpr ⟨List.mem_append_right _ (List.mem_of_getElem? (i := 365) (by decide +kernel)), by decide +kernel⟩
theorem tk_366 : Cond.instanceMethod yX2_copyFrom ∈ gtbl := List.mem_filter.mpr ⟨List.mem_append_right _ (List.mem_of_getElem? (i := 366) (by decide +kernel)), by decide +kernel⟩
theorem tk_367 : Cond.selects RX2 yX2_copyFrom yX2_copyFrom ∈ gtbl := List.mem_filter.mpr ⟨List.mem_append_right _ (List.mem_of_getElem? (i := 367) (by decide +kernel)), by decide +kernel⟩
theorem tk_368 : Cond.code yX2_copyFrom cX2_copyFrom 2 none ∈ gtbl := List.mem_filter.mpr ⟨List.mem_append_right _ (List.mem_of_getElem? (i := 368) (by decide +kernel)), by decide +kernel⟩
theorem tk_369 : Cond.methodLink RX2 33 arraycopyName ∈ gtbl := List.mem_filter.mpr ⟨List.mem_append_right _ (List.mem_of_getElem? (i := 369) (by decide +kernel)), by decide +kernel⟩
theorem tk_370 : Cond.static arraycopyName ∈ gtbl := List.mem_filter.mpr ⟨List.mem_append_right _ (List.mem_of_getElem? (i := 370) (by decide +kernel)), by decide +kernel⟩
theorem tk_371 : Cond.native arraycopyName ∈ gtbl := List.mem_filter.mpr ⟨List.mem_append_right _ (List.mem_of_getElem? (i := 371) (by decide +kernel)), by decide +kernel⟩
theorem tk_372 : Cond.methodLink RX0 107 yX4_copyFrom ∈ gtbl := List.mem_filter.mpr ⟨List.mem_append_right _ (List.mem_of_getElem? (i := 372) (by decide +kernel)), by decide +kernel⟩
theorem tk_373 : Cond.instanceMethod yX4_copyFrom ∈ gtbl := List.mem_filter.mpr ⟨List.mem_append_right _ (List.mem_of_getElem? (i := 373) (by decide +kernel)), by decide +kernel⟩
theorem tk_374 : Cond.selects RX4 yX4_copyFrom yX4_copyFrom ∈ gtbl := List.mem_filter.mpr ⟨List.mem_append_right _ (List.mem_of_getElem? (i := 374) (by decide +kernel)), by decide +kernel⟩
theorem tk_375 : Cond.code yX4_copyFrom cX4_copyFrom 2 none ∈ gtbl := List.mem_filter.mpr ⟨List.mem_append_right _ (List.mem_of_getElem? (i := 375) (by decide +kernel)), by decide +kernel⟩
theorem tk_376 : Cond.methodLink RX4 43 arraycopyName ∈ gtbl := List.mem_filter.mpr ⟨List.mem_append_right _ (List.mem_of_getElem? (i := 376) (by decide +kernel)), by decide +kernel⟩
theorem tk_377 : Cond.methodLink RX0 110 arraycopyName ∈ gtbl := List.mem_filter.mpr ⟨List.mem_append_right _ (List.mem_of_getElem? (i := 377) (by decide +kernel)), by decide +kernel⟩
theorem tk_378 : Cond.methodLink RX8 239 yX0_lowestRunning ∈ gtbl := List.mem_filter.mpr ⟨List.mem_append_right _ (List.mem_of_getElem? (i := 378) (by decide +kernel)), by decide +kernel⟩
theorem tk_379 : Cond.instanceMethod yX0_lowestRunning ∈ gtbl := List.mem_filter.mpr ⟨List.mem_append_right _ (List.mem_of_getElem? (i := 379) (by decide +kernel)), by decide +kernel⟩
theorem tk_380 : Cond.selects RX0 yX0_lowestRunning yX0_lowestRunning ∈ gtbl := List.mem_filter.mpr ⟨List.mem_append_right _ (List.mem_of_getElem? (i := 380) (by decide +kernel)), by decide +kernel⟩
theorem tk_381 : Cond.code yX0_lowestRunning cX0_lowestRunning 2 (some .int) ∈ gtbl := List.mem_filter.mpr ⟨List.mem_append_right _ (List.mem_of_getElem? (i := 381) (by decide +kernel)), by decide +kernel⟩
theorem tk_382 : Cond.methodLink RX8 242 yX0_dismiss ∈ gtbl := List.mem_filter.mpr ⟨List.mem_append_right _ (List.mem_of_getElem? (i := 382) (by decide +kernel)), by decide +kernel⟩
theorem tk_383 : Cond.instanceMethod yX0_dismiss ∈ gtbl := List.mem_filter.mpr ⟨List.mem_append_right _ (List.mem_of_getElem? (i := 383) (by decide +kernel)), by decide +kernel⟩
theorem tk_384 : Cond.selects RX0 yX0_dismiss yX0_dismiss ∈ gtbl := List.mem_filter.mpr ⟨List.mem_append_right _ (List.mem_of_getElem? (i := 384) (by decide +kernel)), by decide +kernel⟩
theorem tk_385 : Cond.code yX0_dismiss cX0_dismiss 2 none ∈ gtbl := List.mem_filter.mpr ⟨List.mem_append_right _ (List.mem_of_getElem? (i := 385) (by decide +kernel)), by decide +kernel⟩
theorem tk_386 : Cond.methodLink RX0 54 yX0_has ∈ gtbl := List.mem_filter.mpr ⟨List.mem_append_right _ (List.mem_of_getElem? (i := 386) (by decide +kernel)), by decide +kernel⟩
theorem tk_387 : Cond.instanceMethod yX0_has ∈ gtbl := List.mem_filter.mpr ⟨List.mem_append_right _ (List.mem_of_getElem? (i := 387) (by decide +kernel)), by decide +kernel⟩
theorem tk_388 : Cond.selects RX0 yX0_has yX0_has ∈ gtbl := List.mem_filter.mpr ⟨List.mem_append_right _ (List.mem_of_getElem? (i := 388) (by decide +kernel)), by decide +kernel⟩
theorem tk_389 : Cond.code yX0_has cX0_has 2 (some .boolean) ∈ gtbl := List.mem_filter.mpr ⟨List.mem_append_right _ (List.mem_of_getElem? (i := 389) (by decide +kernel)), by decide +kernel⟩
theorem tk_390 : Cond.methodLink RX8 246 yX0_settle ∈ gtbl := List.mem_filter.mpr ⟨List.mem_append_right _ (List.mem_of_getElem? (i := 390) (by decide +kernel)), by decide +kernel⟩
theorem tk_391 : Cond.instanceMethod yX0_settle ∈ gtbl := List.mem_filter.mpr ⟨List.mem_append_right _ (List.mem_of_getElem? (i := 391) (by decide +kernel)), by decide +kernel⟩
theorem tk_392 : Cond.selects RX0 yX0_settle yX0_settle ∈ gtbl := List.mem_filter.mpr ⟨List.mem_append_right _ (List.mem_of_getElem? (i := 392) (by decide +kernel)), by decide +kernel⟩
theorem tk_393 : Cond.code yX0_settle cX0_settle 6 (some .int) ∈ gtbl := List.mem_filter.mpr ⟨List.mem_append_right _ (List.mem_of_getElem? (i := 393) (by decide +kernel)), by decide +kernel⟩
theorem tk_394 : Cond.methodLink RX0 99 yX0_grant ∈ gtbl := List.mem_filter.mpr ⟨List.mem_append_right _ (List.mem_of_getElem? (i := 394) (by decide +kernel)), by decide +kernel⟩
theorem tk_395 : Cond.instanceMethod yX0_grant ∈ gtbl := List.mem_filter.mpr ⟨List.mem_append_right _ (List.mem_of_getElem? (i := 395) (by decide +kernel)), by decide +kernel⟩
theorem tk_396 : Cond.selects RX0 yX0_grant yX0_grant ∈ gtbl := List.mem_filter.mpr ⟨List.mem_append_right _ (List.mem_of_getElem? (i := 396) (by decide +kernel)), by decide +kernel⟩
theorem tk_397 : Cond.code yX0_grant cX0_grant 3 none ∈ gtbl := List.mem_filter.mpr ⟨List.mem_append_right _ (List.mem_of_getElem? (i := 397) (by decide +kernel)), by decide +kernel⟩
theorem tk_398 : Cond.methodLink RX0 58 yX2_has ∈ gtbl := List.mem_filter.mpr ⟨List.mem_append_right _ (List.mem_of_getElem? (i := 398) (by decide +kernel)), by decide +kernel⟩
theorem tk_399 : Cond.instanceMethod yX2_has ∈ gtbl := List.mem_filter.mpr ⟨List.mem_append_right _ (List.mem_of_getElem? (i := 399) (by decide +kernel)), by decide +kernel⟩
theorem tk_400 : Cond.selects RX2 yX2_has yX2_has ∈ gtbl := List.mem_filter.mpr ⟨List.mem_append_right _ (List.mem_of_getElem? (i := 400) (by decide +kernel)), by decide +kernel⟩
theorem tk_401 : Cond.code yX2_has cX2_has 2 (some .boolean) ∈ gtbl := List.mem_filter.mpr ⟨List.mem_append_right _ (List.mem_of_getElem? (i := 401) (by decide +kernel)), by decide +kernel⟩
theorem tk_402 : Cond.methodLink RL 198 yX8_clearText ∈ gtbl := List.mem_filter.mpr ⟨List.mem_append_right _ (List.mem_of_getElem? (i := 402) (by decide +kernel)), by decide +kernel⟩
theorem tk_403 : Cond.instanceMethod yX8_clearText ∈ gtbl := List.mem_filter.mpr ⟨List.mem_append_right _ (List.mem_of_getElem? (i := 403) (by decide +kernel)), by decide +kernel⟩
theorem tk_404 : Cond.selects RX8 yX8_clearText yX8_clearText ∈ gtbl := List.mem_filter.mpr ⟨List.mem_append_right _ (List.mem_of_getElem? (i := 404) (by decide +kernel)), by decide +kernel⟩
theorem tk_405 : Cond.code yX8_clearText cX8_clearText 2 (some .int) ∈ gtbl := List.mem_filter.mpr ⟨List.mem_append_right _ (List.mem_of_getElem? (i := 405) (by decide +kernel)), by decide +kernel⟩
theorem tk_406 : Cond.methodLink RL 202 yX8_fault ∈ gtbl := List.mem_filter.mpr ⟨List.mem_append_right _ (List.mem_of_getElem? (i := 406) (by decide +kernel)), by decide +kernel⟩
theorem tk_407 : Cond.instanceMethod yX8_fault ∈ gtbl := List.mem_filter.mpr ⟨List.mem_append_right _ (List.mem_of_getElem? (i := 407) (by decide +kernel)), by decide +kernel⟩
theorem tk_408 : Cond.selects RX8 yX8_fault yX8_fault ∈ gtbl := List.mem_filter.mpr ⟨List.mem_append_right _ (List.mem_of_getElem? (i := 408) (by decide +kernel)), by decide +kernel⟩
theorem tk_409 : Cond.code yX8_fault cX8_fault 1 (some .int) ∈ gtbl := List.mem_filter.mpr ⟨List.mem_append_right _ (List.mem_of_getElem? (i := 409) (by decide +kernel)), by decide +kernel⟩
theorem tk_410 : Cond.methodLink RX8 255 yX5_firstFault ∈ gtbl := List.mem_filter.mpr ⟨List.mem_append_right _ (List.mem_of_getElem? (i := 410) (by decide +kernel)), by decide +kernel⟩
theorem tk_411 : Cond.instanceMethod yX5_firstFault ∈ gtbl := List.mem_filter.mpr ⟨List.mem_append_right _ (List.mem_of_getElem? (i := 411) (by decide +kernel)), by decide +kernel⟩
theorem tk_412 : Cond.selects RX5 yX5_firstFault yX5_firstFault ∈ gtbl := List.mem_filter.mpr ⟨List.mem_append_right _ (List.mem_of_getElem? (i := 412) (by decide +kernel)), by decide +kernel⟩
theorem tk_413 : Cond.code yX5_firstFault cX5_firstFault 5 (some .int) ∈ gtbl := List.mem_filter.mpr ⟨List.mem_append_right _ (List.mem_of_getElem? (i := 413) (by decide +kernel)), by decide +kernel⟩
theorem tk_414 : Cond.methodLink RX5 19 yX5_numbersAfter ∈ gtbl := List.mem_filter.mpr ⟨List.mem_append_right _ (List.mem_of_getElem? (i := 414) (by decide +kernel)), by decide +kernel⟩
theorem tk_415 : Cond.static yX5_numbersAfter ∈ gtbl := List.mem_filter.mpr ⟨List.mem_append_right _ (List.mem_of_getElem? (i := 415) (by decide +kernel)), by decide +kernel⟩
theorem tk_416 : Cond.code yX5_numbersAfter cX5_numbersAfter 1 (some .int) ∈ gtbl := List.mem_filter.mpr ⟨List.mem_append_right _ (List.mem_of_getElem? (i := 416) (by decide +kernel)), by decide +kernel⟩
theorem tk_418 : Cond.static yX8_isDigit ∈ gtbl := List.mem_filter.mpr ⟨List.mem_append_right _ (List.mem_of_getElem? (i := 418) (by decide +kernel)), by decide +kernel⟩
theorem tk_419 : Cond.code yX8_isDigit cX8_isDigit 1 (some .boolean) ∈ gtbl := List.mem_filter.mpr ⟨List.mem_append_right _ (List.mem_of_getElem? (i := 419) (by decide +kernel)), by decide +kernel⟩
theorem tk_420 : Cond.methodLink RL 213 yX8_checksum ∈ gtbl := List.mem_filter.mpr ⟨List.mem_append_right _ (List.mem_of_getElem? (i := 420) (by decide +kernel)), by decide +kernel⟩
theorem tk_421 : Cond.instanceMethod yX8_checksum ∈ gtbl := List.mem_filter.mpr ⟨List.mem_append_right _ (List.mem_of_getElem? (i := 421) (by decide +kernel)), by decide +kernel⟩
theorem tk_422 : Cond.selects RX8 yX8_checksum yX8_checksum ∈ gtbl := List.mem_filter.mpr ⟨List.mem_append_right _ (List.mem_of_getElem? (i := 422) (by decide +kernel)), by decide +kernel⟩
theorem tk_423 : Cond.code yX8_checksum cX8_checksum 5 (some .long) ∈ gtbl := List.mem_filter.mpr ⟨List.mem_append_right _ (List.mem_of_getElem? (i := 423) (by decide +kernel)), by decide +kernel⟩
theorem tk_424 : Cond.constantLong RX8 276 18547 ∈ gtbl := List.mem_filter.mpr ⟨List.mem_append_right _ (List.mem_of_getElem? (i := 424) (by decide +kernel)), by decide +kernel⟩
theorem tk_425 : Cond.methodLink RX8 278 yX8_mix ∈ gtbl := List.mem_filter.mpr ⟨List.mem_append_right _ (List.mem_of_getElem? (i := 425) (by decide +kernel)), by decide +kernel⟩
theorem tk_426 : Cond.static yX8_mix ∈ gtbl := List.mem_filter.mpr ⟨List.mem_append_right _ (List.mem_of_getElem? (i := 426) (by decide +kernel)), by decide +kernel⟩
theorem tk_427 : Cond.code yX8_mix cX8_mix 4 (some .long) ∈ gtbl := List.mem_filter.mpr ⟨List.mem_append_right _ (List.mem_of_getElem? (i := 427) (by decide +kernel)), by decide +kernel⟩
theorem tk_428 : Cond.constantLong RX8 302 31 ∈ gtbl := List.mem_filter.mpr ⟨List.mem_append_right _ (List.mem_of_getElem? (i := 428) (by decide +kernel)), by decide +kernel⟩
theorem tk_429 : Cond.methodLink RX8 125 yX0_has ∈ gtbl := List.mem_filter.mpr ⟨List.mem_append_right _ (List.mem_of_getElem? (i := 429) (by decide +kernel)), by decide +kernel⟩
theorem tk_430 : Cond.methodLink RX8 282 yX8_task ∈ gtbl := List.mem_filter.mpr ⟨List.mem_append_right _ (List.mem_of_getElem? (i := 430) (by decide +kernel)), by decide +kernel⟩
theorem tk_431 : Cond.instanceMethod yX8_task ∈ gtbl := List.mem_filter.mpr ⟨List.mem_append_right _ (List.mem_of_getElem? (i := 431) (by decide +kernel)), by decide +kernel⟩
theorem tk_432 : Cond.selects RX8 yX8_task yX8_task ∈ gtbl := List.mem_filter.mpr ⟨List.mem_append_right _ (List.mem_of_getElem? (i := 432) (by decide +kernel)), by decide +kernel⟩
theorem tk_433 : Cond.code yX8_task cX8_task 3 (some .int) ∈ gtbl := List.mem_filter.mpr ⟨List.mem_append_right _ (List.mem_of_getElem? (i := 433) (by decide +kernel)), by decide +kernel⟩
theorem tk_434 : Cond.methodLink RX8 66 yX8_needThing ∈ gtbl := List.mem_filter.mpr ⟨List.mem_append_right _ (List.mem_of_getElem? (i := 434) (by decide +kernel)), by decide +kernel⟩
theorem tk_435 : Cond.static yX8_needThing ∈ gtbl := List.mem_filter.mpr ⟨List.mem_append_right _ (List.mem_of_getElem? (i := 435) (by decide +kernel)), by decide +kernel⟩
theorem tk_436 : Cond.code yX8_needThing cX8_needThing 1 none ∈ gtbl := List.mem_filter.mpr ⟨List.mem_append_right _ (List.mem_of_getElem? (i := 436) (by decide +kernel)), by decide +kernel⟩
theorem tk_437 : Cond.classLink RX8 285 "java/lang/IndexOutOfBoundsException" ∈ gtbl := List.mem_filter.mpr ⟨List.mem_append_right _ (List.mem_of_getElem? (i := 437) (by decide +kernel)), by decide +kernel⟩
theorem tk_504 : Cond.arrayClass .byte ∈ gtbl := List.mem_filter.mpr ⟨List.mem_append_right _ (List.mem_of_getElem? (i := 504) (by decide +kernel)), by decide +kernel⟩
theorem tk_505 : Cond.methodLink RX8 89 yX8_needValue ∈ gtbl := List.mem_filter.mpr ⟨List.mem_append_right _ (List.mem_of_getElem? (i := 505) (by decide +kernel)), by decide +kernel⟩
theorem tk_506 : Cond.static yX8_needValue ∈ gtbl := List.mem_filter.mpr ⟨List.mem_append_right _ (List.mem_of_getElem? (i := 506) (by decide +kernel)), by decide +kernel⟩
theorem tk_507 : Cond.code yX8_needValue cX8_needValue 1 none ∈ gtbl := List.mem_filter.mpr ⟨List.mem_append_right _ (List.mem_of_getElem? (i := 507) (by decide +kernel)), by decide +kernel⟩
theorem tk_508 : Cond.classLink RX8 292 "java/lang/IllegalArgumentException" ∈ gtbl := List.mem_filter.mpr ⟨List.mem_append_right _ (List.mem_of_getElem? (i := 508) (by decide +kernel)), by decide +kernel⟩
theorem tk_524 : Cond.methodLink RX8 165 yX0_waitsFor ∈ gtbl := List.mem_filter.mpr ⟨List.mem_append_right _ (List.mem_of_getElem? (i := 524) (by decide +kernel)), by decide +kernel⟩
theorem tk_525 : Cond.methodLink RX8 168 yX0_positionOf ∈ gtbl := List.mem_filter.mpr ⟨List.mem_append_right _ (List.mem_of_getElem? (i := 525) (by decide +kernel)), by decide +kernel⟩
theorem tk_526 : Cond.instanceMethod yX0_positionOf ∈ gtbl := List.mem_filter.mpr ⟨List.mem_append_right _ (List.mem_of_getElem? (i := 526) (by decide +kernel)), by decide +kernel⟩
theorem tk_527 : Cond.selects RX0 yX0_positionOf yX0_positionOf ∈ gtbl := List.mem_filter.mpr ⟨List.mem_append_right _ (List.mem_of_getElem? (i := 527) (by decide +kernel)), by decide +kernel⟩
theorem tk_528 : Cond.code yX0_positionOf cX0_positionOf 3 (some .int) ∈ gtbl := List.mem_filter.mpr ⟨List.mem_append_right _ (List.mem_of_getElem? (i := 528) (by decide +kernel)), by decide +kernel⟩
theorem tk_529 : Cond.methodLink RX8 202 yX4_property ∈ gtbl := List.mem_filter.mpr ⟨List.mem_append_right _ (List.mem_of_getElem? (i := 529) (by decide +kernel)), by decide +kernel⟩
theorem tk_530 : Cond.instanceMethod yX4_property ∈ gtbl := List.mem_filter.mpr ⟨List.mem_append_right _ (List.mem_of_getElem? (i := 530) (by decide +kernel)), by decide +kernel⟩
theorem tk_531 : Cond.selects RX4 yX4_property yX4_property ∈ gtbl := List.mem_filter.mpr ⟨List.mem_append_right _ (List.mem_of_getElem? (i := 531) (by decide +kernel)), by decide +kernel⟩
theorem tk_532 : Cond.code yX4_property cX4_property 4 (some .int) ∈ gtbl := List.mem_filter.mpr ⟨List.mem_append_right _ (List.mem_of_getElem? (i := 532) (by decide +kernel)), by decide +kernel⟩
theorem tk_533 : Cond.methodLink RX4 36 yX4_rowOf ∈ gtbl := List.mem_filter.mpr ⟨List.mem_append_right _ (List.mem_of_getElem? (i := 533) (by decide +kernel)), by decide +kernel⟩
theorem tk_534 : Cond.instanceMethod yX4_rowOf ∈ gtbl := List.mem_filter.mpr ⟨List.mem_append_right _ (List.mem_of_getElem? (i := 534) (by decide +kernel)), by decide +kernel⟩
theorem tk_535 : Cond.selects RX4 yX4_rowOf yX4_rowOf ∈ gtbl := List.mem_filter.mpr ⟨List.mem_append_right _ (List.mem_of_getElem? (i := 535) (by decide +kernel)), by decide +kernel⟩
theorem tk_536 : Cond.code yX4_rowOf cX4_rowOf 2 (some .int) ∈ gtbl := List.mem_filter.mpr ⟨List.mem_append_right _ (List.mem_of_getElem? (i := 536) (by decide +kernel)), by decide +kernel⟩
theorem tk_537 : Cond.methodLink RX4 25 yX4_taskAt ∈ gtbl := List.mem_filter.mpr ⟨List.mem_append_right _ (List.mem_of_getElem? (i := 537) (by decide +kernel)), by decide +kernel⟩
theorem tk_538 : Cond.static yX4_taskAt ∈ gtbl := List.mem_filter.mpr ⟨List.mem_append_right _ (List.mem_of_getElem? (i := 538) (by decide +kernel)), by decide +kernel⟩
theorem tk_539 : Cond.code yX4_taskAt cX4_taskAt 3 (some .int) ∈ gtbl := List.mem_filter.mpr ⟨List.mem_append_right _ (List.mem_of_getElem? (i := 539) (by decide +kernel)), by decide +kernel⟩
theorem tk_540 : Cond.methodLink RX4 40 yX4_members ∈ gtbl := List.mem_filter.mpr ⟨List.mem_append_right _ (List.mem_of_getElem? (i := 540) (by decide +kernel)), by decide +kernel⟩
theorem tk_541 : Cond.static yX4_members ∈ gtbl := List.mem_filter.mpr ⟨List.mem_append_right _ (List.mem_of_getElem? (i := 541) (by decide +kernel)), by decide +kernel⟩
theorem tk_542 : Cond.code yX4_members cX4_members 5 (some .int) ∈ gtbl := List.mem_filter.mpr ⟨List.mem_append_right _ (List.mem_of_getElem? (i := 542) (by decide +kernel)), by decide +kernel⟩
theorem tk_543 : Cond.methodLink RL 92 yL_addResource ∈ gtbl := List.mem_filter.mpr ⟨List.mem_append_right _ (List.mem_of_getElem? (i := 543) (by decide +kernel)), by decide +kernel⟩
theorem tk_544 : Cond.static yL_addResource ∈ gtbl := List.mem_filter.mpr ⟨List.mem_append_right _ (List.mem_of_getElem? (i := 544) (by decide +kernel)), by decide +kernel⟩
theorem tk_545 : Cond.codeWith yL_addResource cL_addResource 4 (some .int) [(0, 9, 12, 13), (0, 9, 15, 15)] ∈ gtbl := List.mem_filter.mpr ⟨List.mem_append_right _ (List.mem_of_getElem? (i := 545) (by decide +kernel)), by decide +kernel⟩
theorem tk_546 : Cond.classLink RL 13 "java/lang/IndexOutOfBoundsException" ∈ gtbl := List.mem_filter.mpr ⟨List.mem_append_right _ (List.mem_of_getElem? (i := 546) (by decide +kernel)), by decide +kernel⟩
theorem tk_547 : Cond.classLink RL 15 "java/lang/IllegalStateException" ∈ gtbl := List.mem_filter.mpr ⟨List.mem_append_right _ (List.mem_of_getElem? (i := 547) (by decide +kernel)), by decide +kernel⟩
theorem tk_548 : Cond.methodLink RL 7 yX8_addResource ∈ gtbl := List.mem_filter.mpr ⟨List.mem_append_right _ (List.mem_of_getElem? (i := 548) (by decide +kernel)), by decide +kernel⟩
theorem tk_549 : Cond.instanceMethod yX8_addResource ∈ gtbl := List.mem_filter.mpr ⟨List.mem_append_right _ (List.mem_of_getElem? (i := 549) (by decide +kernel)), by decide +kernel⟩
theorem tk_550 : Cond.selects RX8 yX8_addResource yX8_addResource ∈ gtbl := List.mem_filter.mpr ⟨List.mem_append_right _ (List.mem_of_getElem? (i := 550) (by decide +kernel)), by decide +kernel⟩
theorem tk_551 : Cond.code yX8_addResource cX8_addResource 2 (some .int) ∈ gtbl := List.mem_filter.mpr ⟨List.mem_append_right _ (List.mem_of_getElem? (i := 551) (by decide +kernel)), by decide +kernel⟩
theorem tk_552 : Cond.methodLink RX8 60 yX2_has ∈ gtbl := List.mem_filter.mpr ⟨List.mem_append_right _ (List.mem_of_getElem? (i := 552) (by decide +kernel)), by decide +kernel⟩
theorem tk_553 : Cond.methodLink RX8 74 yX8_needState ∈ gtbl := List.mem_filter.mpr ⟨List.mem_append_right _ (List.mem_of_getElem? (i := 553) (by decide +kernel)), by decide +kernel⟩
theorem tk_554 : Cond.static yX8_needState ∈ gtbl := List.mem_filter.mpr ⟨List.mem_append_right _ (List.mem_of_getElem? (i := 554) (by decide +kernel)), by decide +kernel⟩
theorem tk_555 : Cond.code yX8_needState cX8_needState 1 none ∈ gtbl := List.mem_filter.mpr ⟨List.mem_append_right _ (List.mem_of_getElem? (i := 555) (by decide +kernel)), by decide +kernel⟩
theorem tk_556 : Cond.classLink RX8 297 "java/lang/IllegalStateException" ∈ gtbl := List.mem_filter.mpr ⟨List.mem_append_right _ (List.mem_of_getElem? (i := 556) (by decide +kernel)), by decide +kernel⟩
theorem tk_572 : Cond.methodLink RX8 77 yX3_keep ∈ gtbl := List.mem_filter.mpr ⟨List.mem_append_right _ (List.mem_of_getElem? (i := 572) (by decide +kernel)), by decide +kernel⟩
theorem tk_573 : Cond.instanceMethod yX3_keep ∈ gtbl := List.mem_filter.mpr ⟨List.mem_append_right _ (List.mem_of_getElem? (i := 573) (by decide +kernel)), by decide +kernel⟩
theorem tk_574 : Cond.selects RX3 yX3_keep yX3_keep ∈ gtbl := List.mem_filter.mpr ⟨List.mem_append_right _ (List.mem_of_getElem? (i := 574) (by decide +kernel)), by decide +kernel⟩
theorem tk_575 : Cond.code yX3_keep cX3_keep 3 none ∈ gtbl := List.mem_filter.mpr ⟨List.mem_append_right _ (List.mem_of_getElem? (i := 575) (by decide +kernel)), by decide +kernel⟩
theorem tk_576 : Cond.methodLink RX3 21 yX3_dropOldest ∈ gtbl := List.mem_filter.mpr ⟨List.mem_append_right _ (List.mem_of_getElem? (i := 576) (by decide +kernel)), by decide +kernel⟩
theorem tk_577 : Cond.instanceMethod yX3_dropOldest ∈ gtbl := List.mem_filter.mpr ⟨List.mem_append_right _ (List.mem_of_getElem? (i := 577) (by decide +kernel)), by decide +kernel⟩
theorem tk_578 : Cond.selects RX3 yX3_dropOldest yX3_dropOldest ∈ gtbl := List.mem_filter.mpr ⟨List.mem_append_right _ (List.mem_of_getElem? (i := 578) (by decide +kernel)), by decide +kernel⟩
theorem tk_579 : Cond.code yX3_dropOldest cX3_dropOldest 3 none ∈ gtbl := List.mem_filter.mpr ⟨List.mem_append_right _ (List.mem_of_getElem? (i := 579) (by decide +kernel)), by decide +kernel⟩
theorem tk_581 : Cond.methodLink RX3 25 yX0_copyFrom ∈ gtbl := List.mem_filter.mpr ⟨List.mem_append_right _ (List.mem_of_getElem? (i := 581) (by decide +kernel)), by decide +kernel⟩
theorem tk_582 : Cond.methodLink RX8 81 yX2_grow ∈ gtbl := List.mem_filter.mpr ⟨List.mem_append_right _ (List.mem_of_getElem? (i := 582) (by decide +kernel)), by decide +kernel⟩
theorem tk_583 : Cond.instanceMethod yX2_grow ∈ gtbl := List.mem_filter.mpr ⟨List.mem_append_right _ (List.mem_of_getElem? (i := 583) (by decide +kernel)), by decide +kernel⟩
theorem tk_584 : Cond.selects RX2 yX2_grow yX2_grow ∈ gtbl := List.mem_filter.mpr ⟨List.mem_append_right _ (List.mem_of_getElem? (i := 584) (by decide +kernel)), by decide +kernel⟩
theorem tk_585 : Cond.code yX2_grow cX2_grow 4 (some .int) ∈ gtbl := List.mem_filter.mpr ⟨List.mem_append_right _ (List.mem_of_getElem? (i := 585) (by decide +kernel)), by decide +kernel⟩
theorem tk_586 : Cond.methodLink RX2 25 yX2_has ∈ gtbl := List.mem_filter.mpr ⟨List.mem_append_right _ (List.mem_of_getElem? (i := 586) (by decide +kernel)), by decide +kernel⟩
theorem tk_588 : Cond.methodLink RL 105 yL_resource ∈ gtbl := List.mem_filter.mpr ⟨List.mem_append_right _ (List.mem_of_getElem? (i := 588) (by decide +kernel)), by decide +kernel⟩
theorem tk_589 : Cond.static yL_resource ∈ gtbl := List.mem_filter.mpr ⟨List.mem_append_right _ (List.mem_of_getElem? (i := 589) (by decide +kernel)), by decide +kernel⟩
theorem tk_590 : Cond.codeWith yL_resource cL_resource 5 (some .int) [(0, 10, 13, 13), (0, 10, 17, 21)] ∈ gtbl := List.mem_filter.mpr ⟨List.mem_append_right _ (List.mem_of_getElem? (i := 590) (by decide +kernel)), by decide +kernel⟩
theorem tk_591 : Cond.classLink RL 21 "java/lang/IllegalArgumentException" ∈ gtbl := List.mem_filter.mpr ⟨List.mem_append_right _ (List.mem_of_getElem? (i := 591) (by decide +kernel)), by decide +kernel⟩
theorem tk_592 : Cond.methodLink RL 17 yX8_resource ∈ gtbl := List.mem_filter.mpr ⟨List.mem_append_right _ (List.mem_of_getElem? (i := 592) (by decide +kernel)), by decide +kernel⟩
theorem tk_593 : Cond.instanceMethod yX8_resource ∈ gtbl := List.mem_filter.mpr ⟨List.mem_append_right _ (List.mem_of_getElem? (i := 593) (by decide +kernel)), by decide +kernel⟩
theorem tk_594 : Cond.selects RX8 yX8_resource yX8_resource ∈ gtbl := List.mem_filter.mpr ⟨List.mem_append_right _ (List.mem_of_getElem? (i := 594) (by decide +kernel)), by decide +kernel⟩
theorem tk_595 : Cond.code yX8_resource cX8_resource 3 (some .int) ∈ gtbl := List.mem_filter.mpr ⟨List.mem_append_right _ (List.mem_of_getElem? (i := 595) (by decide +kernel)), by decide +kernel⟩
theorem tk_596 : Cond.methodLink RX8 99 yJ6_bitCount_0f7a4 ∈ gtbl := List.mem_filter.mpr ⟨List.mem_append_right _ (List.mem_of_getElem? (i := 596) (by decide +kernel)), by decide +kernel⟩
theorem tk_597 : Cond.methodLink RX8 107 yX0_ownerOf ∈ gtbl := List.mem_filter.mpr ⟨List.mem_append_right _ (List.mem_of_getElem? (i := 597) (by decide +kernel)), by decide +kernel⟩
theorem tk_598 : Cond.instanceMethod yX0_ownerOf ∈ gtbl := List.mem_filter.mpr ⟨List.mem_append_right _ (List.mem_of_getElem? (i := 598) (by decide +kernel)), by decide +kernel⟩
theorem tk_599 : Cond.selects RX0 yX0_ownerOf yX0_ownerOf ∈ gtbl := List.mem_filter.mpr ⟨List.mem_append_right _ (List.mem_of_getElem? (i := 599) (by decide +kernel)), by decide +kernel⟩
theorem tk_600 : Cond.code yX0_ownerOf cX0_ownerOf 3 (some .int) ∈ gtbl := List.mem_filter.mpr ⟨List.mem_append_right _ (List.mem_of_getElem? (i := 600) (by decide +kernel)), by decide +kernel⟩
theorem tk_601 : Cond.methodLink RX0 75 yX0_covers ∈ gtbl := List.mem_filter.mpr ⟨List.mem_append_right _ (List.mem_of_getElem? (i := 601) (by decide +kernel)), by decide +kernel⟩
theorem tk_602 : Cond.instanceMethod yX0_covers ∈ gtbl := List.mem_filter.mpr ⟨List.mem_append_right _ (List.mem_of_getElem? (i := 602) (by decide +kernel)), by decide +kernel⟩
theorem tk_603 : Cond.selects RX0 yX0_covers yX0_covers ∈ gtbl := List.mem_filter.mpr ⟨List.mem_append_right _ (List.mem_of_getElem? (i := 603) (by decide +kernel)), by decide +kernel⟩
theorem tk_604 : Cond.code yX0_covers cX0_covers 3 (some .boolean) ∈ gtbl := List.mem_filter.mpr ⟨List.mem_append_right _ (List.mem_of_getElem? (i := 604) (by decide +kernel)), by decide +kernel⟩
theorem tk_605 : Cond.methodLink RX8 110 yX0_holdersInWay ∈ gtbl := List.mem_filter.mpr ⟨List.mem_append_right _ (List.mem_of_getElem? (i := 605) (by decide +kernel)), by decide +kernel⟩
theorem tk_606 : Cond.methodLink RL 109 yL_overlap ∈ gtbl := List.mem_filter.mpr ⟨List.mem_append_right _ (List.mem_of_getElem? (i := 606) (by decide +kernel)), by decide +kernel⟩
theorem tk_607 : Cond.static yL_overlap ∈ gtbl := List.mem_filter.mpr ⟨List.mem_append_right _ (List.mem_of_getElem? (i := 607) (by decide +kernel)), by decide +kernel⟩
theorem tk_608 : Cond.codeWith yL_overlap cL_overlap 5 (some .int) [(0, 17, 20, 13)] ∈ gtbl := List.mem_filter.mpr ⟨List.mem_append_right _ (List.mem_of_getElem? (i := 608) (by decide +kernel)), by decide +kernel⟩
theorem tk_609 : Cond.methodLink RL 23 yX8_overlap ∈ gtbl := List.mem_filter.mpr ⟨List.mem_append_right _ (List.mem_of_getElem? (i := 609) (by decide +kernel)), by decide +kernel⟩
theorem tk_610 : Cond.instanceMethod yX8_overlap ∈ gtbl := List.mem_filter.mpr ⟨List.mem_append_right _ (List.mem_of_getElem? (i := 610) (by decide +kernel)), by decide +kernel⟩
theorem tk_611 : Cond.selects RX8 yX8_overlap yX8_overlap ∈ gtbl := List.mem_filter.mpr ⟨List.mem_append_right _ (List.mem_of_getElem? (i := 611) (by decide +kernel)), by decide +kernel⟩
theorem tk_612 : Cond.code yX8_overlap cX8_overlap 3 (some .boolean) ∈ gtbl := List.mem_filter.mpr ⟨List.mem_append_right _ (List.mem_of_getElem? (i := 612) (by decide +kernel)), by decide +kernel⟩
theorem tk_613 : Cond.methodLink RX8 114 yX8_inSet ∈ gtbl := List.mem_filter.mpr ⟨List.mem_append_right _ (List.mem_of_getElem? (i := 613) (by decide +kernel)), by decide +kernel⟩
theorem tk_614 : Cond.methodLink RL 112 yL_create ∈ gtbl := List.mem_filter.mpr ⟨List.mem_append_right _ (List.mem_of_getElem? (i := 614) (by decide +kernel)), by decide +kernel⟩
theorem tk_615 : Cond.static yL_create ∈ gtbl := List.mem_filter.mpr ⟨List.mem_append_right _ (List.mem_of_getElem? (i := 615) (by decide +kernel)), by decide +kernel⟩
theorem tk_616 : Cond.codeWith yL_create cL_create 4 (some .int) [(0, 9, 12, 21), (0, 9, 15, 15)] ∈ gtbl := List.mem_filter.mpr ⟨List.mem_append_right _ (List.mem_of_getElem? (i := 616) (by decide +kernel)), by decide +kernel⟩
theorem tk_617 : Cond.methodLink RL 27 yX8_create ∈ gtbl := List.mem_filter.mpr ⟨List.mem_append_right _ (List.mem_of_getElem? (i := 617) (by decide +kernel)), by decide +kernel⟩
theorem tk_618 : Cond.instanceMethod yX8_create ∈ gtbl := List.mem_filter.mpr ⟨List.mem_append_right _ (List.mem_of_getElem? (i := 618) (by decide +kernel)), by decide +kernel⟩
theorem tk_619 : Cond.selects RX8 yX8_create yX8_create ∈ gtbl := List.mem_filter.mpr ⟨List.mem_append_right _ (List.mem_of_getElem? (i := 619) (by decide +kernel)), by decide +kernel⟩
theorem tk_620 : Cond.code yX8_create cX8_create 2 (some .int) ∈ gtbl := List.mem_filter.mpr ⟨List.mem_append_right _ (List.mem_of_getElem? (i := 620) (by decide +kernel)), by decide +kernel⟩
theorem tk_621 : Cond.methodLink RX8 118 yX0_freeNumber ∈ gtbl := List.mem_filter.mpr ⟨List.mem_append_right _ (List.mem_of_getElem? (i := 621) (by decide +kernel)), by decide +kernel⟩
theorem tk_622 : Cond.instanceMethod yX0_freeNumber ∈ gtbl := List.mem_filter.mpr ⟨List.mem_append_right _ (List.mem_of_getElem? (i := 622) (by decide +kernel)), by decide +kernel⟩
theorem tk_623 : Cond.selects RX0 yX0_freeNumber yX0_freeNumber ∈ gtbl := List.mem_filter.mpr ⟨List.mem_append_right _ (List.mem_of_getElem? (i := 623) (by decide +kernel)), by decide +kernel⟩
theorem tk_624 : Cond.code yX0_freeNumber cX0_freeNumber 2 (some .int) ∈ gtbl := List.mem_filter.mpr ⟨List.mem_append_right _ (List.mem_of_getElem? (i := 624) (by decide +kernel)), by decide +kernel⟩
theorem tk_626 : Cond.methodLink RX8 122 yX0_enroll ∈ gtbl := List.mem_filter.mpr ⟨List.mem_append_right _ (List.mem_of_getElem? (i := 626) (by decide +kernel)), by decide +kernel⟩
theorem tk_627 : Cond.instanceMethod yX0_enroll ∈ gtbl := List.mem_filter.mpr ⟨List.mem_append_right _ (List.mem_of_getElem? (i := 627) (by decide +kernel)), by decide +kernel⟩
theorem tk_628 : Cond.selects RX0 yX0_enroll yX0_enroll ∈ gtbl := List.mem_filter.mpr ⟨List.mem_append_right _ (List.mem_of_getElem? (i := 628) (by decide +kernel)), by decide +kernel⟩
theorem tk_629 : Cond.code yX0_enroll cX0_enroll 3 (some .int) ∈ gtbl := List.mem_filter.mpr ⟨List.mem_append_right _ (List.mem_of_getElem? (i := 629) (by decide +kernel)), by decide +kernel⟩
theorem tk_630 : Cond.methodLink RX0 88 yX0_freeNumber ∈ gtbl := List.mem_filter.mpr ⟨List.mem_append_right _ (List.mem_of_getElem? (i := 630) (by decide +kernel)), by decide +kernel⟩
theorem tk_631 : Cond.methodLink RL 115 yL_request ∈ gtbl := List.mem_filter.mpr ⟨List.mem_append_right _ (List.mem_of_getElem? (i := 631) (by decide +kernel)), by decide +kernel⟩
theorem tk_632 : Cond.static yL_request ∈ gtbl := List.mem_filter.mpr ⟨List.mem_append_right _ (List.mem_of_getElem? (i := 632) (by decide +kernel)), by decide +kernel⟩
theorem tk_633 : Cond.codeWith yL_request cL_request 5 (some .int) [(0, 10, 13, 13), (0, 10, 17, 15)] ∈ gtbl := List.mem_filter.mpr ⟨List.mem_append_right _ (List.mem_of_getElem? (i := 633) (by decide +kernel)), by decide +kernel⟩
theorem tk_634 : Cond.methodLink RL 30 yX8_request ∈ gtbl := List.mem_filter.mpr ⟨List.mem_append_right _ (List.mem_of_getElem? (i := 634) (by decide +kernel)), by decide +kernel⟩
theorem tk_635 : Cond.instanceMethod yX8_request ∈ gtbl := List.mem_filter.mpr ⟨List.mem_append_right _ (List.mem_of_getElem? (i := 635) (by decide +kernel)), by decide +kernel⟩
theorem tk_636 : Cond.selects RX8 yX8_request yX8_request ∈ gtbl := List.mem_filter.mpr ⟨List.mem_append_right _ (List.mem_of_getElem? (i := 636) (by decide +kernel)), by decide +kernel⟩
theorem tk_637 : Cond.code yX8_request cX8_request 3 (some .int) ∈ gtbl := List.mem_filter.mpr ⟨List.mem_append_right _ (List.mem_of_getElem? (i := 637) (by decide +kernel)), by decide +kernel⟩
theorem tk_638 : Cond.methodLink RX8 126 yX0_isIn ∈ gtbl := List.mem_filter.mpr ⟨List.mem_append_right _ (List.mem_of_getElem? (i := 638) (by decide +kernel)), by decide +kernel⟩
theorem tk_639 : Cond.methodLink RX8 129 yX1_ask ∈ gtbl := List.mem_filter.mpr ⟨List.mem_append_right _ (List.mem_of_getElem? (i := 639) (by decide +kernel)), by decide +kernel⟩
theorem tk_640 : Cond.instanceMethod yX1_ask ∈ gtbl := List.mem_filter.mpr ⟨List.mem_append_right _ (List.mem_of_getElem? (i := 640) (by decide +kernel)), by decide +kernel⟩
theorem tk_641 : Cond.selects RX1 yX1_ask yX1_ask ∈ gtbl := List.mem_filter.mpr ⟨List.mem_append_right _ (List.mem_of_getElem? (i := 641) (by decide +kernel)), by decide +kernel⟩
theorem tk_642 : Cond.code yX1_ask cX1_ask 4 (some .int) ∈ gtbl := List.mem_filter.mpr ⟨List.mem_append_right _ (List.mem_of_getElem? (i := 642) (by decide +kernel)), by decide +kernel⟩
theorem tk_643 : Cond.methodLink RX1 29 yX0_covers ∈ gtbl := List.mem_filter.mpr ⟨List.mem_append_right _ (List.mem_of_getElem? (i := 643) (by decide +kernel)), by decide +kernel⟩
theorem tk_644 : Cond.methodLink RX1 40 yX1_outcomeOf ∈ gtbl := List.mem_filter.mpr ⟨List.mem_append_right _ (List.mem_of_getElem? (i := 644) (by decide +kernel)), by decide +kernel⟩
theorem tk_645 : Cond.instanceMethod yX1_outcomeOf ∈ gtbl := List.mem_filter.mpr ⟨List.mem_append_right _ (List.mem_of_getElem? (i := 645) (by decide +kernel)), by decide +kernel⟩
theorem tk_646 : Cond.selects RX1 yX1_outcomeOf yX1_outcomeOf ∈ gtbl := List.mem_filter.mpr ⟨List.mem_append_right _ (List.mem_of_getElem? (i := 646) (by decide +kernel)), by decide +kernel⟩
theorem tk_647 : Cond.code yX1_outcomeOf cX1_outcomeOf 5 (some .int) ∈ gtbl := List.mem_filter.mpr ⟨List.mem_append_right _ (List.mem_of_getElem? (i := 647) (by decide +kernel)), by decide +kernel⟩
theorem tk_648 : Cond.methodLink RX1 23 yX0_holdersInWay ∈ gtbl := List.mem_filter.mpr ⟨List.mem_append_right _ (List.mem_of_getElem? (i := 648) (by decide +kernel)), by decide +kernel⟩
theorem tk_649 : Cond.methodLink RX1 33 yX0_youngerThan ∈ gtbl := List.mem_filter.mpr ⟨List.mem_append_right _ (List.mem_of_getElem? (i := 649) (by decide +kernel)), by decide +kernel⟩
theorem tk_650 : Cond.instanceMethod yX0_youngerThan ∈ gtbl := List.mem_filter.mpr ⟨List.mem_append_right _ (List.mem_of_getElem? (i := 650) (by decide +kernel)), by decide +kernel⟩
theorem tk_651 : Cond.selects RX0 yX0_youngerThan yX0_youngerThan ∈ gtbl := List.mem_filter.mpr ⟨List.mem_append_right _ (List.mem_of_getElem? (i := 651) (by decide +kernel)), by decide +kernel⟩
theorem tk_652 : Cond.code yX0_youngerThan cX0_youngerThan 5 (some .int) ∈ gtbl := List.mem_filter.mpr ⟨List.mem_append_right _ (List.mem_of_getElem? (i := 652) (by decide +kernel)), by decide +kernel⟩
theorem tk_653 : Cond.methodLink RX1 43 yX1_strikeAll ∈ gtbl := List.mem_filter.mpr ⟨List.mem_append_right _ (List.mem_of_getElem? (i := 653) (by decide +kernel)), by decide +kernel⟩
theorem tk_654 : Cond.instanceMethod yX1_strikeAll ∈ gtbl := List.mem_filter.mpr ⟨List.mem_append_right _ (List.mem_of_getElem? (i := 654) (by decide +kernel)), by decide +kernel⟩
theorem tk_655 : Cond.selects RX1 yX1_strikeAll yX1_strikeAll ∈ gtbl := List.mem_filter.mpr ⟨List.mem_append_right _ (List.mem_of_getElem? (i := 655) (by decide +kernel)), by decide +kernel⟩
theorem tk_656 : Cond.code yX1_strikeAll cX1_strikeAll 3 none ∈ gtbl := List.mem_filter.mpr ⟨List.mem_append_right _ (List.mem_of_getElem? (i := 656) (by decide +kernel)), by decide +kernel⟩
theorem tk_658 : Cond.methodLink RX1 84 yX0_strike ∈ gtbl := List.mem_filter.mpr ⟨List.mem_append_right _ (List.mem_of_getElem? (i := 658) (by decide +kernel)), by decide +kernel⟩
theorem tk_659 : Cond.instanceMethod yX0_strike ∈ gtbl := List.mem_filter.mpr ⟨List.mem_append_right _ (List.mem_of_getElem? (i := 659) (by decide +kernel)), by decide +kernel⟩
theorem tk_660 : Cond.selects RX0 yX0_strike yX0_strike ∈ gtbl := List.mem_filter.mpr ⟨List.mem_append_right _ (List.mem_of_getElem? (i := 660) (by decide +kernel)), by decide +kernel⟩
theorem tk_661 : Cond.code yX0_strike cX0_strike 2 none ∈ gtbl := List.mem_filter.mpr ⟨List.mem_append_right _ (List.mem_of_getElem? (i := 661) (by decide +kernel)), by decide +kernel⟩
theorem tk_662 : Cond.methodLink RX0 95 yX0_leaveOrder ∈ gtbl := List.mem_filter.mpr ⟨List.mem_append_right _ (List.mem_of_getElem? (i := 662) (by decide +kernel)), by decide +kernel⟩
theorem tk_663 : Cond.instanceMethod yX0_leaveOrder ∈ gtbl := List.mem_filter.mpr ⟨List.mem_append_right _ (List.mem_of_getElem? (i := 663) (by decide +kernel)), by decide +kernel⟩
theorem tk_664 : Cond.selects RX0 yX0_leaveOrder yX0_leaveOrder ∈ gtbl := List.mem_filter.mpr ⟨List.mem_append_right _ (List.mem_of_getElem? (i := 664) (by decide +kernel)), by decide +kernel⟩
theorem tk_665 : Cond.code yX0_leaveOrder cX0_leaveOrder 4 none ∈ gtbl := List.mem_filter.mpr ⟨List.mem_append_right _ (List.mem_of_getElem? (i := 665) (by decide +kernel)), by decide +kernel⟩
theorem tk_666 : Cond.methodLink RX1 51 yX6_add ∈ gtbl := List.mem_filter.mpr ⟨List.mem_append_right _ (List.mem_of_getElem? (i := 666) (by decide +kernel)), by decide +kernel⟩
theorem tk_667 : Cond.instanceMethod yX6_add ∈ gtbl := List.mem_filter.mpr ⟨List.mem_append_right _ (List.mem_of_getElem? (i := 667) (by decide +kernel)), by decide +kernel⟩
theorem tk_668 : Cond.selects RX6 yX6_add yX6_add ∈ gtbl := List.mem_filter.mpr ⟨List.mem_append_right _ (List.mem_of_getElem? (i := 668) (by decide +kernel)), by decide +kernel⟩
theorem tk_669 : Cond.code yX6_add cX6_add 3 none ∈ gtbl := List.mem_filter.mpr ⟨List.mem_append_right _ (List.mem_of_getElem? (i := 669) (by decide +kernel)), by decide +kernel⟩
theorem tk_670 : Cond.methodLink RX1 47 yX0_grant ∈ gtbl := List.mem_filter.mpr ⟨List.mem_append_right _ (List.mem_of_getElem? (i := 670) (by decide +kernel)), by decide +kernel⟩
theorem tk_671 : Cond.methodLink RX1 56 yX0_queueUp ∈ gtbl := List.mem_filter.mpr ⟨List.mem_append_right _ (List.mem_of_getElem? (i := 671) (by decide +kernel)), by decide +kernel⟩
theorem tk_672 : Cond.instanceMethod yX0_queueUp ∈ gtbl := List.mem_filter.mpr ⟨List.mem_append_right _ (List.mem_of_getElem? (i := 672) (by decide +kernel)), by decide +kernel⟩
theorem tk_673 : Cond.selects RX0 yX0_queueUp yX0_queueUp ∈ gtbl := List.mem_filter.mpr ⟨List.mem_append_right _ (List.mem_of_getElem? (i := 673) (by decide +kernel)), by decide +kernel⟩
theorem tk_674 : Cond.code yX0_queueUp cX0_queueUp 3 none ∈ gtbl := List.mem_filter.mpr ⟨List.mem_append_right _ (List.mem_of_getElem? (i := 674) (by decide +kernel)), by decide +kernel⟩
theorem tk_675 : Cond.methodLink RX1 59 yX0_settle ∈ gtbl := List.mem_filter.mpr ⟨List.mem_append_right _ (List.mem_of_getElem? (i := 675) (by decide +kernel)), by decide +kernel⟩
theorem tk_676 : Cond.methodLink RX1 63 yX0_has ∈ gtbl := List.mem_filter.mpr ⟨List.mem_append_right _ (List.mem_of_getElem? (i := 676) (by decide +kernel)), by decide +kernel⟩
theorem tk_677 : Cond.methodLink RL 118 yL_release ∈ gtbl := List.mem_filter.mpr ⟨List.mem_append_right _ (List.mem_of_getElem? (i := 677) (by decide +kernel)), by decide +kernel⟩
theorem tk_678 : Cond.static yL_release ∈ gtbl := List.mem_filter.mpr ⟨List.mem_append_right _ (List.mem_of_getElem? (i := 678) (by decide +kernel)), by decide +kernel⟩
theorem tk_679 : Cond.codeWith yL_release cL_release 5 (some .int) [(0, 10, 13, 13), (0, 10, 17, 15)] ∈ gtbl := List.mem_filter.mpr ⟨List.mem_append_right _ (List.mem_of_getElem? (i := 679) (by decide +kernel)), by decide +kernel⟩
theorem tk_680 : Cond.methodLink RL 33 yX8_release ∈ gtbl := List.mem_filter.mpr ⟨List.mem_append_right _ (List.mem_of_getElem? (i := 680) (by decide +kernel)), by decide +kernel⟩
theorem tk_681 : Cond.instanceMethod yX8_release ∈ gtbl := List.mem_filter.mpr ⟨List.mem_append_right _ (List.mem_of_getElem? (i := 681) (by decide +kernel)), by decide +kernel⟩
theorem tk_682 : Cond.selects RX8 yX8_release yX8_release ∈ gtbl := List.mem_filter.mpr ⟨List.mem_append_right _ (List.mem_of_getElem? (i := 682) (by decide +kernel)), by decide +kernel⟩
theorem tk_683 : Cond.code yX8_release cX8_release 3 (some .int) ∈ gtbl := List.mem_filter.mpr ⟨List.mem_append_right _ (List.mem_of_getElem? (i := 683) (by decide +kernel)), by decide +kernel⟩
theorem tk_684 : Cond.methodLink RX8 132 yX0_holds ∈ gtbl := List.mem_filter.mpr ⟨List.mem_append_right _ (List.mem_of_getElem? (i := 684) (by decide +kernel)), by decide +kernel⟩
theorem tk_685 : Cond.instanceMethod yX0_holds ∈ gtbl := List.mem_filter.mpr ⟨List.mem_append_right _ (List.mem_of_getElem? (i := 685) (by decide +kernel)), by decide +kernel⟩
theorem tk_686 : Cond.selects RX0 yX0_holds yX0_holds ∈ gtbl := List.mem_filter.mpr ⟨List.mem_append_right _ (List.mem_of_getElem? (i := 686) (by decide +kernel)), by decide +kernel⟩
theorem tk_687 : Cond.code yX0_holds cX0_holds 3 (some .boolean) ∈ gtbl := List.mem_filter.mpr ⟨List.mem_append_right _ (List.mem_of_getElem? (i := 687) (by decide +kernel)), by decide +kernel⟩
theorem tk_688 : Cond.methodLink RX8 135 yX1_giveBack ∈ gtbl := List.mem_filter.mpr ⟨List.mem_append_right _ (List.mem_of_getElem? (i := 688) (by decide +kernel)), by decide +kernel⟩
theorem tk_689 : Cond.instanceMethod yX1_giveBack ∈ gtbl := List.mem_filter.mpr ⟨List.mem_append_right _ (List.mem_of_getElem? (i := 689) (by decide +kernel)), by decide +kernel⟩
theorem tk_690 : Cond.selects RX1 yX1_giveBack yX1_giveBack ∈ gtbl := List.mem_filter.mpr ⟨List.mem_append_right _ (List.mem_of_getElem? (i := 690) (by decide +kernel)), by decide +kernel⟩
theorem tk_691 : Cond.code yX1_giveBack cX1_giveBack 3 (some .int) ∈ gtbl := List.mem_filter.mpr ⟨List.mem_append_right _ (List.mem_of_getElem? (i := 691) (by decide +kernel)), by decide +kernel⟩
theorem tk_692 : Cond.methodLink RX1 71 yX0_letGo ∈ gtbl := List.mem_filter.mpr ⟨List.mem_append_right _ (List.mem_of_getElem? (i := 692) (by decide +kernel)), by decide +kernel⟩
theorem tk_693 : Cond.instanceMethod yX0_letGo ∈ gtbl := List.mem_filter.mpr ⟨List.mem_append_right _ (List.mem_of_getElem? (i := 693) (by decide +kernel)), by decide +kernel⟩
theorem tk_694 : Cond.selects RX0 yX0_letGo yX0_letGo ∈ gtbl := List.mem_filter.mpr ⟨List.mem_append_right _ (List.mem_of_getElem? (i := 694) (by decide +kernel)), by decide +kernel⟩
theorem tk_695 : Cond.code yX0_letGo cX0_letGo 3 none ∈ gtbl := List.mem_filter.mpr ⟨List.mem_append_right _ (List.mem_of_getElem? (i := 695) (by decide +kernel)), by decide +kernel⟩
theorem tk_696 : Cond.methodLink RX0 92 yX0_holds ∈ gtbl := List.mem_filter.mpr ⟨List.mem_append_right _ (List.mem_of_getElem? (i := 696) (by decide +kernel)), by decide +kernel⟩
theorem tk_697 : Cond.methodLink RX1 74 yX0_heldBy ∈ gtbl := List.mem_filter.mpr ⟨List.mem_append_right _ (List.mem_of_getElem? (i := 697) (by decide +kernel)), by decide +kernel⟩
theorem tk_698 : Cond.instanceMethod yX0_heldBy ∈ gtbl := List.mem_filter.mpr ⟨List.mem_append_right _ (List.mem_of_getElem? (i := 698) (by decide +kernel)), by decide +kernel⟩
theorem tk_699 : Cond.selects RX0 yX0_heldBy yX0_heldBy ∈ gtbl := List.mem_filter.mpr ⟨List.mem_append_right _ (List.mem_of_getElem? (i := 699) (by decide +kernel)), by decide +kernel⟩
theorem tk_700 : Cond.code yX0_heldBy cX0_heldBy 2 (some .int) ∈ gtbl := List.mem_filter.mpr ⟨List.mem_append_right _ (List.mem_of_getElem? (i := 700) (by decide +kernel)), by decide +kernel⟩
theorem tk_701 : Cond.methodLink RX0 66 yJ6_bitCount_0f7a4 ∈ gtbl := List.mem_filter.mpr ⟨List.mem_append_right _ (List.mem_of_getElem? (i := 701) (by decide +kernel)), by decide +kernel⟩
theorem tk_702 : Cond.methodLink RL 121 yL_finish ∈ gtbl := List.mem_filter.mpr ⟨List.mem_append_right _ (List.mem_of_getElem? (i := 702) (by decide +kernel)), by decide +kernel⟩
theorem tk_703 : Cond.static yL_finish ∈ gtbl := List.mem_filter.mpr ⟨List.mem_append_right _ (List.mem_of_getElem? (i := 703) (by decide +kernel)), by decide +kernel⟩
theorem tk_704 : Cond.codeWith yL_finish cL_finish 4 (some .int) [(0, 9, 12, 13), (0, 9, 15, 15)] ∈ gtbl := List.mem_filter.mpr ⟨List.mem_append_right _ (List.mem_of_getElem? (i := 704) (by decide +kernel)), by decide +kernel⟩
theorem tk_705 : Cond.methodLink RL 36 yX8_finish ∈ gtbl := List.mem_filter.mpr ⟨List.mem_append_right _ (List.mem_of_getElem? (i := 705) (by decide +kernel)), by decide +kernel⟩
theorem tk_706 : Cond.instanceMethod yX8_finish ∈ gtbl := List.mem_filter.mpr ⟨List.mem_append_right _ (List.mem_of_getElem? (i := 706) (by decide +kernel)), by decide +kernel⟩
theorem tk_707 : Cond.selects RX8 yX8_finish yX8_finish ∈ gtbl := List.mem_filter.mpr ⟨List.mem_append_right _ (List.mem_of_getElem? (i := 707) (by decide +kernel)), by decide +kernel⟩
theorem tk_708 : Cond.code yX8_finish cX8_finish 2 (some .int) ∈ gtbl := List.mem_filter.mpr ⟨List.mem_append_right _ (List.mem_of_getElem? (i := 708) (by decide +kernel)), by decide +kernel⟩
theorem tk_709 : Cond.methodLink RX8 138 yX1_end ∈ gtbl := List.mem_filter.mpr ⟨List.mem_append_right _ (List.mem_of_getElem? (i := 709) (by decide +kernel)), by decide +kernel⟩
theorem tk_710 : Cond.instanceMethod yX1_end ∈ gtbl := List.mem_filter.mpr ⟨List.mem_append_right _ (List.mem_of_getElem? (i := 710) (by decide +kernel)), by decide +kernel⟩
theorem tk_711 : Cond.selects RX1 yX1_end yX1_end ∈ gtbl := List.mem_filter.mpr ⟨List.mem_append_right _ (List.mem_of_getElem? (i := 711) (by decide +kernel)), by decide +kernel⟩
theorem tk_712 : Cond.code yX1_end cX1_end 3 (some .int) ∈ gtbl := List.mem_filter.mpr ⟨List.mem_append_right _ (List.mem_of_getElem? (i := 712) (by decide +kernel)), by decide +kernel⟩
theorem tk_713 : Cond.methodLink RX1 78 yX0_dismiss ∈ gtbl := List.mem_filter.mpr ⟨List.mem_append_right _ (List.mem_of_getElem? (i := 713) (by decide +kernel)), by decide +kernel⟩
theorem tk_714 : Cond.methodLink RL 124 yL_abort ∈ gtbl := List.mem_filter.mpr ⟨List.mem_append_right _ (List.mem_of_getElem? (i := 714) (by decide +kernel)), by decide +kernel⟩
theorem tk_715 : Cond.static yL_abort ∈ gtbl := List.mem_filter.mpr ⟨List.mem_append_right _ (List.mem_of_getElem? (i := 715) (by decide +kernel)), by decide +kernel⟩
theorem tk_716 : Cond.codeWith yL_abort cL_abort 4 (some .int) [(0, 9, 12, 13), (0, 9, 15, 15)] ∈ gtbl := List.mem_filter.mpr ⟨List.mem_append_right _ (List.mem_of_getElem? (i := 716) (by decide +kernel)), by decide +kernel⟩
theorem tk_717 : Cond.methodLink RL 39 yX8_abort ∈ gtbl := List.mem_filter.mpr ⟨List.mem_append_right _ (List.mem_of_getElem? (i := 717) (by decide +kernel)), by decide +kernel⟩
theorem tk_718 : Cond.instanceMethod yX8_abort ∈ gtbl := List.mem_filter.mpr ⟨List.mem_append_right _ (List.mem_of_getElem? (i := 718) (by decide +kernel)), by decide +kernel⟩
theorem tk_719 : Cond.selects RX8 yX8_abort yX8_abort ∈ gtbl := List.mem_filter.mpr ⟨List.mem_append_right _ (List.mem_of_getElem? (i := 719) (by decide +kernel)), by decide +kernel⟩
theorem tk_720 : Cond.code yX8_abort cX8_abort 2 (some .int) ∈ gtbl := List.mem_filter.mpr ⟨List.mem_append_right _ (List.mem_of_getElem? (i := 720) (by decide +kernel)), by decide +kernel⟩
theorem tk_721 : Cond.methodLink RX8 141 yX1_kill ∈ gtbl := List.mem_filter.mpr ⟨List.mem_append_right _ (List.mem_of_getElem? (i := 721) (by decide +kernel)), by decide +kernel⟩
theorem tk_722 : Cond.instanceMethod yX1_kill ∈ gtbl := List.mem_filter.mpr ⟨List.mem_append_right _ (List.mem_of_getElem? (i := 722) (by decide +kernel)), by decide +kernel⟩
theorem tk_723 : Cond.selects RX1 yX1_kill yX1_kill ∈ gtbl := List.mem_filter.mpr ⟨List.mem_append_right _ (List.mem_of_getElem? (i := 723) (by decide +kernel)), by decide +kernel⟩
theorem tk_724 : Cond.code yX1_kill cX1_kill 3 (some .int) ∈ gtbl := List.mem_filter.mpr ⟨List.mem_append_right _ (List.mem_of_getElem? (i := 724) (by decide +kernel)), by decide +kernel⟩
theorem tk_725 : Cond.methodLink RL 127 yL_restart ∈ gtbl := List.mem_filter.mpr ⟨List.mem_append_right _ (List.mem_of_getElem? (i := 725) (by decide +kernel)), by decide +kernel⟩
theorem tk_726 : Cond.static yL_restart ∈ gtbl := List.mem_filter.mpr ⟨List.mem_append_right _ (List.mem_of_getElem? (i := 726) (by decide +kernel)), by decide +kernel⟩
theorem tk_727 : Cond.codeWith yL_restart cL_restart 4 (some .int) [(0, 9, 12, 13), (0, 9, 15, 15)] ∈ gtbl := List.mem_filter.mpr ⟨List.mem_append_right _ (List.mem_of_getElem? (i := 727) (by decide +kernel)), by decide +kernel⟩
theorem tk_728 : Cond.methodLink RL 42 yX8_restart ∈ gtbl := List.mem_filter.mpr ⟨List.mem_append_right _ (List.mem_of_getElem? (i := 728) (by decide +kernel)), by decide +kernel⟩
theorem tk_729 : Cond.instanceMethod yX8_restart ∈ gtbl := List.mem_filter.mpr ⟨List.mem_append_right _ (List.mem_of_getElem? (i := 729) (by decide +kernel)), by decide +kernel⟩
theorem tk_730 : Cond.selects RX8 yX8_restart yX8_restart ∈ gtbl := List.mem_filter.mpr ⟨List.mem_append_right _ (List.mem_of_getElem? (i := 730) (by decide +kernel)), by decide +kernel⟩
theorem tk_731 : Cond.code yX8_restart cX8_restart 2 (some .int) ∈ gtbl := List.mem_filter.mpr ⟨List.mem_append_right _ (List.mem_of_getElem? (i := 731) (by decide +kernel)), by decide +kernel⟩
theorem tk_732 : Cond.methodLink RX8 144 yX0_revive ∈ gtbl := List.mem_filter.mpr ⟨List.mem_append_right _ (List.mem_of_getElem? (i := 732) (by decide +kernel)), by decide +kernel⟩
theorem tk_733 : Cond.instanceMethod yX0_revive ∈ gtbl := List.mem_filter.mpr ⟨List.mem_append_right _ (List.mem_of_getElem? (i := 733) (by decide +kernel)), by decide +kernel⟩
theorem tk_734 : Cond.selects RX0 yX0_revive yX0_revive ∈ gtbl := List.mem_filter.mpr ⟨List.mem_append_right _ (List.mem_of_getElem? (i := 734) (by decide +kernel)), by decide +kernel⟩
theorem tk_735 : Cond.code yX0_revive cX0_revive 2 (some .int) ∈ gtbl := List.mem_filter.mpr ⟨List.mem_append_right _ (List.mem_of_getElem? (i := 735) (by decide +kernel)), by decide +kernel⟩
theorem tk_736 : Cond.methodLink RL 134 yL_task ∈ gtbl := List.mem_filter.mpr ⟨List.mem_append_right _ (List.mem_of_getElem? (i := 736) (by decide +kernel)), by decide +kernel⟩
theorem tk_737 : Cond.static yL_task ∈ gtbl := List.mem_filter.mpr ⟨List.mem_append_right _ (List.mem_of_getElem? (i := 737) (by decide +kernel)), by decide +kernel⟩
theorem tk_738 : Cond.codeWith yL_task cL_task 5 (some .int) [(0, 10, 13, 13), (0, 10, 17, 21)] ∈ gtbl := List.mem_filter.mpr ⟨List.mem_append_right _ (List.mem_of_getElem? (i := 738) (by decide +kernel)), by decide +kernel⟩
theorem tk_739 : Cond.methodLink RL 45 yX8_task ∈ gtbl := List.mem_filter.mpr ⟨List.mem_append_right _ (List.mem_of_getElem? (i := 739) (by decide +kernel)), by decide +kernel⟩
theorem tk_740 : Cond.methodLink RL 141 yL_wouldHappen ∈ gtbl := List.mem_filter.mpr ⟨List.mem_append_right _ (List.mem_of_getElem? (i := 740) (by decide +kernel)), by decide +kernel⟩
theorem tk_741 : Cond.static yL_wouldHappen ∈ gtbl := List.mem_filter.mpr ⟨List.mem_append_right _ (List.mem_of_getElem? (i := 741) (by decide +kernel)), by decide +kernel⟩
theorem tk_742 : Cond.codeWith yL_wouldHappen cL_wouldHappen 5 (some .int) [(0, 10, 13, 13), (0, 10, 17, 15)] ∈ gtbl := List.mem_filter.mpr ⟨List.mem_append_right _ (List.mem_of_getElem? (i := 742) (by decide +kernel)), by decide +kernel⟩
theorem tk_743 : Cond.methodLink RL 48 yX8_wouldHappen ∈ gtbl := List.mem_filter.mpr ⟨List.mem_append_right _ (List.mem_of_getElem? (i := 743) (by decide +kernel)), by decide +kernel⟩
theorem tk_744 : Cond.instanceMethod yX8_wouldHappen ∈ gtbl := List.mem_filter.mpr ⟨List.mem_append_right _ (List.mem_of_getElem? (i := 744) (by decide +kernel)), by decide +kernel⟩
theorem tk_745 : Cond.selects RX8 yX8_wouldHappen yX8_wouldHappen ∈ gtbl := List.mem_filter.mpr ⟨List.mem_append_right _ (List.mem_of_getElem? (i := 745) (by decide +kernel)), by decide +kernel⟩
theorem tk_746 : Cond.code yX8_wouldHappen cX8_wouldHappen 3 (some .int) ∈ gtbl := List.mem_filter.mpr ⟨List.mem_append_right _ (List.mem_of_getElem? (i := 746) (by decide +kernel)), by decide +kernel⟩
theorem tk_747 : Cond.methodLink RX8 177 yX1_outcomeOf ∈ gtbl := List.mem_filter.mpr ⟨List.mem_append_right _ (List.mem_of_getElem? (i := 747) (by decide +kernel)), by decide +kernel⟩
theorem tk_748 : Cond.methodLink RL 144 yL_setPolicy ∈ gtbl := List.mem_filter.mpr ⟨List.mem_append_right _ (List.mem_of_getElem? (i := 748) (by decide +kernel)), by decide +kernel⟩
theorem tk_749 : Cond.static yL_setPolicy ∈ gtbl := List.mem_filter.mpr ⟨List.mem_append_right _ (List.mem_of_getElem? (i := 749) (by decide +kernel)), by decide +kernel⟩
theorem tk_750 : Cond.codeWith yL_setPolicy cL_setPolicy 4 (some .int) [(0, 9, 12, 21)] ∈ gtbl := List.mem_filter.mpr ⟨List.mem_append_right _ (List.mem_of_getElem? (i := 750) (by decide +kernel)), by decide +kernel⟩
theorem tk_751 : Cond.methodLink RL 51 yX8_setPolicy ∈ gtbl := List.mem_filter.mpr ⟨List.mem_append_right _ (List.mem_of_getElem? (i := 751) (by decide +kernel)), by decide +kernel⟩
theorem tk_752 : Cond.instanceMethod yX8_setPolicy ∈ gtbl := List.mem_filter.mpr ⟨List.mem_append_right _ (List.mem_of_getElem? (i := 752) (by decide +kernel)), by decide +kernel⟩
theorem tk_753 : Cond.selects RX8 yX8_setPolicy yX8_setPolicy ∈ gtbl := List.mem_filter.mpr ⟨List.mem_append_right _ (List.mem_of_getElem? (i := 753) (by decide +kernel)), by decide +kernel⟩
theorem tk_754 : Cond.code yX8_setPolicy cX8_setPolicy 3 (some .int) ∈ gtbl := List.mem_filter.mpr ⟨List.mem_append_right _ (List.mem_of_getElem? (i := 754) (by decide +kernel)), by decide +kernel⟩
theorem tk_755 : Cond.methodLink RL 147 yL_setRule ∈ gtbl := List.mem_filter.mpr ⟨List.mem_append_right _ (List.mem_of_getElem? (i := 755) (by decide +kernel)), by decide +kernel⟩
theorem tk_756 : Cond.static yL_setRule ∈ gtbl := List.mem_filter.mpr ⟨List.mem_append_right _ (List.mem_of_getElem? (i := 756) (by decide +kernel)), by decide +kernel⟩
theorem tk_757 : Cond.codeWith yL_setRule cL_setRule 4 (some .int) [(0, 9, 12, 21)] ∈ gtbl := List.mem_filter.mpr ⟨List.mem_append_right _ (List.mem_of_getElem? (i := 757) (by decide +kernel)), by decide +kernel⟩
theorem tk_758 : Cond.methodLink RL 54 yX8_setRule ∈ gtbl := List.mem_filter.mpr ⟨List.mem_append_right _ (List.mem_of_getElem? (i := 758) (by decide +kernel)), by decide +kernel⟩
theorem tk_759 : Cond.instanceMethod yX8_setRule ∈ gtbl := List.mem_filter.mpr ⟨List.mem_append_right _ (List.mem_of_getElem? (i := 759) (by decide +kernel)), by decide +kernel⟩
theorem tk_760 : Cond.selects RX8 yX8_setRule yX8_setRule ∈ gtbl := List.mem_filter.mpr ⟨List.mem_append_right _ (List.mem_of_getElem? (i := 760) (by decide +kernel)), by decide +kernel⟩
theorem tk_761 : Cond.code yX8_setRule cX8_setRule 3 (some .int) ∈ gtbl := List.mem_filter.mpr ⟨List.mem_append_right _ (List.mem_of_getElem? (i := 761) (by decide +kernel)), by decide +kernel⟩
theorem tk_762 : Cond.methodLink RL 150 yL_setBudget ∈ gtbl := List.mem_filter.mpr ⟨List.mem_append_right _ (List.mem_of_getElem? (i := 762) (by decide +kernel)), by decide +kernel⟩
theorem tk_763 : Cond.static yL_setBudget ∈ gtbl := List.mem_filter.mpr ⟨List.mem_append_right _ (List.mem_of_getElem? (i := 763) (by decide +kernel)), by decide +kernel⟩
theorem tk_764 : Cond.codeWith yL_setBudget cL_setBudget 4 (some .int) [(0, 9, 12, 21)] ∈ gtbl := List.mem_filter.mpr ⟨List.mem_append_right _ (List.mem_of_getElem? (i := 764) (by decide +kernel)), by decide +kernel⟩
theorem tk_765 : Cond.methodLink RL 57 yX8_setBudget ∈ gtbl := List.mem_filter.mpr ⟨List.mem_append_right _ (List.mem_of_getElem? (i := 765) (by decide +kernel)), by decide +kernel⟩
theorem tk_766 : Cond.instanceMethod yX8_setBudget ∈ gtbl := List.mem_filter.mpr ⟨List.mem_append_right _ (List.mem_of_getElem? (i := 766) (by decide +kernel)), by decide +kernel⟩
theorem tk_767 : Cond.selects RX8 yX8_setBudget yX8_setBudget ∈ gtbl := List.mem_filter.mpr ⟨List.mem_append_right _ (List.mem_of_getElem? (i := 767) (by decide +kernel)), by decide +kernel⟩
theorem tk_768 : Cond.code yX8_setBudget cX8_setBudget 3 (some .int) ∈ gtbl := List.mem_filter.mpr ⟨List.mem_append_right _ (List.mem_of_getElem? (i := 768) (by decide +kernel)), by decide +kernel⟩
theorem tk_769 : Cond.methodLink RL 153 yL_probe ∈ gtbl := List.mem_filter.mpr ⟨List.mem_append_right _ (List.mem_of_getElem? (i := 769) (by decide +kernel)), by decide +kernel⟩
theorem tk_770 : Cond.static yL_probe ∈ gtbl := List.mem_filter.mpr ⟨List.mem_append_right _ (List.mem_of_getElem? (i := 770) (by decide +kernel)), by decide +kernel⟩
theorem tk_771 : Cond.codeWith yL_probe cL_probe 4 (some .int) [(0, 9, 12, 13), (0, 9, 15, 15)] ∈ gtbl := List.mem_filter.mpr ⟨List.mem_append_right _ (List.mem_of_getElem? (i := 771) (by decide +kernel)), by decide +kernel⟩
theorem tk_772 : Cond.methodLink RL 60 yX8_probe ∈ gtbl := List.mem_filter.mpr ⟨List.mem_append_right _ (List.mem_of_getElem? (i := 772) (by decide +kernel)), by decide +kernel⟩
theorem tk_773 : Cond.instanceMethod yX8_probe ∈ gtbl := List.mem_filter.mpr ⟨List.mem_append_right _ (List.mem_of_getElem? (i := 773) (by decide +kernel)), by decide +kernel⟩
theorem tk_774 : Cond.selects RX8 yX8_probe yX8_probe ∈ gtbl := List.mem_filter.mpr ⟨List.mem_append_right _ (List.mem_of_getElem? (i := 774) (by decide +kernel)), by decide +kernel⟩
theorem tk_775 : Cond.code yX8_probe cX8_probe 2 (some .int) ∈ gtbl := List.mem_filter.mpr ⟨List.mem_append_right _ (List.mem_of_getElem? (i := 775) (by decide +kernel)), by decide +kernel⟩
theorem tk_776 : Cond.methodLink RX8 189 yX1_startProbe ∈ gtbl := List.mem_filter.mpr ⟨List.mem_append_right _ (List.mem_of_getElem? (i := 776) (by decide +kernel)), by decide +kernel⟩
theorem tk_777 : Cond.instanceMethod yX1_startProbe ∈ gtbl := List.mem_filter.mpr ⟨List.mem_append_right _ (List.mem_of_getElem? (i := 777) (by decide +kernel)), by decide +kernel⟩
theorem tk_778 : Cond.selects RX1 yX1_startProbe yX1_startProbe ∈ gtbl := List.mem_filter.mpr ⟨List.mem_append_right _ (List.mem_of_getElem? (i := 778) (by decide +kernel)), by decide +kernel⟩
theorem tk_779 : Cond.code yX1_startProbe cX1_startProbe 2 (some .int) ∈ gtbl := List.mem_filter.mpr ⟨List.mem_append_right _ (List.mem_of_getElem? (i := 779) (by decide +kernel)), by decide +kernel⟩
theorem tk_780 : Cond.methodLink RX1 87 yX7_read ∈ gtbl := List.mem_filter.mpr ⟨List.mem_append_right _ (List.mem_of_getElem? (i := 780) (by decide +kernel)), by decide +kernel⟩
theorem tk_781 : Cond.methodLink RX1 93 yX7_of ∈ gtbl := List.mem_filter.mpr ⟨List.mem_append_right _ (List.mem_of_getElem? (i := 781) (by decide +kernel)), by decide +kernel⟩
theorem tk_782 : Cond.instanceMethod yX7_of ∈ gtbl := List.mem_filter.mpr ⟨List.mem_append_right _ (List.mem_of_getElem? (i := 782) (by decide +kernel)), by decide +kernel⟩
theorem tk_783 : Cond.selects RX7 yX7_of yX7_of ∈ gtbl := List.mem_filter.mpr ⟨List.mem_append_right _ (List.mem_of_getElem? (i := 783) (by decide +kernel)), by decide +kernel⟩
theorem tk_784 : Cond.code yX7_of cX7_of 2 (some .int) ∈ gtbl := List.mem_filter.mpr ⟨List.mem_append_right _ (List.mem_of_getElem? (i := 784) (by decide +kernel)), by decide +kernel⟩
theorem tk_785 : Cond.methodLink RX1 99 yX1_sendToAll ∈ gtbl := List.mem_filter.mpr ⟨List.mem_append_right _ (List.mem_of_getElem? (i := 785) (by decide +kernel)), by decide +kernel⟩
theorem tk_786 : Cond.instanceMethod yX1_sendToAll ∈ gtbl := List.mem_filter.mpr ⟨List.mem_append_right _ (List.mem_of_getElem? (i := 786) (by decide +kernel)), by decide +kernel⟩
theorem tk_787 : Cond.selects RX1 yX1_sendToAll yX1_sendToAll ∈ gtbl := List.mem_filter.mpr ⟨List.mem_append_right _ (List.mem_of_getElem? (i := 787) (by decide +kernel)), by decide +kernel⟩
theorem tk_788 : Cond.code yX1_sendToAll cX1_sendToAll 7 none ∈ gtbl := List.mem_filter.mpr ⟨List.mem_append_right _ (List.mem_of_getElem? (i := 788) (by decide +kernel)), by decide +kernel⟩
theorem tk_789 : Cond.methodLink RX1 112 yX4_send ∈ gtbl := List.mem_filter.mpr ⟨List.mem_append_right _ (List.mem_of_getElem? (i := 789) (by decide +kernel)), by decide +kernel⟩
theorem tk_790 : Cond.instanceMethod yX4_send ∈ gtbl := List.mem_filter.mpr ⟨List.mem_append_right _ (List.mem_of_getElem? (i := 790) (by decide +kernel)), by decide +kernel⟩
theorem tk_791 : Cond.selects RX4 yX4_send yX4_send ∈ gtbl := List.mem_filter.mpr ⟨List.mem_append_right _ (List.mem_of_getElem? (i := 791) (by decide +kernel)), by decide +kernel⟩
theorem tk_792 : Cond.code yX4_send cX4_send 7 (some .boolean) ∈ gtbl := List.mem_filter.mpr ⟨List.mem_append_right _ (List.mem_of_getElem? (i := 792) (by decide +kernel)), by decide +kernel⟩
theorem tk_793 : Cond.methodLink RL 156 yL_deliver ∈ gtbl := List.mem_filter.mpr ⟨List.mem_append_right _ (List.mem_of_getElem? (i := 793) (by decide +kernel)), by decide +kernel⟩
theorem tk_794 : Cond.static yL_deliver ∈ gtbl := List.mem_filter.mpr ⟨List.mem_append_right _ (List.mem_of_getElem? (i := 794) (by decide +kernel)), by decide +kernel⟩
theorem tk_795 : Cond.codeWith yL_deliver cL_deliver 4 (some .int) [(0, 9, 12, 21)] ∈ gtbl := List.mem_filter.mpr ⟨List.mem_append_right _ (List.mem_of_getElem? (i := 795) (by decide +kernel)), by decide +kernel⟩
theorem tk_796 : Cond.methodLink RL 63 yX8_deliver ∈ gtbl := List.mem_filter.mpr ⟨List.mem_append_right _ (List.mem_of_getElem? (i := 796) (by decide +kernel)), by decide +kernel⟩
theorem tk_797 : Cond.instanceMethod yX8_deliver ∈ gtbl := List.mem_filter.mpr ⟨List.mem_append_right _ (List.mem_of_getElem? (i := 797) (by decide +kernel)), by decide +kernel⟩
theorem tk_798 : Cond.selects RX8 yX8_deliver yX8_deliver ∈ gtbl := List.mem_filter.mpr ⟨List.mem_append_right _ (List.mem_of_getElem? (i := 798) (by decide +kernel)), by decide +kernel⟩
theorem tk_799 : Cond.code yX8_deliver cX8_deliver 2 (some .int) ∈ gtbl := List.mem_filter.mpr ⟨List.mem_append_right _ (List.mem_of_getElem? (i := 799) (by decide +kernel)), by decide +kernel⟩
theorem tk_800 : Cond.methodLink RX8 192 yX1_deliverUpTo ∈ gtbl := List.mem_filter.mpr ⟨List.mem_append_right _ (List.mem_of_getElem? (i := 800) (by decide +kernel)), by decide +kernel⟩
theorem tk_801 : Cond.instanceMethod yX1_deliverUpTo ∈ gtbl := List.mem_filter.mpr ⟨List.mem_append_right _ (List.mem_of_getElem? (i := 801) (by decide +kernel)), by decide +kernel⟩
theorem tk_802 : Cond.selects RX1 yX1_deliverUpTo yX1_deliverUpTo ∈ gtbl := List.mem_filter.mpr ⟨List.mem_append_right _ (List.mem_of_getElem? (i := 802) (by decide +kernel)), by decide +kernel⟩
theorem tk_803 : Cond.code yX1_deliverUpTo cX1_deliverUpTo 3 (some .int) ∈ gtbl := List.mem_filter.mpr ⟨List.mem_append_right _ (List.mem_of_getElem? (i := 803) (by decide +kernel)), by decide +kernel⟩
theorem tk_804 : Cond.methodLink RX1 116 yX1_deliverFirst ∈ gtbl := List.mem_filter.mpr ⟨List.mem_append_right _ (List.mem_of_getElem? (i := 804) (by decide +kernel)), by decide +kernel⟩
theorem tk_805 : Cond.instanceMethod yX1_deliverFirst ∈ gtbl := List.mem_filter.mpr ⟨List.mem_append_right _ (List.mem_of_getElem? (i := 805) (by decide +kernel)), by decide +kernel⟩
theorem tk_806 : Cond.selects RX1 yX1_deliverFirst yX1_deliverFirst ∈ gtbl := List.mem_filter.mpr ⟨List.mem_append_right _ (List.mem_of_getElem? (i := 806) (by decide +kernel)), by decide +kernel⟩
theorem tk_807 : Cond.code yX1_deliverFirst cX1_deliverFirst 9 none ∈ gtbl := List.mem_filter.mpr ⟨List.mem_append_right _ (List.mem_of_getElem? (i := 807) (by decide +kernel)), by decide +kernel⟩
theorem tk_808 : Cond.methodLink RX1 119 yX4_rowOf ∈ gtbl := List.mem_filter.mpr ⟨List.mem_append_right _ (List.mem_of_getElem? (i := 808) (by decide +kernel)), by decide +kernel⟩
theorem tk_809 : Cond.methodLink RX1 135 yX4_dropFirst ∈ gtbl := List.mem_filter.mpr ⟨List.mem_append_right _ (List.mem_of_getElem? (i := 809) (by decide +kernel)), by decide +kernel⟩
theorem tk_810 : Cond.instanceMethod yX4_dropFirst ∈ gtbl := List.mem_filter.mpr ⟨List.mem_append_right _ (List.mem_of_getElem? (i := 810) (by decide +kernel)), by decide +kernel⟩
theorem tk_811 : Cond.selects RX4 yX4_dropFirst yX4_dropFirst ∈ gtbl := List.mem_filter.mpr ⟨List.mem_append_right _ (List.mem_of_getElem? (i := 811) (by decide +kernel)), by decide +kernel⟩
theorem tk_812 : Cond.code yX4_dropFirst cX4_dropFirst 1 none ∈ gtbl := List.mem_filter.mpr ⟨List.mem_append_right _ (List.mem_of_getElem? (i := 812) (by decide +kernel)), by decide +kernel⟩
theorem tk_813 : Cond.methodLink RX1 138 yX4_taskAt ∈ gtbl := List.mem_filter.mpr ⟨List.mem_append_right _ (List.mem_of_getElem? (i := 813) (by decide +kernel)), by decide +kernel⟩
theorem tk_814 : Cond.methodLink RX1 142 yX4_members ∈ gtbl := List.mem_filter.mpr ⟨List.mem_append_right _ (List.mem_of_getElem? (i := 814) (by decide +kernel)), by decide +kernel⟩
theorem tk_815 : Cond.methodLink RX1 145 yX7_follow ∈ gtbl := List.mem_filter.mpr ⟨List.mem_append_right _ (List.mem_of_getElem? (i := 815) (by decide +kernel)), by decide +kernel⟩
theorem tk_816 : Cond.instanceMethod yX7_follow ∈ gtbl := List.mem_filter.mpr ⟨List.mem_append_right _ (List.mem_of_getElem? (i := 816) (by decide +kernel)), by decide +kernel⟩
theorem tk_817 : Cond.selects RX7 yX7_follow yX7_follow ∈ gtbl := List.mem_filter.mpr ⟨List.mem_append_right _ (List.mem_of_getElem? (i := 817) (by decide +kernel)), by decide +kernel⟩
theorem tk_818 : Cond.code yX7_follow cX7_follow 7 (some .boolean) ∈ gtbl := List.mem_filter.mpr ⟨List.mem_append_right _ (List.mem_of_getElem? (i := 818) (by decide +kernel)), by decide +kernel⟩
theorem tk_819 : Cond.methodLink RX7 32 yX4_taskAt ∈ gtbl := List.mem_filter.mpr ⟨List.mem_append_right _ (List.mem_of_getElem? (i := 819) (by decide +kernel)), by decide +kernel⟩
theorem tk_820 : Cond.methodLink RX7 38 yX7_of ∈ gtbl := List.mem_filter.mpr ⟨List.mem_append_right _ (List.mem_of_getElem? (i := 820) (by decide +kernel)), by decide +kernel⟩
theorem tk_821 : Cond.methodLink RX1 149 yX1_breakDeadlock ∈ gtbl := List.mem_filter.mpr ⟨List.mem_append_right _ (List.mem_of_getElem? (i := 821) (by decide +kernel)), by decide +kernel⟩
theorem tk_822 : Cond.instanceMethod yX1_breakDeadlock ∈ gtbl := List.mem_filter.mpr ⟨List.mem_append_right _ (List.mem_of_getElem? (i := 822) (by decide +kernel)), by decide +kernel⟩
theorem tk_823 : Cond.selects RX1 yX1_breakDeadlock yX1_breakDeadlock ∈ gtbl := List.mem_filter.mpr ⟨List.mem_append_right _ (List.mem_of_getElem? (i := 823) (by decide +kernel)), by decide +kernel⟩
theorem tk_824 : Cond.code yX1_breakDeadlock cX1_breakDeadlock 4 none ∈ gtbl := List.mem_filter.mpr ⟨List.mem_append_right _ (List.mem_of_getElem? (i := 824) (by decide +kernel)), by decide +kernel⟩
theorem tk_825 : Cond.methodLink RX1 162 yX1_victimOf ∈ gtbl := List.mem_filter.mpr ⟨List.mem_append_right _ (List.mem_of_getElem? (i := 825) (by decide +kernel)), by decide +kernel⟩
theorem tk_826 : Cond.instanceMethod yX1_victimOf ∈ gtbl := List.mem_filter.mpr ⟨List.mem_append_right _ (List.mem_of_getElem? (i := 826) (by decide +kernel)), by decide +kernel⟩
theorem tk_827 : Cond.selects RX1 yX1_victimOf yX1_victimOf ∈ gtbl := List.mem_filter.mpr ⟨List.mem_append_right _ (List.mem_of_getElem? (i := 827) (by decide +kernel)), by decide +kernel⟩
theorem tk_828 : Cond.code yX1_victimOf cX1_victimOf 4 (some .int) ∈ gtbl := List.mem_filter.mpr ⟨List.mem_append_right _ (List.mem_of_getElem? (i := 828) (by decide +kernel)), by decide +kernel⟩
theorem tk_829 : Cond.methodLink RX1 169 yX1_isRatherVictim ∈ gtbl := List.mem_filter.mpr ⟨List.mem_append_right _ (List.mem_of_getElem? (i := 829) (by decide +kernel)), by decide +kernel⟩
theorem tk_830 : Cond.instanceMethod yX1_isRatherVictim ∈ gtbl := List.mem_filter.mpr ⟨List.mem_append_right _ (List.mem_of_getElem? (i := 830) (by decide +kernel)), by decide +kernel⟩
theorem tk_831 : Cond.selects RX1 yX1_isRatherVictim yX1_isRatherVictim ∈ gtbl := List.mem_filter.mpr ⟨List.mem_append_right _ (List.mem_of_getElem? (i := 831) (by decide +kernel)), by decide +kernel⟩
theorem tk_832 : Cond.code yX1_isRatherVictim cX1_isRatherVictim 4 (some .boolean) ∈ gtbl := List.mem_filter.mpr ⟨List.mem_append_right _ (List.mem_of_getElem? (i := 832) (by decide +kernel)), by decide +kernel⟩
theorem tk_833 : Cond.methodLink RX1 181 yJ6_bitCount_0f7a4 ∈ gtbl := List.mem_filter.mpr ⟨List.mem_append_right _ (List.mem_of_getElem? (i := 833) (by decide +kernel)), by decide +kernel⟩
theorem tk_834 : Cond.methodLink RX1 165 yX6_noteDeadlock ∈ gtbl := List.mem_filter.mpr ⟨List.mem_append_right _ (List.mem_of_getElem? (i := 834) (by decide +kernel)), by decide +kernel⟩
theorem tk_835 : Cond.instanceMethod yX6_noteDeadlock ∈ gtbl := List.mem_filter.mpr ⟨List.mem_append_right _ (List.mem_of_getElem? (i := 835) (by decide +kernel)), by decide +kernel⟩
theorem tk_836 : Cond.selects RX6 yX6_noteDeadlock yX6_noteDeadlock ∈ gtbl := List.mem_filter.mpr ⟨List.mem_append_right _ (List.mem_of_getElem? (i := 836) (by decide +kernel)), by decide +kernel⟩
theorem tk_837 : Cond.code yX6_noteDeadlock cX6_noteDeadlock 4 none ∈ gtbl := List.mem_filter.mpr ⟨List.mem_append_right _ (List.mem_of_getElem? (i := 837) (by decide +kernel)), by decide +kernel⟩
theorem tk_838 : Cond.methodLink RX6 25 yX6_add ∈ gtbl := List.mem_filter.mpr ⟨List.mem_append_right _ (List.mem_of_getElem? (i := 838) (by decide +kernel)), by decide +kernel⟩
theorem tk_839 : Cond.methodLink RX1 152 yX0_isIn ∈ gtbl := List.mem_filter.mpr ⟨List.mem_append_right _ (List.mem_of_getElem? (i := 839) (by decide +kernel)), by decide +kernel⟩
theorem tk_840 : Cond.methodLink RX1 155 yX4_extended ∈ gtbl := List.mem_filter.mpr ⟨List.mem_append_right _ (List.mem_of_getElem? (i := 840) (by decide +kernel)), by decide +kernel⟩
theorem tk_841 : Cond.static yX4_extended ∈ gtbl := List.mem_filter.mpr ⟨List.mem_append_right _ (List.mem_of_getElem? (i := 841) (by decide +kernel)), by decide +kernel⟩
theorem tk_842 : Cond.code yX4_extended cX4_extended 4 (some .long) ∈ gtbl := List.mem_filter.mpr ⟨List.mem_append_right _ (List.mem_of_getElem? (i := 842) (by decide +kernel)), by decide +kernel⟩
theorem tk_843 : Cond.methodLink RL 163 yL_message ∈ gtbl := List.mem_filter.mpr ⟨List.mem_append_right _ (List.mem_of_getElem? (i := 843) (by decide +kernel)), by decide +kernel⟩
theorem tk_844 : Cond.static yL_message ∈ gtbl := List.mem_filter.mpr ⟨List.mem_append_right _ (List.mem_of_getElem? (i := 844) (by decide +kernel)), by decide +kernel⟩
theorem tk_845 : Cond.codeWith yL_message cL_message 5 (some .int) [(0, 10, 13, 21)] ∈ gtbl := List.mem_filter.mpr ⟨List.mem_append_right _ (List.mem_of_getElem? (i := 845) (by decide +kernel)), by decide +kernel⟩
theorem tk_846 : Cond.methodLink RL 66 yX8_message ∈ gtbl := List.mem_filter.mpr ⟨List.mem_append_right _ (List.mem_of_getElem? (i := 846) (by decide +kernel)), by decide +kernel⟩
theorem tk_847 : Cond.instanceMethod yX8_message ∈ gtbl := List.mem_filter.mpr ⟨List.mem_append_right _ (List.mem_of_getElem? (i := 847) (by decide +kernel)), by decide +kernel⟩
theorem tk_848 : Cond.selects RX8 yX8_message yX8_message ∈ gtbl := List.mem_filter.mpr ⟨List.mem_append_right _ (List.mem_of_getElem? (i := 848) (by decide +kernel)), by decide +kernel⟩
theorem tk_849 : Cond.code yX8_message cX8_message 3 (some .int) ∈ gtbl := List.mem_filter.mpr ⟨List.mem_append_right _ (List.mem_of_getElem? (i := 849) (by decide +kernel)), by decide +kernel⟩
theorem tk_850 : Cond.methodLink RL 166 yL_told ∈ gtbl := List.mem_filter.mpr ⟨List.mem_append_right _ (List.mem_of_getElem? (i := 850) (by decide +kernel)), by decide +kernel⟩
theorem tk_851 : Cond.static yL_told ∈ gtbl := List.mem_filter.mpr ⟨List.mem_append_right _ (List.mem_of_getElem? (i := 851) (by decide +kernel)), by decide +kernel⟩
theorem tk_852 : Cond.codeWith yL_told cL_told 4 (some .int) [(0, 9, 12, 21)] ∈ gtbl := List.mem_filter.mpr ⟨List.mem_append_right _ (List.mem_of_getElem? (i := 852) (by decide +kernel)), by decide +kernel⟩
theorem tk_853 : Cond.methodLink RL 69 yX8_told ∈ gtbl := List.mem_filter.mpr ⟨List.mem_append_right _ (List.mem_of_getElem? (i := 853) (by decide +kernel)), by decide +kernel⟩
theorem tk_854 : Cond.instanceMethod yX8_told ∈ gtbl := List.mem_filter.mpr ⟨List.mem_append_right _ (List.mem_of_getElem? (i := 854) (by decide +kernel)), by decide +kernel⟩
theorem tk_855 : Cond.selects RX8 yX8_told yX8_told ∈ gtbl := List.mem_filter.mpr ⟨List.mem_append_right _ (List.mem_of_getElem? (i := 855) (by decide +kernel)), by decide +kernel⟩
theorem tk_856 : Cond.code yX8_told cX8_told 2 (some .int) ∈ gtbl := List.mem_filter.mpr ⟨List.mem_append_right _ (List.mem_of_getElem? (i := 856) (by decide +kernel)), by decide +kernel⟩
theorem tk_857 : Cond.methodLink RL 177 yL_shortestCycle ∈ gtbl := List.mem_filter.mpr ⟨List.mem_append_right _ (List.mem_of_getElem? (i := 857) (by decide +kernel)), by decide +kernel⟩
theorem tk_858 : Cond.static yL_shortestCycle ∈ gtbl := List.mem_filter.mpr ⟨List.mem_append_right _ (List.mem_of_getElem? (i := 858) (by decide +kernel)), by decide +kernel⟩
theorem tk_859 : Cond.codeWith yL_shortestCycle cL_shortestCycle 4 (some .int) [(0, 9, 12, 13)] ∈ gtbl := List.mem_filter.mpr ⟨List.mem_append_right _ (List.mem_of_getElem? (i := 859) (by decide +kernel)), by decide +kernel⟩
theorem tk_860 : Cond.methodLink RL 72 yX8_shortestCycle ∈ gtbl := List.mem_filter.mpr ⟨List.mem_append_right _ (List.mem_of_getElem? (i := 860) (by decide +kernel)), by decide +kernel⟩
theorem tk_861 : Cond.instanceMethod yX8_shortestCycle ∈ gtbl := List.mem_filter.mpr ⟨List.mem_append_right _ (List.mem_of_getElem? (i := 861) (by decide +kernel)), by decide +kernel⟩
theorem tk_862 : Cond.selects RX8 yX8_shortestCycle yX8_shortestCycle ∈ gtbl := List.mem_filter.mpr ⟨List.mem_append_right _ (List.mem_of_getElem? (i := 862) (by decide +kernel)), by decide +kernel⟩
theorem tk_863 : Cond.code yX8_shortestCycle cX8_shortestCycle 2 (some .int) ∈ gtbl := List.mem_filter.mpr ⟨List.mem_append_right _ (List.mem_of_getElem? (i := 863) (by decide +kernel)), by decide +kernel⟩
theorem tk_864 : Cond.methodLink RX8 217 yX7_shortestRing ∈ gtbl := List.mem_filter.mpr ⟨List.mem_append_right _ (List.mem_of_getElem? (i := 864) (by decide +kernel)), by decide +kernel⟩
theorem tk_865 : Cond.instanceMethod yX7_shortestRing ∈ gtbl := List.mem_filter.mpr ⟨List.mem_append_right _ (List.mem_of_getElem? (i := 865) (by decide +kernel)), by decide +kernel⟩
theorem tk_866 : Cond.selects RX7 yX7_shortestRing yX7_shortestRing ∈ gtbl := List.mem_filter.mpr ⟨List.mem_append_right _ (List.mem_of_getElem? (i := 866) (by decide +kernel)), by decide +kernel⟩
theorem tk_867 : Cond.code yX7_shortestRing cX7_shortestRing 6 (some .int) ∈ gtbl := List.mem_filter.mpr ⟨List.mem_append_right _ (List.mem_of_getElem? (i := 867) (by decide +kernel)), by decide +kernel⟩
theorem tk_868 : Cond.methodLink RL 184 yL_latest ∈ gtbl := List.mem_filter.mpr ⟨List.mem_append_right _ (List.mem_of_getElem? (i := 868) (by decide +kernel)), by decide +kernel⟩
theorem tk_869 : Cond.static yL_latest ∈ gtbl := List.mem_filter.mpr ⟨List.mem_append_right _ (List.mem_of_getElem? (i := 869) (by decide +kernel)), by decide +kernel⟩
theorem tk_870 : Cond.codeWith yL_latest cL_latest 4 (some .int) [(0, 9, 12, 21)] ∈ gtbl := List.mem_filter.mpr ⟨List.mem_append_right _ (List.mem_of_getElem? (i := 870) (by decide +kernel)), by decide +kernel⟩
theorem tk_871 : Cond.methodLink RL 75 yX8_latest ∈ gtbl := List.mem_filter.mpr ⟨List.mem_append_right _ (List.mem_of_getElem? (i := 871) (by decide +kernel)), by decide +kernel⟩
theorem tk_872 : Cond.instanceMethod yX8_latest ∈ gtbl := List.mem_filter.mpr ⟨List.mem_append_right _ (List.mem_of_getElem? (i := 872) (by decide +kernel)), by decide +kernel⟩
theorem tk_873 : Cond.selects RX8 yX8_latest yX8_latest ∈ gtbl := List.mem_filter.mpr ⟨List.mem_append_right _ (List.mem_of_getElem? (i := 873) (by decide +kernel)), by decide +kernel⟩
theorem tk_874 : Cond.code yX8_latest cX8_latest 2 (some .int) ∈ gtbl := List.mem_filter.mpr ⟨List.mem_append_right _ (List.mem_of_getElem? (i := 874) (by decide +kernel)), by decide +kernel⟩
theorem tk_875 : Cond.methodLink RL 195 yL_type ∈ gtbl := List.mem_filter.mpr ⟨List.mem_append_right _ (List.mem_of_getElem? (i := 875) (by decide +kernel)), by decide +kernel⟩
theorem tk_876 : Cond.static yL_type ∈ gtbl := List.mem_filter.mpr ⟨List.mem_append_right _ (List.mem_of_getElem? (i := 876) (by decide +kernel)), by decide +kernel⟩
theorem tk_877 : Cond.codeWith yL_type cL_type 4 (some .int) [(0, 9, 12, 21), (0, 9, 15, 15)] ∈ gtbl := List.mem_filter.mpr ⟨List.mem_append_right _ (List.mem_of_getElem? (i := 877) (by decide +kernel)), by decide +kernel⟩
theorem tk_878 : Cond.methodLink RL 78 yX8_type ∈ gtbl := List.mem_filter.mpr ⟨List.mem_append_right _ (List.mem_of_getElem? (i := 878) (by decide +kernel)), by decide +kernel⟩
theorem tk_879 : Cond.instanceMethod yX8_type ∈ gtbl := List.mem_filter.mpr ⟨List.mem_append_right _ (List.mem_of_getElem? (i := 879) (by decide +kernel)), by decide +kernel⟩
theorem tk_880 : Cond.selects RX8 yX8_type yX8_type ∈ gtbl := List.mem_filter.mpr ⟨List.mem_append_right _ (List.mem_of_getElem? (i := 880) (by decide +kernel)), by decide +kernel⟩
theorem tk_881 : Cond.code yX8_type cX8_type 2 (some .int) ∈ gtbl := List.mem_filter.mpr ⟨List.mem_append_right _ (List.mem_of_getElem? (i := 881) (by decide +kernel)), by decide +kernel⟩
theorem tk_882 : Cond.methodLink RX8 252 yX5_append ∈ gtbl := List.mem_filter.mpr ⟨List.mem_append_right _ (List.mem_of_getElem? (i := 882) (by decide +kernel)), by decide +kernel⟩
theorem tk_883 : Cond.instanceMethod yX5_append ∈ gtbl := List.mem_filter.mpr ⟨List.mem_append_right _ (List.mem_of_getElem? (i := 883) (by decide +kernel)), by decide +kernel⟩
theorem tk_884 : Cond.selects RX5 yX5_append yX5_append ∈ gtbl := List.mem_filter.mpr ⟨List.mem_append_right _ (List.mem_of_getElem? (i := 884) (by decide +kernel)), by decide +kernel⟩
theorem tk_885 : Cond.code yX5_append cX5_append 2 (some .int) ∈ gtbl := List.mem_filter.mpr ⟨List.mem_append_right _ (List.mem_of_getElem? (i := 885) (by decide +kernel)), by decide +kernel⟩
theorem tk_886 : Cond.methodLink RL 206 yL_run ∈ gtbl := List.mem_filter.mpr ⟨List.mem_append_right _ (List.mem_of_getElem? (i := 886) (by decide +kernel)), by decide +kernel⟩
theorem tk_887 : Cond.static yL_run ∈ gtbl := List.mem_filter.mpr ⟨List.mem_append_right _ (List.mem_of_getElem? (i := 887) (by decide +kernel)), by decide +kernel⟩
theorem tk_888 : Cond.codeWith yL_run cL_run 3 (some .int) [(0, 8, 11, 21)] ∈ gtbl := List.mem_filter.mpr ⟨List.mem_append_right _ (List.mem_of_getElem? (i := 888) (by decide +kernel)), by decide +kernel⟩
theorem tk_889 : Cond.methodLink RL 81 yX8_run ∈ gtbl := List.mem_filter.mpr ⟨List.mem_append_right _ (List.mem_of_getElem? (i := 889) (by decide +kernel)), by decide +kernel⟩
theorem tk_890 : Cond.instanceMethod yX8_run ∈ gtbl := List.mem_filter.mpr ⟨List.mem_append_right _ (List.mem_of_getElem? (i := 890) (by decide +kernel)), by decide +kernel⟩
theorem tk_891 : Cond.selects RX8 yX8_run yX8_run ∈ gtbl := List.mem_filter.mpr ⟨List.mem_append_right _ (List.mem_of_getElem? (i := 891) (by decide +kernel)), by decide +kernel⟩
theorem tk_892 : Cond.code yX8_run cX8_run 7 (some .int) ∈ gtbl := List.mem_filter.mpr ⟨List.mem_append_right _ (List.mem_of_getElem? (i := 892) (by decide +kernel)), by decide +kernel⟩
theorem tk_893 : Cond.methodLink RX8 262 yX8_isAllowed ∈ gtbl := List.mem_filter.mpr ⟨List.mem_append_right _ (List.mem_of_getElem? (i := 893) (by decide +kernel)), by decide +kernel⟩
theorem tk_895 : Cond.instanceMethod yX8_isAllowed ∈ gtbl := List.mem_filter.mpr ⟨List.mem_append_right _ (List.mem_of_getElem? (i := 895) (by decide +kernel)), by decide +kernel⟩
theorem tk_896 : Cond.code yX8_isAllowed cX8_isAllowed 4 (some .boolean) ∈ gtbl := List.mem_filter.mpr ⟨List.mem_append_right _ (List.mem_of_getElem? (i := 896) (by decide +kernel)), by decide +kernel⟩
theorem tk_897 : Cond.methodLink RX8 265 yX8_carryOut ∈ gtbl := List.mem_filter.mpr ⟨List.mem_append_right _ (List.mem_of_getElem? (i := 897) (by decide +kernel)), by decide +kernel⟩
theorem tk_899 : Cond.instanceMethod yX8_carryOut ∈ gtbl := List.mem_filter.mpr ⟨List.mem_append_right _ (List.mem_of_getElem? (i := 899) (by decide +kernel)), by decide +kernel⟩
theorem tk_900 : Cond.code yX8_carryOut cX8_carryOut 4 none ∈ gtbl := List.mem_filter.mpr ⟨List.mem_append_right _ (List.mem_of_getElem? (i := 900) (by decide +kernel)), by decide +kernel⟩
theorem tk_901 : Cond.methodLink RX8 269 yX8_isDigit ∈ gtbl := List.mem_filter.mpr ⟨List.mem_append_right _ (List.mem_of_getElem? (i := 901) (by decide +kernel)), by decide +kernel⟩
theorem tk_902 : Cond.methodLink RL 210 yL_undo ∈ gtbl := List.mem_filter.mpr ⟨List.mem_append_right _ (List.mem_of_getElem? (i := 902) (by decide +kernel)), by decide +kernel⟩
theorem tk_903 : Cond.static yL_undo ∈ gtbl := List.mem_filter.mpr ⟨List.mem_append_right _ (List.mem_of_getElem? (i := 903) (by decide +kernel)), by decide +kernel⟩
theorem tk_904 : Cond.codeWith yL_undo cL_undo 3 (some .int) [(0, 8, 11, 15)] ∈ gtbl := List.mem_filter.mpr ⟨List.mem_append_right _ (List.mem_of_getElem? (i := 904) (by decide +kernel)), by decide +kernel⟩
theorem tk_905 : Cond.methodLink RL 85 yX8_undo ∈ gtbl := List.mem_filter.mpr ⟨List.mem_append_right _ (List.mem_of_getElem? (i := 905) (by decide +kernel)), by decide +kernel⟩
theorem tk_906 : Cond.instanceMethod yX8_undo ∈ gtbl := List.mem_filter.mpr ⟨List.mem_append_right _ (List.mem_of_getElem? (i := 906) (by decide +kernel)), by decide +kernel⟩
theorem tk_907 : Cond.selects RX8 yX8_undo yX8_undo ∈ gtbl := List.mem_filter.mpr ⟨List.mem_append_right _ (List.mem_of_getElem? (i := 907) (by decide +kernel)), by decide +kernel⟩
theorem tk_908 : Cond.code yX8_undo cX8_undo 1 (some .int) ∈ gtbl := List.mem_filter.mpr ⟨List.mem_append_right _ (List.mem_of_getElem? (i := 908) (by decide +kernel)), by decide +kernel⟩
theorem tk_909 : Cond.methodLink RX8 273 yX3_bringBack ∈ gtbl := List.mem_filter.mpr ⟨List.mem_append_right _ (List.mem_of_getElem? (i := 909) (by decide +kernel)), by decide +kernel⟩
theorem tk_910 : Cond.instanceMethod yX3_bringBack ∈ gtbl := List.mem_filter.mpr ⟨List.mem_append_right _ (List.mem_of_getElem? (i := 910) (by decide +kernel)), by decide +kernel⟩
theorem tk_911 : Cond.selects RX3 yX3_bringBack yX3_bringBack ∈ gtbl := List.mem_filter.mpr ⟨List.mem_append_right _ (List.mem_of_getElem? (i := 911) (by decide +kernel)), by decide +kernel⟩
theorem tk_912 : Cond.code yX3_bringBack cX3_bringBack 3 none ∈ gtbl := List.mem_filter.mpr ⟨List.mem_append_right _ (List.mem_of_getElem? (i := 912) (by decide +kernel)), by decide +kernel⟩
theorem tk_913 : Cond.classLink RL 89 RX9 ∈ gtbl := List.mem_filter.mpr ⟨List.mem_append_right _ (List.mem_of_getElem? (i := 913) (by decide +kernel)), by decide +kernel⟩
theorem tk_914 : Cond.instantiable RX9 20 ∈ gtbl := List.mem_filter.mpr ⟨List.mem_append_right _ (List.mem_of_getElem? (i := 914) (by decide +kernel)), by decide +kernel⟩
theorem tk_915 : Cond.methodLink RL 91 yX9_init ∈ gtbl := List.mem_filter.mpr ⟨List.mem_append_right _ (List.mem_of_getElem? (i := 915) (by decide +kernel)), by decide +kernel⟩
theorem tk_916 : Cond.instanceMethod yX9_init ∈ gtbl := List.mem_filter.mpr ⟨List.mem_append_right _ (List.mem_of_getElem? (i := 916) (by decide +kernel)), by decide +kernel⟩
theorem tk_917 : Cond.code yX9_init cX9_init 1 none ∈ gtbl := List.mem_filter.mpr ⟨List.mem_append_right _ (List.mem_of_getElem? (i := 917) (by decide +kernel)), by decide +kernel⟩
theorem tk_918 : Cond.methodLink RX9 1 Lib.objectInit ∈ gtbl := List.mem_filter.mpr ⟨List.mem_append_right _ (List.mem_of_getElem? (i := 918) (by decide +kernel)), by decide +kernel⟩
theorem tk_919 : Cond.fieldLink RX9 7 RX9 "s" "[I" ∈ gtbl := List.mem_filter.mpr ⟨List.mem_append_right _ (List.mem_of_getElem? (i := 919) (by decide +kernel)), by decide +kernel⟩
theorem tk_920 : Cond.fieldLink RX9 13 RX9 "past" "[I" ∈ gtbl := List.mem_filter.mpr ⟨List.mem_append_right _ (List.mem_of_getElem? (i := 920) (by decide +kernel)), by decide +kernel⟩
theorem tk_921 : Cond.fieldLink RX9 51 RX9 "pasts" "I" ∈ gtbl := List.mem_filter.mpr ⟨List.mem_append_right _ (List.mem_of_getElem? (i := 921) (by decide +kernel)), by decide +kernel⟩
theorem tk_922 : Cond.fieldLink RX9 16 RX9 "told" "[I" ∈ gtbl := List.mem_filter.mpr ⟨List.mem_append_right _ (List.mem_of_getElem? (i := 922) (by decide +kernel)), by decide +kernel⟩
theorem tk_923 : Cond.fieldLink RX9 19 RX9 "text" "[B" ∈ gtbl := List.mem_filter.mpr ⟨List.mem_append_right _ (List.mem_of_getElem? (i := 923) (by decide +kernel)), by decide +kernel⟩
theorem tk_924 : Cond.fieldLink RX9 217 RX9 "typed" "I" ∈ gtbl := List.mem_filter.mpr ⟨List.mem_append_right _ (List.mem_of_getElem? (i := 924) (by decide +kernel)), by decide +kernel⟩
theorem tk_925 : Cond.fieldLink RX9 48 RX9 "code" "I" ∈ gtbl := List.mem_filter.mpr ⟨List.mem_append_right _ (List.mem_of_getElem? (i := 925) (by decide +kernel)), by decide +kernel⟩
theorem tk_926 : Cond.fieldLink RX9 23 RX9 "cycleSet" "I" ∈ gtbl := List.mem_filter.mpr ⟨List.mem_append_right _ (List.mem_of_getElem? (i := 926) (by decide +kernel)), by decide +kernel⟩
theorem tk_927 : Cond.fieldLink RX9 27 RX9 "cycleVictim" "I" ∈ gtbl := List.mem_filter.mpr ⟨List.mem_append_right _ (List.mem_of_getElem? (i := 927) (by decide +kernel)), by decide +kernel⟩
theorem tk_928 : Cond.fieldLink RX9 30 RX9 "cycleFirst" "I" ∈ gtbl := List.mem_filter.mpr ⟨List.mem_append_right _ (List.mem_of_getElem? (i := 928) (by decide +kernel)), by decide +kernel⟩
theorem tk_929 : Cond.fieldLink RX9 33 RX9 "before" "[I" ∈ gtbl := List.mem_filter.mpr ⟨List.mem_append_right _ (List.mem_of_getElem? (i := 929) (by decide +kernel)), by decide +kernel⟩
theorem tk_930 : Cond.fieldLink RX9 36 RX9 "path" "[I" ∈ gtbl := List.mem_filter.mpr ⟨List.mem_append_right _ (List.mem_of_getElem? (i := 930) (by decide +kernel)), by decide +kernel⟩
theorem tk_931 : Cond.fieldLink RX9 169 RX9 "paths" "I" ∈ gtbl := List.mem_filter.mpr ⟨List.mem_append_right _ (List.mem_of_getElem? (i := 931) (by decide +kernel)), by decide +kernel⟩
theorem tk_932 : Cond.fieldLink RX9 39 RX9 "edges" "[I" ∈ gtbl := List.mem_filter.mpr ⟨List.mem_append_right _ (List.mem_of_getElem? (i := 932) (by decide +kernel)), by decide +kernel⟩
theorem tk_933 : Cond.fieldLink RX9 42 RX9 "reach" "[I" ∈ gtbl := List.mem_filter.mpr ⟨List.mem_append_right _ (List.mem_of_getElem? (i := 933) (by decide +kernel)), by decide +kernel⟩
theorem tk_934 : Cond.fieldLink RX9 45 RX9 "ways" "[I" ∈ gtbl := List.mem_filter.mpr ⟨List.mem_append_right _ (List.mem_of_getElem? (i := 934) (by decide +kernel)), by decide +kernel⟩
theorem tk_935 : Cond.fieldLink RX9 223 RX9 "place" "I" ∈ gtbl := List.mem_filter.mpr ⟨List.mem_append_right _ (List.mem_of_getElem? (i := 935) (by decide +kernel)), by decide +kernel⟩
theorem tk_936 : Cond.fieldLink RX9 220 RX9 "given" "I" ∈ gtbl := List.mem_filter.mpr ⟨List.mem_append_right _ (List.mem_of_getElem? (i := 936) (by decide +kernel)), by decide +kernel⟩
theorem tk_937 : Cond.fieldLink RX9 236 RX9 "second" "I" ∈ gtbl := List.mem_filter.mpr ⟨List.mem_append_right _ (List.mem_of_getElem? (i := 937) (by decide +kernel)), by decide +kernel⟩
theorem tk_938 : Cond.fieldLink RX9 250 RX9 "hash" "J" ∈ gtbl := List.mem_filter.mpr ⟨List.mem_append_right _ (List.mem_of_getElem? (i := 938) (by decide +kernel)), by decide +kernel⟩
theorem tk_980 : Cond.methodLink RL 98 yX9_thrown ∈ gtbl := List.mem_filter.mpr ⟨List.mem_append_right _ (List.mem_of_getElem? (i := 980) (by decide +kernel)), by decide +kernel⟩
theorem tk_981 : Cond.instanceMethod yX9_thrown ∈ gtbl := List.mem_filter.mpr ⟨List.mem_append_right _ (List.mem_of_getElem? (i := 981) (by decide +kernel)), by decide +kernel⟩
theorem tk_982 : Cond.selects RX9 yX9_thrown yX9_thrown ∈ gtbl := List.mem_filter.mpr ⟨List.mem_append_right _ (List.mem_of_getElem? (i := 982) (by decide +kernel)), by decide +kernel⟩
theorem tk_983 : Cond.code yX9_thrown cX9_thrown 1 (some .int) ∈ gtbl := List.mem_filter.mpr ⟨List.mem_append_right _ (List.mem_of_getElem? (i := 983) (by decide +kernel)), by decide +kernel⟩
theorem tk_984 : Cond.methodLink RL 212 yX9_undo ∈ gtbl := List.mem_filter.mpr ⟨List.mem_append_right _ (List.mem_of_getElem? (i := 984) (by decide +kernel)), by decide +kernel⟩
theorem tk_985 : Cond.instanceMethod yX9_undo ∈ gtbl := List.mem_filter.mpr ⟨List.mem_append_right _ (List.mem_of_getElem? (i := 985) (by decide +kernel)), by decide +kernel⟩
theorem tk_986 : Cond.selects RX9 yX9_undo yX9_undo ∈ gtbl := List.mem_filter.mpr ⟨List.mem_append_right _ (List.mem_of_getElem? (i := 986) (by decide +kernel)), by decide +kernel⟩
theorem tk_987 : Cond.code yX9_undo cX9_undo 2 (some .int) ∈ gtbl := List.mem_filter.mpr ⟨List.mem_append_right _ (List.mem_of_getElem? (i := 987) (by decide +kernel)), by decide +kernel⟩
theorem tk_988 : Cond.methodLink RL 97 yX9_addResource ∈ gtbl := List.mem_filter.mpr ⟨List.mem_append_right _ (List.mem_of_getElem? (i := 988) (by decide +kernel)), by decide +kernel⟩
theorem tk_989 : Cond.instanceMethod yX9_addResource ∈ gtbl := List.mem_filter.mpr ⟨List.mem_append_right _ (List.mem_of_getElem? (i := 989) (by decide +kernel)), by decide +kernel⟩
theorem tk_990 : Cond.selects RX9 yX9_addResource yX9_addResource ∈ gtbl := List.mem_filter.mpr ⟨List.mem_append_right _ (List.mem_of_getElem? (i := 990) (by decide +kernel)), by decide +kernel⟩
theorem tk_991 : Cond.code yX9_addResource cX9_addResource 2 (some .int) ∈ gtbl := List.mem_filter.mpr ⟨List.mem_append_right _ (List.mem_of_getElem? (i := 991) (by decide +kernel)), by decide +kernel⟩
theorem tk_992 : Cond.methodLink RX9 62 yX9_isResource ∈ gtbl := List.mem_filter.mpr ⟨List.mem_append_right _ (List.mem_of_getElem? (i := 992) (by decide +kernel)), by decide +kernel⟩
theorem tk_994 : Cond.instanceMethod yX9_isResource ∈ gtbl := List.mem_filter.mpr ⟨List.mem_append_right _ (List.mem_of_getElem? (i := 994) (by decide +kernel)), by decide +kernel⟩
theorem tk_995 : Cond.code yX9_isResource cX9_isResource 2 (some .boolean) ∈ gtbl := List.mem_filter.mpr ⟨List.mem_append_right _ (List.mem_of_getElem? (i := 995) (by decide +kernel)), by decide +kernel⟩
theorem tk_996 : Cond.methodLink RX9 54 yX9_in ∈ gtbl := List.mem_filter.mpr ⟨List.mem_append_right _ (List.mem_of_getElem? (i := 996) (by decide +kernel)), by decide +kernel⟩
theorem tk_997 : Cond.static yX9_in ∈ gtbl := List.mem_filter.mpr ⟨List.mem_append_right _ (List.mem_of_getElem? (i := 997) (by decide +kernel)), by decide +kernel⟩
theorem tk_998 : Cond.code yX9_in cX9_in 3 (some .boolean) ∈ gtbl := List.mem_filter.mpr ⟨List.mem_append_right _ (List.mem_of_getElem? (i := 998) (by decide +kernel)), by decide +kernel⟩
theorem tk_999 : Cond.methodLink RX9 66 yX9_begins ∈ gtbl := List.mem_filter.mpr ⟨List.mem_append_right _ (List.mem_of_getElem? (i := 999) (by decide +kernel)), by decide +kernel⟩
theorem tk_1001 : Cond.instanceMethod yX9_begins ∈ gtbl := List.mem_filter.mpr ⟨List.mem_append_right _ (List.mem_of_getElem? (i := 1001) (by decide +kernel)), by decide +kernel⟩
theorem tk_1002 : Cond.code yX9_begins cX9_begins 2 none ∈ gtbl := List.mem_filter.mpr ⟨List.mem_append_right _ (List.mem_of_getElem? (i := 1002) (by decide +kernel)), by decide +kernel⟩
theorem tk_1003 : Cond.methodLink RX9 69 yX9_records ∈ gtbl := List.mem_filter.mpr ⟨List.mem_append_right _ (List.mem_of_getElem? (i := 1003) (by decide +kernel)), by decide +kernel⟩
theorem tk_1005 : Cond.instanceMethod yX9_records ∈ gtbl := List.mem_filter.mpr ⟨List.mem_append_right _ (List.mem_of_getElem? (i := 1005) (by decide +kernel)), by decide +kernel⟩
theorem tk_1006 : Cond.code yX9_records cX9_records 2 none ∈ gtbl := List.mem_filter.mpr ⟨List.mem_append_right _ (List.mem_of_getElem? (i := 1006) (by decide +kernel)), by decide +kernel⟩
theorem tk_1007 : Cond.methodLink RL 104 yX9_resources ∈ gtbl := List.mem_filter.mpr ⟨List.mem_append_right _ (List.mem_of_getElem? (i := 1007) (by decide +kernel)), by decide +kernel⟩
theorem tk_1008 : Cond.instanceMethod yX9_resources ∈ gtbl := List.mem_filter.mpr ⟨List.mem_append_right _ (List.mem_of_getElem? (i := 1008) (by decide +kernel)), by decide +kernel⟩
theorem tk_1009 : Cond.selects RX9 yX9_resources yX9_resources ∈ gtbl := List.mem_filter.mpr ⟨List.mem_append_right _ (List.mem_of_getElem? (i := 1009) (by decide +kernel)), by decide +kernel⟩
theorem tk_1010 : Cond.code yX9_resources cX9_resources 1 (some .int) ∈ gtbl := List.mem_filter.mpr ⟨List.mem_append_right _ (List.mem_of_getElem? (i := 1010) (by decide +kernel)), by decide +kernel⟩
theorem tk_1011 : Cond.methodLink RL 108 yX9_resource ∈ gtbl := List.mem_filter.mpr ⟨List.mem_append_right _ (List.mem_of_getElem? (i := 1011) (by decide +kernel)), by decide +kernel⟩
theorem tk_1012 : Cond.instanceMethod yX9_resource ∈ gtbl := List.mem_filter.mpr ⟨List.mem_append_right _ (List.mem_of_getElem? (i := 1012) (by decide +kernel)), by decide +kernel⟩
theorem tk_1013 : Cond.selects RX9 yX9_resource yX9_resource ∈ gtbl := List.mem_filter.mpr ⟨List.mem_append_right _ (List.mem_of_getElem? (i := 1013) (by decide +kernel)), by decide +kernel⟩
theorem tk_1014 : Cond.code yX9_resource cX9_resource 10 (some .int) ∈ gtbl := List.mem_filter.mpr ⟨List.mem_append_right _ (List.mem_of_getElem? (i := 1014) (by decide +kernel)), by decide +kernel⟩
theorem tk_1015 : Cond.methodLink RX9 58 yX9_isBelow ∈ gtbl := List.mem_filter.mpr ⟨List.mem_append_right _ (List.mem_of_getElem? (i := 1015) (by decide +kernel)), by decide +kernel⟩
theorem tk_1017 : Cond.instanceMethod yX9_isBelow ∈ gtbl := List.mem_filter.mpr ⟨List.mem_append_right _ (List.mem_of_getElem? (i := 1017) (by decide +kernel)), by decide +kernel⟩
theorem tk_1018 : Cond.code yX9_isBelow cX9_isBelow 4 (some .boolean) ∈ gtbl := List.mem_filter.mpr ⟨List.mem_append_right _ (List.mem_of_getElem? (i := 1018) (by decide +kernel)), by decide +kernel⟩
theorem tk_1019 : Cond.methodLink RX9 72 yX9_isTask ∈ gtbl := List.mem_filter.mpr ⟨List.mem_append_right _ (List.mem_of_getElem? (i := 1019) (by decide +kernel)), by decide +kernel⟩
theorem tk_1021 : Cond.instanceMethod yX9_isTask ∈ gtbl := List.mem_filter.mpr ⟨List.mem_append_right _ (List.mem_of_getElem? (i := 1021) (by decide +kernel)), by decide +kernel⟩
theorem tk_1022 : Cond.code yX9_isTask cX9_isTask 2 (some .boolean) ∈ gtbl := List.mem_filter.mpr ⟨List.mem_append_right _ (List.mem_of_getElem? (i := 1022) (by decide +kernel)), by decide +kernel⟩
theorem tk_1023 : Cond.methodLink RX9 75 yX9_of ∈ gtbl := List.mem_filter.mpr ⟨List.mem_append_right _ (List.mem_of_getElem? (i := 1023) (by decide +kernel)), by decide +kernel⟩
theorem tk_1025 : Cond.instanceMethod yX9_of ∈ gtbl := List.mem_filter.mpr ⟨List.mem_append_right _ (List.mem_of_getElem? (i := 1025) (by decide +kernel)), by decide +kernel⟩
theorem tk_1026 : Cond.code yX9_of cX9_of 3 (some .int) ∈ gtbl := List.mem_filter.mpr ⟨List.mem_append_right _ (List.mem_of_getElem? (i := 1026) (by decide +kernel)), by decide +kernel⟩
theorem tk_1027 : Cond.methodLink RX9 79 yX9_overlaps ∈ gtbl := List.mem_filter.mpr ⟨List.mem_append_right _ (List.mem_of_getElem? (i := 1027) (by decide +kernel)), by decide +kernel⟩
theorem tk_1029 : Cond.instanceMethod yX9_overlaps ∈ gtbl := List.mem_filter.mpr ⟨List.mem_append_right _ (List.mem_of_getElem? (i := 1029) (by decide +kernel)), by decide +kernel⟩
theorem tk_1030 : Cond.code yX9_overlaps cX9_overlaps 3 (some .boolean) ∈ gtbl := List.mem_filter.mpr ⟨List.mem_append_right _ (List.mem_of_getElem? (i := 1030) (by decide +kernel)), by decide +kernel⟩
theorem tk_1031 : Cond.methodLink RL 111 yX9_overlap ∈ gtbl := List.mem_filter.mpr ⟨List.mem_append_right _ (List.mem_of_getElem? (i := 1031) (by decide +kernel)), by decide +kernel⟩
theorem tk_1032 : Cond.instanceMethod yX9_overlap ∈ gtbl := List.mem_filter.mpr ⟨List.mem_append_right _ (List.mem_of_getElem? (i := 1032) (by decide +kernel)), by decide +kernel⟩
theorem tk_1033 : Cond.selects RX9 yX9_overlap yX9_overlap ∈ gtbl := List.mem_filter.mpr ⟨List.mem_append_right _ (List.mem_of_getElem? (i := 1033) (by decide +kernel)), by decide +kernel⟩
theorem tk_1034 : Cond.code yX9_overlap cX9_overlap 3 (some .boolean) ∈ gtbl := List.mem_filter.mpr ⟨List.mem_append_right _ (List.mem_of_getElem? (i := 1034) (by decide +kernel)), by decide +kernel⟩
theorem tk_1035 : Cond.methodLink RL 114 yX9_create ∈ gtbl := List.mem_filter.mpr ⟨List.mem_append_right _ (List.mem_of_getElem? (i := 1035) (by decide +kernel)), by decide +kernel⟩
theorem tk_1036 : Cond.instanceMethod yX9_create ∈ gtbl := List.mem_filter.mpr ⟨List.mem_append_right _ (List.mem_of_getElem? (i := 1036) (by decide +kernel)), by decide +kernel⟩
theorem tk_1037 : Cond.selects RX9 yX9_create yX9_create ∈ gtbl := List.mem_filter.mpr ⟨List.mem_append_right _ (List.mem_of_getElem? (i := 1037) (by decide +kernel)), by decide +kernel⟩
theorem tk_1038 : Cond.code yX9_create cX9_create 3 (some .int) ∈ gtbl := List.mem_filter.mpr ⟨List.mem_append_right _ (List.mem_of_getElem? (i := 1038) (by decide +kernel)), by decide +kernel⟩
theorem tk_1039 : Cond.methodLink RX9 88 yX9_puts ∈ gtbl := List.mem_filter.mpr ⟨List.mem_append_right _ (List.mem_of_getElem? (i := 1039) (by decide +kernel)), by decide +kernel⟩
theorem tk_1041 : Cond.instanceMethod yX9_puts ∈ gtbl := List.mem_filter.mpr ⟨List.mem_append_right _ (List.mem_of_getElem? (i := 1041) (by decide +kernel)), by decide +kernel⟩
theorem tk_1042 : Cond.code yX9_puts cX9_puts 4 none ∈ gtbl := List.mem_filter.mpr ⟨List.mem_append_right _ (List.mem_of_getElem? (i := 1042) (by decide +kernel)), by decide +kernel⟩
theorem tk_1043 : Cond.methodLink RL 117 yX9_request ∈ gtbl := List.mem_filter.mpr ⟨List.mem_append_right _ (List.mem_of_getElem? (i := 1043) (by decide +kernel)), by decide +kernel⟩
theorem tk_1044 : Cond.instanceMethod yX9_request ∈ gtbl := List.mem_filter.mpr ⟨List.mem_append_right _ (List.mem_of_getElem? (i := 1044) (by decide +kernel)), by decide +kernel⟩
theorem tk_1045 : Cond.selects RX9 yX9_request yX9_request ∈ gtbl := List.mem_filter.mpr ⟨List.mem_append_right _ (List.mem_of_getElem? (i := 1045) (by decide +kernel)), by decide +kernel⟩
theorem tk_1046 : Cond.code yX9_request cX9_request 3 (some .int) ∈ gtbl := List.mem_filter.mpr ⟨List.mem_append_right _ (List.mem_of_getElem? (i := 1046) (by decide +kernel)), by decide +kernel⟩
theorem tk_1047 : Cond.methodLink RX9 128 yX9_requestFault ∈ gtbl := List.mem_filter.mpr ⟨List.mem_append_right _ (List.mem_of_getElem? (i := 1047) (by decide +kernel)), by decide +kernel⟩
theorem tk_1049 : Cond.instanceMethod yX9_requestFault ∈ gtbl := List.mem_filter.mpr ⟨List.mem_append_right _ (List.mem_of_getElem? (i := 1049) (by decide +kernel)), by decide +kernel⟩
theorem tk_1050 : Cond.code yX9_requestFault cX9_requestFault 3 (some .int) ∈ gtbl := List.mem_filter.mpr ⟨List.mem_append_right _ (List.mem_of_getElem? (i := 1050) (by decide +kernel)), by decide +kernel⟩
theorem tk_1051 : Cond.methodLink RX9 113 yX9_isRunning ∈ gtbl := List.mem_filter.mpr ⟨List.mem_append_right _ (List.mem_of_getElem? (i := 1051) (by decide +kernel)), by decide +kernel⟩
theorem tk_1053 : Cond.instanceMethod yX9_isRunning ∈ gtbl := List.mem_filter.mpr ⟨List.mem_append_right _ (List.mem_of_getElem? (i := 1053) (by decide +kernel)), by decide +kernel⟩
theorem tk_1054 : Cond.code yX9_isRunning cX9_isRunning 2 (some .boolean) ∈ gtbl := List.mem_filter.mpr ⟨List.mem_append_right _ (List.mem_of_getElem? (i := 1054) (by decide +kernel)), by decide +kernel⟩
theorem tk_1055 : Cond.methodLink RX9 131 yX9_asks ∈ gtbl := List.mem_filter.mpr ⟨List.mem_append_right _ (List.mem_of_getElem? (i := 1055) (by decide +kernel)), by decide +kernel⟩
theorem tk_1057 : Cond.instanceMethod yX9_asks ∈ gtbl := List.mem_filter.mpr ⟨List.mem_append_right _ (List.mem_of_getElem? (i := 1057) (by decide +kernel)), by decide +kernel⟩
theorem tk_1058 : Cond.code yX9_asks cX9_asks 7 none ∈ gtbl := List.mem_filter.mpr ⟨List.mem_append_right _ (List.mem_of_getElem? (i := 1058) (by decide +kernel)), by decide +kernel⟩
theorem tk_1059 : Cond.methodLink RX9 116 yX9_happens ∈ gtbl := List.mem_filter.mpr ⟨List.mem_append_right _ (List.mem_of_getElem? (i := 1059) (by decide +kernel)), by decide +kernel⟩
theorem tk_1061 : Cond.instanceMethod yX9_happens ∈ gtbl := List.mem_filter.mpr ⟨List.mem_append_right _ (List.mem_of_getElem? (i := 1061) (by decide +kernel)), by decide +kernel⟩
theorem tk_1062 : Cond.code yX9_happens cX9_happens 5 (some .int) ∈ gtbl := List.mem_filter.mpr ⟨List.mem_append_right _ (List.mem_of_getElem? (i := 1062) (by decide +kernel)), by decide +kernel⟩
theorem tk_1063 : Cond.methodLink RX9 107 yX9_isOver ∈ gtbl := List.mem_filter.mpr ⟨List.mem_append_right _ (List.mem_of_getElem? (i := 1063) (by decide +kernel)), by decide +kernel⟩
theorem tk_1065 : Cond.instanceMethod yX9_isOver ∈ gtbl := List.mem_filter.mpr ⟨List.mem_append_right _ (List.mem_of_getElem? (i := 1065) (by decide +kernel)), by decide +kernel⟩
theorem tk_1066 : Cond.code yX9_isOver cX9_isOver 5 (some .boolean) ∈ gtbl := List.mem_filter.mpr ⟨List.mem_append_right _ (List.mem_of_getElem? (i := 1066) (by decide +kernel)), by decide +kernel⟩
theorem tk_1067 : Cond.methodLink RX9 85 yX9_inTheWay ∈ gtbl := List.mem_filter.mpr ⟨List.mem_append_right _ (List.mem_of_getElem? (i := 1067) (by decide +kernel)), by decide +kernel⟩
theorem tk_1069 : Cond.instanceMethod yX9_inTheWay ∈ gtbl := List.mem_filter.mpr ⟨List.mem_append_right _ (List.mem_of_getElem? (i := 1069) (by decide +kernel)), by decide +kernel⟩
theorem tk_1070 : Cond.code yX9_inTheWay cX9_inTheWay 6 (some .int) ∈ gtbl := List.mem_filter.mpr ⟨List.mem_append_right _ (List.mem_of_getElem? (i := 1070) (by decide +kernel)), by decide +kernel⟩
theorem tk_1071 : Cond.methodLink RX9 110 yX9_younger ∈ gtbl := List.mem_filter.mpr ⟨List.mem_append_right _ (List.mem_of_getElem? (i := 1071) (by decide +kernel)), by decide +kernel⟩
theorem tk_1073 : Cond.instanceMethod yX9_younger ∈ gtbl := List.mem_filter.mpr ⟨List.mem_append_right _ (List.mem_of_getElem? (i := 1073) (by decide +kernel)), by decide +kernel⟩
theorem tk_1074 : Cond.code yX9_younger cX9_younger 5 (some .int) ∈ gtbl := List.mem_filter.mpr ⟨List.mem_append_right _ (List.mem_of_getElem? (i := 1074) (by decide +kernel)), by decide +kernel⟩
theorem tk_1075 : Cond.methodLink RX9 119 yX9_ends ∈ gtbl := List.mem_filter.mpr ⟨List.mem_append_right _ (List.mem_of_getElem? (i := 1075) (by decide +kernel)), by decide +kernel⟩
theorem tk_1077 : Cond.instanceMethod yX9_ends ∈ gtbl := List.mem_filter.mpr ⟨List.mem_append_right _ (List.mem_of_getElem? (i := 1077) (by decide +kernel)), by decide +kernel⟩
theorem tk_1078 : Cond.code yX9_ends cX9_ends 2 none ∈ gtbl := List.mem_filter.mpr ⟨List.mem_append_right _ (List.mem_of_getElem? (i := 1078) (by decide +kernel)), by decide +kernel⟩
theorem tk_1079 : Cond.methodLink RX9 99 yX9_leaves ∈ gtbl := List.mem_filter.mpr ⟨List.mem_append_right _ (List.mem_of_getElem? (i := 1079) (by decide +kernel)), by decide +kernel⟩
theorem tk_1081 : Cond.instanceMethod yX9_leaves ∈ gtbl := List.mem_filter.mpr ⟨List.mem_append_right _ (List.mem_of_getElem? (i := 1081) (by decide +kernel)), by decide +kernel⟩
theorem tk_1082 : Cond.code yX9_leaves cX9_leaves 4 none ∈ gtbl := List.mem_filter.mpr ⟨List.mem_append_right _ (List.mem_of_getElem? (i := 1082) (by decide +kernel)), by decide +kernel⟩
theorem tk_1083 : Cond.methodLink RX9 92 yX9_placeOf ∈ gtbl := List.mem_filter.mpr ⟨List.mem_append_right _ (List.mem_of_getElem? (i := 1083) (by decide +kernel)), by decide +kernel⟩
theorem tk_1085 : Cond.instanceMethod yX9_placeOf ∈ gtbl := List.mem_filter.mpr ⟨List.mem_append_right _ (List.mem_of_getElem? (i := 1085) (by decide +kernel)), by decide +kernel⟩
theorem tk_1086 : Cond.code yX9_placeOf cX9_placeOf 4 (some .int) ∈ gtbl := List.mem_filter.mpr ⟨List.mem_append_right _ (List.mem_of_getElem? (i := 1086) (by decide +kernel)), by decide +kernel⟩
theorem tk_1087 : Cond.methodLink RX9 122 yX9_waits ∈ gtbl := List.mem_filter.mpr ⟨List.mem_append_right _ (List.mem_of_getElem? (i := 1087) (by decide +kernel)), by decide +kernel⟩
theorem tk_1089 : Cond.instanceMethod yX9_waits ∈ gtbl := List.mem_filter.mpr ⟨List.mem_append_right _ (List.mem_of_getElem? (i := 1089) (by decide +kernel)), by decide +kernel⟩
theorem tk_1090 : Cond.code yX9_waits cX9_waits 3 none ∈ gtbl := List.mem_filter.mpr ⟨List.mem_append_right _ (List.mem_of_getElem? (i := 1090) (by decide +kernel)), by decide +kernel⟩
theorem tk_1091 : Cond.methodLink RX9 103 yX9_grants ∈ gtbl := List.mem_filter.mpr ⟨List.mem_append_right _ (List.mem_of_getElem? (i := 1091) (by decide +kernel)), by decide +kernel⟩
theorem tk_1093 : Cond.instanceMethod yX9_grants ∈ gtbl := List.mem_filter.mpr ⟨List.mem_append_right _ (List.mem_of_getElem? (i := 1093) (by decide +kernel)), by decide +kernel⟩
theorem tk_1094 : Cond.code yX9_grants cX9_grants 3 none ∈ gtbl := List.mem_filter.mpr ⟨List.mem_append_right _ (List.mem_of_getElem? (i := 1094) (by decide +kernel)), by decide +kernel⟩
theorem tk_1095 : Cond.methodLink RX9 125 yX9_settles ∈ gtbl := List.mem_filter.mpr ⟨List.mem_append_right _ (List.mem_of_getElem? (i := 1095) (by decide +kernel)), by decide +kernel⟩
theorem tk_1097 : Cond.instanceMethod yX9_settles ∈ gtbl := List.mem_filter.mpr ⟨List.mem_append_right _ (List.mem_of_getElem? (i := 1097) (by decide +kernel)), by decide +kernel⟩
theorem tk_1098 : Cond.code yX9_settles cX9_settles 4 none ∈ gtbl := List.mem_filter.mpr ⟨List.mem_append_right _ (List.mem_of_getElem? (i := 1098) (by decide +kernel)), by decide +kernel⟩
theorem tk_1099 : Cond.methodLink RX9 96 yX9_waitsFor ∈ gtbl := List.mem_filter.mpr ⟨List.mem_append_right _ (List.mem_of_getElem? (i := 1099) (by decide +kernel)), by decide +kernel⟩
theorem tk_1101 : Cond.instanceMethod yX9_waitsFor ∈ gtbl := List.mem_filter.mpr ⟨List.mem_append_right _ (List.mem_of_getElem? (i := 1101) (by decide +kernel)), by decide +kernel⟩
theorem tk_1102 : Cond.code yX9_waitsFor cX9_waitsFor 2 (some .int) ∈ gtbl := List.mem_filter.mpr ⟨List.mem_append_right _ (List.mem_of_getElem? (i := 1102) (by decide +kernel)), by decide +kernel⟩
theorem tk_1103 : Cond.methodLink RX9 82 yX9_isWaiting ∈ gtbl := List.mem_filter.mpr ⟨List.mem_append_right _ (List.mem_of_getElem? (i := 1103) (by decide +kernel)), by decide +kernel⟩
theorem tk_1105 : Cond.instanceMethod yX9_isWaiting ∈ gtbl := List.mem_filter.mpr ⟨List.mem_append_right _ (List.mem_of_getElem? (i := 1105) (by decide +kernel)), by decide +kernel⟩
theorem tk_1106 : Cond.code yX9_isWaiting cX9_isWaiting 2 (some .boolean) ∈ gtbl := List.mem_filter.mpr ⟨List.mem_append_right _ (List.mem_of_getElem? (i := 1106) (by decide +kernel)), by decide +kernel⟩
theorem tk_1107 : Cond.methodLink RL 143 yX9_wouldHappen ∈ gtbl := List.mem_filter.mpr ⟨List.mem_append_right _ (List.mem_of_getElem? (i := 1107) (by decide +kernel)), by decide +kernel⟩
theorem tk_1108 : Cond.instanceMethod yX9_wouldHappen ∈ gtbl := List.mem_filter.mpr ⟨List.mem_append_right _ (List.mem_of_getElem? (i := 1108) (by decide +kernel)), by decide +kernel⟩
theorem tk_1109 : Cond.selects RX9 yX9_wouldHappen yX9_wouldHappen ∈ gtbl := List.mem_filter.mpr ⟨List.mem_append_right _ (List.mem_of_getElem? (i := 1109) (by decide +kernel)), by decide +kernel⟩
theorem tk_1110 : Cond.code yX9_wouldHappen cX9_wouldHappen 3 (some .int) ∈ gtbl := List.mem_filter.mpr ⟨List.mem_append_right _ (List.mem_of_getElem? (i := 1110) (by decide +kernel)), by decide +kernel⟩
theorem tk_1111 : Cond.methodLink RL 120 yX9_release ∈ gtbl := List.mem_filter.mpr ⟨List.mem_append_right _ (List.mem_of_getElem? (i := 1111) (by decide +kernel)), by decide +kernel⟩
theorem tk_1112 : Cond.instanceMethod yX9_release ∈ gtbl := List.mem_filter.mpr ⟨List.mem_append_right _ (List.mem_of_getElem? (i := 1112) (by decide +kernel)), by decide +kernel⟩
theorem tk_1113 : Cond.selects RX9 yX9_release yX9_release ∈ gtbl := List.mem_filter.mpr ⟨List.mem_append_right _ (List.mem_of_getElem? (i := 1113) (by decide +kernel)), by decide +kernel⟩
theorem tk_1114 : Cond.code yX9_release cX9_release 3 (some .int) ∈ gtbl := List.mem_filter.mpr ⟨List.mem_append_right _ (List.mem_of_getElem? (i := 1114) (by decide +kernel)), by decide +kernel⟩
theorem tk_1115 : Cond.methodLink RX9 134 yX9_releaseFault ∈ gtbl := List.mem_filter.mpr ⟨List.mem_append_right _ (List.mem_of_getElem? (i := 1115) (by decide +kernel)), by decide +kernel⟩
theorem tk_1117 : Cond.instanceMethod yX9_releaseFault ∈ gtbl := List.mem_filter.mpr ⟨List.mem_append_right _ (List.mem_of_getElem? (i := 1117) (by decide +kernel)), by decide +kernel⟩
theorem tk_1118 : Cond.code yX9_releaseFault cX9_releaseFault 3 (some .int) ∈ gtbl := List.mem_filter.mpr ⟨List.mem_append_right _ (List.mem_of_getElem? (i := 1118) (by decide +kernel)), by decide +kernel⟩
theorem tk_1119 : Cond.methodLink RX9 137 yX9_lets ∈ gtbl := List.mem_filter.mpr ⟨List.mem_append_right _ (List.mem_of_getElem? (i := 1119) (by decide +kernel)), by decide +kernel⟩
theorem tk_1121 : Cond.instanceMethod yX9_lets ∈ gtbl := List.mem_filter.mpr ⟨List.mem_append_right _ (List.mem_of_getElem? (i := 1121) (by decide +kernel)), by decide +kernel⟩
theorem tk_1122 : Cond.code yX9_lets cX9_lets 3 none ∈ gtbl := List.mem_filter.mpr ⟨List.mem_append_right _ (List.mem_of_getElem? (i := 1122) (by decide +kernel)), by decide +kernel⟩
theorem tk_1123 : Cond.methodLink RX9 140 yX9_bits ∈ gtbl := List.mem_filter.mpr ⟨List.mem_append_right _ (List.mem_of_getElem? (i := 1123) (by decide +kernel)), by decide +kernel⟩
theorem tk_1124 : Cond.static yX9_bits ∈ gtbl := List.mem_filter.mpr ⟨List.mem_append_right _ (List.mem_of_getElem? (i := 1124) (by decide +kernel)), by decide +kernel⟩
theorem tk_1125 : Cond.code yX9_bits cX9_bits 3 (some .int) ∈ gtbl := List.mem_filter.mpr ⟨List.mem_append_right _ (List.mem_of_getElem? (i := 1125) (by decide +kernel)), by decide +kernel⟩
theorem tk_1126 : Cond.methodLink RL 123 yX9_finish ∈ gtbl := List.mem_filter.mpr ⟨List.mem_append_right _ (List.mem_of_getElem? (i := 1126) (by decide +kernel)), by decide +kernel⟩
theorem tk_1127 : Cond.instanceMethod yX9_finish ∈ gtbl := List.mem_filter.mpr ⟨List.mem_append_right _ (List.mem_of_getElem? (i := 1127) (by decide +kernel)), by decide +kernel⟩
theorem tk_1128 : Cond.selects RX9 yX9_finish yX9_finish ∈ gtbl := List.mem_filter.mpr ⟨List.mem_append_right _ (List.mem_of_getElem? (i := 1128) (by decide +kernel)), by decide +kernel⟩
theorem tk_1129 : Cond.code yX9_finish cX9_finish 3 (some .int) ∈ gtbl := List.mem_filter.mpr ⟨List.mem_append_right _ (List.mem_of_getElem? (i := 1129) (by decide +kernel)), by decide +kernel⟩
theorem tk_1130 : Cond.methodLink RX9 143 yX9_finishFault ∈ gtbl := List.mem_filter.mpr ⟨List.mem_append_right _ (List.mem_of_getElem? (i := 1130) (by decide +kernel)), by decide +kernel⟩
theorem tk_1132 : Cond.instanceMethod yX9_finishFault ∈ gtbl := List.mem_filter.mpr ⟨List.mem_append_right _ (List.mem_of_getElem? (i := 1132) (by decide +kernel)), by decide +kernel⟩
theorem tk_1133 : Cond.code yX9_finishFault cX9_finishFault 2 (some .int) ∈ gtbl := List.mem_filter.mpr ⟨List.mem_append_right _ (List.mem_of_getElem? (i := 1133) (by decide +kernel)), by decide +kernel⟩
theorem tk_1134 : Cond.methodLink RX9 146 yX9_finishes ∈ gtbl := List.mem_filter.mpr ⟨List.mem_append_right _ (List.mem_of_getElem? (i := 1134) (by decide +kernel)), by decide +kernel⟩
theorem tk_1136 : Cond.instanceMethod yX9_finishes ∈ gtbl := List.mem_filter.mpr ⟨List.mem_append_right _ (List.mem_of_getElem? (i := 1136) (by decide +kernel)), by decide +kernel⟩
theorem tk_1137 : Cond.code yX9_finishes cX9_finishes 2 none ∈ gtbl := List.mem_filter.mpr ⟨List.mem_append_right _ (List.mem_of_getElem? (i := 1137) (by decide +kernel)), by decide +kernel⟩
theorem tk_1138 : Cond.methodLink RL 126 yX9_abort ∈ gtbl := List.mem_filter.mpr ⟨List.mem_append_right _ (List.mem_of_getElem? (i := 1138) (by decide +kernel)), by decide +kernel⟩
theorem tk_1139 : Cond.instanceMethod yX9_abort ∈ gtbl := List.mem_filter.mpr ⟨List.mem_append_right _ (List.mem_of_getElem? (i := 1139) (by decide +kernel)), by decide +kernel⟩
theorem tk_1140 : Cond.selects RX9 yX9_abort yX9_abort ∈ gtbl := List.mem_filter.mpr ⟨List.mem_append_right _ (List.mem_of_getElem? (i := 1140) (by decide +kernel)), by decide +kernel⟩
theorem tk_1141 : Cond.code yX9_abort cX9_abort 3 (some .int) ∈ gtbl := List.mem_filter.mpr ⟨List.mem_append_right _ (List.mem_of_getElem? (i := 1141) (by decide +kernel)), by decide +kernel⟩
theorem tk_1142 : Cond.methodLink RX9 149 yX9_abortFault ∈ gtbl := List.mem_filter.mpr ⟨List.mem_append_right _ (List.mem_of_getElem? (i := 1142) (by decide +kernel)), by decide +kernel⟩
theorem tk_1144 : Cond.instanceMethod yX9_abortFault ∈ gtbl := List.mem_filter.mpr ⟨List.mem_append_right _ (List.mem_of_getElem? (i := 1144) (by decide +kernel)), by decide +kernel⟩
theorem tk_1145 : Cond.code yX9_abortFault cX9_abortFault 2 (some .int) ∈ gtbl := List.mem_filter.mpr ⟨List.mem_append_right _ (List.mem_of_getElem? (i := 1145) (by decide +kernel)), by decide +kernel⟩
theorem tk_1146 : Cond.methodLink RX9 152 yX9_aborts ∈ gtbl := List.mem_filter.mpr ⟨List.mem_append_right _ (List.mem_of_getElem? (i := 1146) (by decide +kernel)), by decide +kernel⟩
theorem tk_1148 : Cond.instanceMethod yX9_aborts ∈ gtbl := List.mem_filter.mpr ⟨List.mem_append_right _ (List.mem_of_getElem? (i := 1148) (by decide +kernel)), by decide +kernel⟩
theorem tk_1149 : Cond.code yX9_aborts cX9_aborts 2 none ∈ gtbl := List.mem_filter.mpr ⟨List.mem_append_right _ (List.mem_of_getElem? (i := 1149) (by decide +kernel)), by decide +kernel⟩
theorem tk_1150 : Cond.methodLink RL 129 yX9_restart ∈ gtbl := List.mem_filter.mpr ⟨List.mem_append_right _ (List.mem_of_getElem? (i := 1150) (by decide +kernel)), by decide +kernel⟩
theorem tk_1151 : Cond.instanceMethod yX9_restart ∈ gtbl := List.mem_filter.mpr ⟨List.mem_append_right _ (List.mem_of_getElem? (i := 1151) (by decide +kernel)), by decide +kernel⟩
theorem tk_1152 : Cond.selects RX9 yX9_restart yX9_restart ∈ gtbl := List.mem_filter.mpr ⟨List.mem_append_right _ (List.mem_of_getElem? (i := 1152) (by decide +kernel)), by decide +kernel⟩
theorem tk_1153 : Cond.code yX9_restart cX9_restart 2 (some .int) ∈ gtbl := List.mem_filter.mpr ⟨List.mem_append_right _ (List.mem_of_getElem? (i := 1153) (by decide +kernel)), by decide +kernel⟩
theorem tk_1154 : Cond.methodLink RX9 155 yX9_restartFault ∈ gtbl := List.mem_filter.mpr ⟨List.mem_append_right _ (List.mem_of_getElem? (i := 1154) (by decide +kernel)), by decide +kernel⟩
theorem tk_1156 : Cond.instanceMethod yX9_restartFault ∈ gtbl := List.mem_filter.mpr ⟨List.mem_append_right _ (List.mem_of_getElem? (i := 1156) (by decide +kernel)), by decide +kernel⟩
theorem tk_1157 : Cond.code yX9_restartFault cX9_restartFault 2 (some .int) ∈ gtbl := List.mem_filter.mpr ⟨List.mem_append_right _ (List.mem_of_getElem? (i := 1157) (by decide +kernel)), by decide +kernel⟩
theorem tk_1158 : Cond.methodLink RL 133 yX9_tasks ∈ gtbl := List.mem_filter.mpr ⟨List.mem_append_right _ (List.mem_of_getElem? (i := 1158) (by decide +kernel)), by decide +kernel⟩
theorem tk_1159 : Cond.instanceMethod yX9_tasks ∈ gtbl := List.mem_filter.mpr ⟨List.mem_append_right _ (List.mem_of_getElem? (i := 1159) (by decide +kernel)), by decide +kernel⟩
theorem tk_1160 : Cond.selects RX9 yX9_tasks yX9_tasks ∈ gtbl := List.mem_filter.mpr ⟨List.mem_append_right _ (List.mem_of_getElem? (i := 1160) (by decide +kernel)), by decide +kernel⟩
theorem tk_1161 : Cond.code yX9_tasks cX9_tasks 1 (some .int) ∈ gtbl := List.mem_filter.mpr ⟨List.mem_append_right _ (List.mem_of_getElem? (i := 1161) (by decide +kernel)), by decide +kernel⟩
theorem tk_1162 : Cond.methodLink RX9 158 yX9_all ∈ gtbl := List.mem_filter.mpr ⟨List.mem_append_right _ (List.mem_of_getElem? (i := 1162) (by decide +kernel)), by decide +kernel⟩
theorem tk_1164 : Cond.instanceMethod yX9_all ∈ gtbl := List.mem_filter.mpr ⟨List.mem_append_right _ (List.mem_of_getElem? (i := 1164) (by decide +kernel)), by decide +kernel⟩
theorem tk_1165 : Cond.code yX9_all cX9_all 3 (some .int) ∈ gtbl := List.mem_filter.mpr ⟨List.mem_append_right _ (List.mem_of_getElem? (i := 1165) (by decide +kernel)), by decide +kernel⟩
theorem tk_1166 : Cond.methodLink RL 136 yX9_task ∈ gtbl := List.mem_filter.mpr ⟨List.mem_append_right _ (List.mem_of_getElem? (i := 1166) (by decide +kernel)), by decide +kernel⟩
theorem tk_1167 : Cond.instanceMethod yX9_task ∈ gtbl := List.mem_filter.mpr ⟨List.mem_append_right _ (List.mem_of_getElem? (i := 1167) (by decide +kernel)), by decide +kernel⟩
theorem tk_1168 : Cond.selects RX9 yX9_task yX9_task ∈ gtbl := List.mem_filter.mpr ⟨List.mem_append_right _ (List.mem_of_getElem? (i := 1168) (by decide +kernel)), by decide +kernel⟩
theorem tk_1169 : Cond.code yX9_task cX9_task 3 (some .int) ∈ gtbl := List.mem_filter.mpr ⟨List.mem_append_right _ (List.mem_of_getElem? (i := 1169) (by decide +kernel)), by decide +kernel⟩
theorem tk_1170 : Cond.methodLink RX9 162 yX9_part ∈ gtbl := List.mem_filter.mpr ⟨List.mem_append_right _ (List.mem_of_getElem? (i := 1170) (by decide +kernel)), by decide +kernel⟩
theorem tk_1172 : Cond.instanceMethod yX9_part ∈ gtbl := List.mem_filter.mpr ⟨List.mem_append_right _ (List.mem_of_getElem? (i := 1172) (by decide +kernel)), by decide +kernel⟩
theorem tk_1173 : Cond.code yX9_part cX9_part 3 (some .int) ∈ gtbl := List.mem_filter.mpr ⟨List.mem_append_right _ (List.mem_of_getElem? (i := 1173) (by decide +kernel)), by decide +kernel⟩
theorem tk_1174 : Cond.methodLink RL 140 yX9_waiting ∈ gtbl := List.mem_filter.mpr ⟨List.mem_append_right _ (List.mem_of_getElem? (i := 1174) (by decide +kernel)), by decide +kernel⟩
theorem tk_1175 : Cond.instanceMethod yX9_waiting ∈ gtbl := List.mem_filter.mpr ⟨List.mem_append_right _ (List.mem_of_getElem? (i := 1175) (by decide +kernel)), by decide +kernel⟩
theorem tk_1176 : Cond.selects RX9 yX9_waiting yX9_waiting ∈ gtbl := List.mem_filter.mpr ⟨List.mem_append_right _ (List.mem_of_getElem? (i := 1176) (by decide +kernel)), by decide +kernel⟩
theorem tk_1177 : Cond.code yX9_waiting cX9_waiting 2 (some .int) ∈ gtbl := List.mem_filter.mpr ⟨List.mem_append_right _ (List.mem_of_getElem? (i := 1177) (by decide +kernel)), by decide +kernel⟩
theorem tk_1178 : Cond.methodLink RL 146 yX9_setPolicy ∈ gtbl := List.mem_filter.mpr ⟨List.mem_append_right _ (List.mem_of_getElem? (i := 1178) (by decide +kernel)), by decide +kernel⟩
theorem tk_1179 : Cond.instanceMethod yX9_setPolicy ∈ gtbl := List.mem_filter.mpr ⟨List.mem_append_right _ (List.mem_of_getElem? (i := 1179) (by decide +kernel)), by decide +kernel⟩
theorem tk_1180 : Cond.selects RX9 yX9_setPolicy yX9_setPolicy ∈ gtbl := List.mem_filter.mpr ⟨List.mem_append_right _ (List.mem_of_getElem? (i := 1180) (by decide +kernel)), by decide +kernel⟩
theorem tk_1181 : Cond.code yX9_setPolicy cX9_setPolicy 2 (some .int) ∈ gtbl := List.mem_filter.mpr ⟨List.mem_append_right _ (List.mem_of_getElem? (i := 1181) (by decide +kernel)), by decide +kernel⟩
theorem tk_1182 : Cond.methodLink RX9 165 yX9_sets ∈ gtbl := List.mem_filter.mpr ⟨List.mem_append_right _ (List.mem_of_getElem? (i := 1182) (by decide +kernel)), by decide +kernel⟩
theorem tk_1184 : Cond.instanceMethod yX9_sets ∈ gtbl := List.mem_filter.mpr ⟨List.mem_append_right _ (List.mem_of_getElem? (i := 1184) (by decide +kernel)), by decide +kernel⟩
theorem tk_1185 : Cond.code yX9_sets cX9_sets 5 (some .int) ∈ gtbl := List.mem_filter.mpr ⟨List.mem_append_right _ (List.mem_of_getElem? (i := 1185) (by decide +kernel)), by decide +kernel⟩
theorem tk_1186 : Cond.methodLink RL 149 yX9_setRule ∈ gtbl := List.mem_filter.mpr ⟨List.mem_append_right _ (List.mem_of_getElem? (i := 1186) (by decide +kernel)), by decide +kernel⟩
theorem tk_1187 : Cond.instanceMethod yX9_setRule ∈ gtbl := List.mem_filter.mpr ⟨List.mem_append_right _ (List.mem_of_getElem? (i := 1187) (by decide +kernel)), by decide +kernel⟩
theorem tk_1188 : Cond.selects RX9 yX9_setRule yX9_setRule ∈ gtbl := List.mem_filter.mpr ⟨List.mem_append_right _ (List.mem_of_getElem? (i := 1188) (by decide +kernel)), by decide +kernel⟩
theorem tk_1189 : Cond.code yX9_setRule cX9_setRule 2 (some .int) ∈ gtbl := List.mem_filter.mpr ⟨List.mem_append_right _ (List.mem_of_getElem? (i := 1189) (by decide +kernel)), by decide +kernel⟩
theorem tk_1190 : Cond.methodLink RL 152 yX9_setBudget ∈ gtbl := List.mem_filter.mpr ⟨List.mem_append_right _ (List.mem_of_getElem? (i := 1190) (by decide +kernel)), by decide +kernel⟩
theorem tk_1191 : Cond.instanceMethod yX9_setBudget ∈ gtbl := List.mem_filter.mpr ⟨List.mem_append_right _ (List.mem_of_getElem? (i := 1191) (by decide +kernel)), by decide +kernel⟩
theorem tk_1192 : Cond.selects RX9 yX9_setBudget yX9_setBudget ∈ gtbl := List.mem_filter.mpr ⟨List.mem_append_right _ (List.mem_of_getElem? (i := 1192) (by decide +kernel)), by decide +kernel⟩
theorem tk_1193 : Cond.code yX9_setBudget cX9_setBudget 2 (some .int) ∈ gtbl := List.mem_filter.mpr ⟨List.mem_append_right _ (List.mem_of_getElem? (i := 1193) (by decide +kernel)), by decide +kernel⟩
theorem tk_1194 : Cond.methodLink RL 155 yX9_probe ∈ gtbl := List.mem_filter.mpr ⟨List.mem_append_right _ (List.mem_of_getElem? (i := 1194) (by decide +kernel)), by decide +kernel⟩
theorem tk_1195 : Cond.instanceMethod yX9_probe ∈ gtbl := List.mem_filter.mpr ⟨List.mem_append_right _ (List.mem_of_getElem? (i := 1195) (by decide +kernel)), by decide +kernel⟩
theorem tk_1196 : Cond.selects RX9 yX9_probe yX9_probe ∈ gtbl := List.mem_filter.mpr ⟨List.mem_append_right _ (List.mem_of_getElem? (i := 1196) (by decide +kernel)), by decide +kernel⟩
theorem tk_1197 : Cond.code yX9_probe cX9_probe 2 (some .int) ∈ gtbl := List.mem_filter.mpr ⟨List.mem_append_right _ (List.mem_of_getElem? (i := 1197) (by decide +kernel)), by decide +kernel⟩
theorem tk_1198 : Cond.methodLink RX9 178 yX9_probeFault ∈ gtbl := List.mem_filter.mpr ⟨List.mem_append_right _ (List.mem_of_getElem? (i := 1198) (by decide +kernel)), by decide +kernel⟩
theorem tk_1200 : Cond.instanceMethod yX9_probeFault ∈ gtbl := List.mem_filter.mpr ⟨List.mem_append_right _ (List.mem_of_getElem? (i := 1200) (by decide +kernel)), by decide +kernel⟩
theorem tk_1201 : Cond.code yX9_probeFault cX9_probeFault 2 (some .int) ∈ gtbl := List.mem_filter.mpr ⟨List.mem_append_right _ (List.mem_of_getElem? (i := 1201) (by decide +kernel)), by decide +kernel⟩
theorem tk_1202 : Cond.methodLink RX9 181 yX9_starts ∈ gtbl := List.mem_filter.mpr ⟨List.mem_append_right _ (List.mem_of_getElem? (i := 1202) (by decide +kernel)), by decide +kernel⟩
theorem tk_1204 : Cond.instanceMethod yX9_starts ∈ gtbl := List.mem_filter.mpr ⟨List.mem_append_right _ (List.mem_of_getElem? (i := 1204) (by decide +kernel)), by decide +kernel⟩
theorem tk_1205 : Cond.code yX9_starts cX9_starts 2 none ∈ gtbl := List.mem_filter.mpr ⟨List.mem_append_right _ (List.mem_of_getElem? (i := 1205) (by decide +kernel)), by decide +kernel⟩
theorem tk_1206 : Cond.methodLink RX9 175 yX9_sendsAll ∈ gtbl := List.mem_filter.mpr ⟨List.mem_append_right _ (List.mem_of_getElem? (i := 1206) (by decide +kernel)), by decide +kernel⟩
theorem tk_1208 : Cond.instanceMethod yX9_sendsAll ∈ gtbl := List.mem_filter.mpr ⟨List.mem_append_right _ (List.mem_of_getElem? (i := 1208) (by decide +kernel)), by decide +kernel⟩
theorem tk_1209 : Cond.code yX9_sendsAll cX9_sendsAll 5 none ∈ gtbl := List.mem_filter.mpr ⟨List.mem_append_right _ (List.mem_of_getElem? (i := 1209) (by decide +kernel)), by decide +kernel⟩
theorem tk_1210 : Cond.methodLink RX9 172 yX9_sends ∈ gtbl := List.mem_filter.mpr ⟨List.mem_append_right _ (List.mem_of_getElem? (i := 1210) (by decide +kernel)), by decide +kernel⟩
theorem tk_1212 : Cond.instanceMethod yX9_sends ∈ gtbl := List.mem_filter.mpr ⟨List.mem_append_right _ (List.mem_of_getElem? (i := 1212) (by decide +kernel)), by decide +kernel⟩
theorem tk_1213 : Cond.code yX9_sends cX9_sends 5 none ∈ gtbl := List.mem_filter.mpr ⟨List.mem_append_right _ (List.mem_of_getElem? (i := 1213) (by decide +kernel)), by decide +kernel⟩
theorem tk_1214 : Cond.methodLink RL 158 yX9_deliver ∈ gtbl := List.mem_filter.mpr ⟨List.mem_append_right _ (List.mem_of_getElem? (i := 1214) (by decide +kernel)), by decide +kernel⟩
theorem tk_1215 : Cond.instanceMethod yX9_deliver ∈ gtbl := List.mem_filter.mpr ⟨List.mem_append_right _ (List.mem_of_getElem? (i := 1215) (by decide +kernel)), by decide +kernel⟩
theorem tk_1216 : Cond.selects RX9 yX9_deliver yX9_deliver ∈ gtbl := List.mem_filter.mpr ⟨List.mem_append_right _ (List.mem_of_getElem? (i := 1216) (by decide +kernel)), by decide +kernel⟩
theorem tk_1217 : Cond.code yX9_deliver cX9_deliver 3 (some .int) ∈ gtbl := List.mem_filter.mpr ⟨List.mem_append_right _ (List.mem_of_getElem? (i := 1217) (by decide +kernel)), by decide +kernel⟩
theorem tk_1218 : Cond.methodLink RX9 202 yX9_deliversUpTo ∈ gtbl := List.mem_filter.mpr ⟨List.mem_append_right _ (List.mem_of_getElem? (i := 1218) (by decide +kernel)), by decide +kernel⟩
theorem tk_1220 : Cond.instanceMethod yX9_deliversUpTo ∈ gtbl := List.mem_filter.mpr ⟨List.mem_append_right _ (List.mem_of_getElem? (i := 1220) (by decide +kernel)), by decide +kernel⟩
theorem tk_1221 : Cond.code yX9_deliversUpTo cX9_deliversUpTo 3 (some .int) ∈ gtbl := List.mem_filter.mpr ⟨List.mem_append_right _ (List.mem_of_getElem? (i := 1221) (by decide +kernel)), by decide +kernel⟩
theorem tk_1222 : Cond.methodLink RX9 199 yX9_delivers ∈ gtbl := List.mem_filter.mpr ⟨List.mem_append_right _ (List.mem_of_getElem? (i := 1222) (by decide +kernel)), by decide +kernel⟩
theorem tk_1224 : Cond.instanceMethod yX9_delivers ∈ gtbl := List.mem_filter.mpr ⟨List.mem_append_right _ (List.mem_of_getElem? (i := 1224) (by decide +kernel)), by decide +kernel⟩
theorem tk_1225 : Cond.code yX9_delivers cX9_delivers 4 none ∈ gtbl := List.mem_filter.mpr ⟨List.mem_append_right _ (List.mem_of_getElem? (i := 1225) (by decide +kernel)), by decide +kernel⟩
theorem tk_1226 : Cond.methodLink RX9 187 yX9_isStale ∈ gtbl := List.mem_filter.mpr ⟨List.mem_append_right _ (List.mem_of_getElem? (i := 1226) (by decide +kernel)), by decide +kernel⟩
theorem tk_1228 : Cond.instanceMethod yX9_isStale ∈ gtbl := List.mem_filter.mpr ⟨List.mem_append_right _ (List.mem_of_getElem? (i := 1228) (by decide +kernel)), by decide +kernel⟩
theorem tk_1229 : Cond.code yX9_isStale cX9_isStale 5 (some .boolean) ∈ gtbl := List.mem_filter.mpr ⟨List.mem_append_right _ (List.mem_of_getElem? (i := 1229) (by decide +kernel)), by decide +kernel⟩
theorem tk_1230 : Cond.methodLink RX9 190 yX9_finds ∈ gtbl := List.mem_filter.mpr ⟨List.mem_append_right _ (List.mem_of_getElem? (i := 1230) (by decide +kernel)), by decide +kernel⟩
theorem tk_1232 : Cond.instanceMethod yX9_finds ∈ gtbl := List.mem_filter.mpr ⟨List.mem_append_right _ (List.mem_of_getElem? (i := 1232) (by decide +kernel)), by decide +kernel⟩
theorem tk_1233 : Cond.code yX9_finds cX9_finds 2 none ∈ gtbl := List.mem_filter.mpr ⟨List.mem_append_right _ (List.mem_of_getElem? (i := 1233) (by decide +kernel)), by decide +kernel⟩
theorem tk_1234 : Cond.methodLink RX9 184 yX9_isBefore ∈ gtbl := List.mem_filter.mpr ⟨List.mem_append_right _ (List.mem_of_getElem? (i := 1234) (by decide +kernel)), by decide +kernel⟩
theorem tk_1236 : Cond.instanceMethod yX9_isBefore ∈ gtbl := List.mem_filter.mpr ⟨List.mem_append_right _ (List.mem_of_getElem? (i := 1236) (by decide +kernel)), by decide +kernel⟩
theorem tk_1237 : Cond.code yX9_isBefore cX9_isBefore 5 (some .boolean) ∈ gtbl := List.mem_filter.mpr ⟨List.mem_append_right _ (List.mem_of_getElem? (i := 1237) (by decide +kernel)), by decide +kernel⟩
theorem tk_1238 : Cond.methodLink RX9 193 yX9_isOnPath ∈ gtbl := List.mem_filter.mpr ⟨List.mem_append_right _ (List.mem_of_getElem? (i := 1238) (by decide +kernel)), by decide +kernel⟩
theorem tk_1240 : Cond.instanceMethod yX9_isOnPath ∈ gtbl := List.mem_filter.mpr ⟨List.mem_append_right _ (List.mem_of_getElem? (i := 1240) (by decide +kernel)), by decide +kernel⟩
theorem tk_1241 : Cond.code yX9_isOnPath cX9_isOnPath 4 (some .boolean) ∈ gtbl := List.mem_filter.mpr ⟨List.mem_append_right _ (List.mem_of_getElem? (i := 1241) (by decide +kernel)), by decide +kernel⟩
theorem tk_1242 : Cond.methodLink RX9 196 yX9_cyclic ∈ gtbl := List.mem_filter.mpr ⟨List.mem_append_right _ (List.mem_of_getElem? (i := 1242) (by decide +kernel)), by decide +kernel⟩
theorem tk_1244 : Cond.instanceMethod yX9_cyclic ∈ gtbl := List.mem_filter.mpr ⟨List.mem_append_right _ (List.mem_of_getElem? (i := 1244) (by decide +kernel)), by decide +kernel⟩
theorem tk_1245 : Cond.code yX9_cyclic cX9_cyclic 4 (some .int) ∈ gtbl := List.mem_filter.mpr ⟨List.mem_append_right _ (List.mem_of_getElem? (i := 1245) (by decide +kernel)), by decide +kernel⟩
theorem tk_1246 : Cond.methodLink RX9 208 yX9_lays ∈ gtbl := List.mem_filter.mpr ⟨List.mem_append_right _ (List.mem_of_getElem? (i := 1246) (by decide +kernel)), by decide +kernel⟩
theorem tk_1248 : Cond.instanceMethod yX9_lays ∈ gtbl := List.mem_filter.mpr ⟨List.mem_append_right _ (List.mem_of_getElem? (i := 1248) (by decide +kernel)), by decide +kernel⟩
theorem tk_1249 : Cond.code yX9_lays cX9_lays 4 none ∈ gtbl := List.mem_filter.mpr ⟨List.mem_append_right _ (List.mem_of_getElem? (i := 1249) (by decide +kernel)), by decide +kernel⟩
theorem tk_1250 : Cond.methodLink RL 162 yX9_messages ∈ gtbl := List.mem_filter.mpr ⟨List.mem_append_right _ (List.mem_of_getElem? (i := 1250) (by decide +kernel)), by decide +kernel⟩
theorem tk_1251 : Cond.instanceMethod yX9_messages ∈ gtbl := List.mem_filter.mpr ⟨List.mem_append_right _ (List.mem_of_getElem? (i := 1251) (by decide +kernel)), by decide +kernel⟩
theorem tk_1252 : Cond.selects RX9 yX9_messages yX9_messages ∈ gtbl := List.mem_filter.mpr ⟨List.mem_append_right _ (List.mem_of_getElem? (i := 1252) (by decide +kernel)), by decide +kernel⟩
theorem tk_1253 : Cond.code yX9_messages cX9_messages 1 (some .int) ∈ gtbl := List.mem_filter.mpr ⟨List.mem_append_right _ (List.mem_of_getElem? (i := 1253) (by decide +kernel)), by decide +kernel⟩
theorem tk_1254 : Cond.methodLink RL 165 yX9_message ∈ gtbl := List.mem_filter.mpr ⟨List.mem_append_right _ (List.mem_of_getElem? (i := 1254) (by decide +kernel)), by decide +kernel⟩
theorem tk_1255 : Cond.instanceMethod yX9_message ∈ gtbl := List.mem_filter.mpr ⟨List.mem_append_right _ (List.mem_of_getElem? (i := 1255) (by decide +kernel)), by decide +kernel⟩
theorem tk_1256 : Cond.selects RX9 yX9_message yX9_message ∈ gtbl := List.mem_filter.mpr ⟨List.mem_append_right _ (List.mem_of_getElem? (i := 1256) (by decide +kernel)), by decide +kernel⟩
theorem tk_1257 : Cond.code yX9_message cX9_message 3 (some .int) ∈ gtbl := List.mem_filter.mpr ⟨List.mem_append_right _ (List.mem_of_getElem? (i := 1257) (by decide +kernel)), by decide +kernel⟩
theorem tk_1258 : Cond.methodLink RX9 205 yX9_mail ∈ gtbl := List.mem_filter.mpr ⟨List.mem_append_right _ (List.mem_of_getElem? (i := 1258) (by decide +kernel)), by decide +kernel⟩
theorem tk_1260 : Cond.instanceMethod yX9_mail ∈ gtbl := List.mem_filter.mpr ⟨List.mem_append_right _ (List.mem_of_getElem? (i := 1260) (by decide +kernel)), by decide +kernel⟩
theorem tk_1261 : Cond.code yX9_mail cX9_mail 6 (some .int) ∈ gtbl := List.mem_filter.mpr ⟨List.mem_append_right _ (List.mem_of_getElem? (i := 1261) (by decide +kernel)), by decide +kernel⟩
theorem tk_1262 : Cond.methodLink RL 168 yX9_told ∈ gtbl := List.mem_filter.mpr ⟨List.mem_append_right _ (List.mem_of_getElem? (i := 1262) (by decide +kernel)), by decide +kernel⟩
theorem tk_1263 : Cond.instanceMethod yX9_told ∈ gtbl := List.mem_filter.mpr ⟨List.mem_append_right _ (List.mem_of_getElem? (i := 1263) (by decide +kernel)), by decide +kernel⟩
theorem tk_1264 : Cond.selects RX9 yX9_told yX9_told ∈ gtbl := List.mem_filter.mpr ⟨List.mem_append_right _ (List.mem_of_getElem? (i := 1264) (by decide +kernel)), by decide +kernel⟩
theorem tk_1265 : Cond.code yX9_told cX9_told 2 (some .int) ∈ gtbl := List.mem_filter.mpr ⟨List.mem_append_right _ (List.mem_of_getElem? (i := 1265) (by decide +kernel)), by decide +kernel⟩
theorem tk_1266 : Cond.methodLink RL 172 yX9_onCycles ∈ gtbl := List.mem_filter.mpr ⟨List.mem_append_right _ (List.mem_of_getElem? (i := 1266) (by decide +kernel)), by decide +kernel⟩
theorem tk_1267 : Cond.instanceMethod yX9_onCycles ∈ gtbl := List.mem_filter.mpr ⟨List.mem_append_right _ (List.mem_of_getElem? (i := 1267) (by decide +kernel)), by decide +kernel⟩
theorem tk_1268 : Cond.selects RX9 yX9_onCycles yX9_onCycles ∈ gtbl := List.mem_filter.mpr ⟨List.mem_append_right _ (List.mem_of_getElem? (i := 1268) (by decide +kernel)), by decide +kernel⟩
theorem tk_1269 : Cond.code yX9_onCycles cX9_onCycles 1 (some .int) ∈ gtbl := List.mem_filter.mpr ⟨List.mem_append_right _ (List.mem_of_getElem? (i := 1269) (by decide +kernel)), by decide +kernel⟩
theorem tk_1270 : Cond.methodLink RL 176 yX9_stuck ∈ gtbl := List.mem_filter.mpr ⟨List.mem_append_right _ (List.mem_of_getElem? (i := 1270) (by decide +kernel)), by decide +kernel⟩
theorem tk_1271 : Cond.instanceMethod yX9_stuck ∈ gtbl := List.mem_filter.mpr ⟨List.mem_append_right _ (List.mem_of_getElem? (i := 1271) (by decide +kernel)), by decide +kernel⟩
theorem tk_1272 : Cond.selects RX9 yX9_stuck yX9_stuck ∈ gtbl := List.mem_filter.mpr ⟨List.mem_append_right _ (List.mem_of_getElem? (i := 1272) (by decide +kernel)), by decide +kernel⟩
theorem tk_1273 : Cond.code yX9_stuck cX9_stuck 1 (some .int) ∈ gtbl := List.mem_filter.mpr ⟨List.mem_append_right _ (List.mem_of_getElem? (i := 1273) (by decide +kernel)), by decide +kernel⟩
theorem tk_1274 : Cond.methodLink RX9 211 yX9_stuckTasks ∈ gtbl := List.mem_filter.mpr ⟨List.mem_append_right _ (List.mem_of_getElem? (i := 1274) (by decide +kernel)), by decide +kernel⟩
theorem tk_1276 : Cond.instanceMethod yX9_stuckTasks ∈ gtbl := List.mem_filter.mpr ⟨List.mem_append_right _ (List.mem_of_getElem? (i := 1276) (by decide +kernel)), by decide +kernel⟩
theorem tk_1277 : Cond.code yX9_stuckTasks cX9_stuckTasks 4 (some .int) ∈ gtbl := List.mem_filter.mpr ⟨List.mem_append_right _ (List.mem_of_getElem? (i := 1277) (by decide +kernel)), by decide +kernel⟩
theorem tk_1278 : Cond.methodLink RL 179 yX9_shortestCycle ∈ gtbl := List.mem_filter.mpr ⟨List.mem_append_right _ (List.mem_of_getElem? (i := 1278) (by decide +kernel)), by decide +kernel⟩
theorem tk_1279 : Cond.instanceMethod yX9_shortestCycle ∈ gtbl := List.mem_filter.mpr ⟨List.mem_append_right _ (List.mem_of_getElem? (i := 1279) (by decide +kernel)), by decide +kernel⟩
theorem tk_1280 : Cond.selects RX9 yX9_shortestCycle yX9_shortestCycle ∈ gtbl := List.mem_filter.mpr ⟨List.mem_append_right _ (List.mem_of_getElem? (i := 1280) (by decide +kernel)), by decide +kernel⟩
theorem tk_1281 : Cond.code yX9_shortestCycle cX9_shortestCycle 6 (some .int) ∈ gtbl := List.mem_filter.mpr ⟨List.mem_append_right _ (List.mem_of_getElem? (i := 1281) (by decide +kernel)), by decide +kernel⟩
theorem tk_1282 : Cond.methodLink RL 183 yX9_cycles ∈ gtbl := List.mem_filter.mpr ⟨List.mem_append_right _ (List.mem_of_getElem? (i := 1282) (by decide +kernel)), by decide +kernel⟩
theorem tk_1283 : Cond.instanceMethod yX9_cycles ∈ gtbl := List.mem_filter.mpr ⟨List.mem_append_right _ (List.mem_of_getElem? (i := 1283) (by decide +kernel)), by decide +kernel⟩
theorem tk_1284 : Cond.selects RX9 yX9_cycles yX9_cycles ∈ gtbl := List.mem_filter.mpr ⟨List.mem_append_right _ (List.mem_of_getElem? (i := 1284) (by decide +kernel)), by decide +kernel⟩
theorem tk_1285 : Cond.code yX9_cycles cX9_cycles 9 (some .int) ∈ gtbl := List.mem_filter.mpr ⟨List.mem_append_right _ (List.mem_of_getElem? (i := 1285) (by decide +kernel)), by decide +kernel⟩
theorem tk_1286 : Cond.methodLink RL 186 yX9_latest ∈ gtbl := List.mem_filter.mpr ⟨List.mem_append_right _ (List.mem_of_getElem? (i := 1286) (by decide +kernel)), by decide +kernel⟩
theorem tk_1287 : Cond.instanceMethod yX9_latest ∈ gtbl := List.mem_filter.mpr ⟨List.mem_append_right _ (List.mem_of_getElem? (i := 1287) (by decide +kernel)), by decide +kernel⟩
theorem tk_1288 : Cond.selects RX9 yX9_latest yX9_latest ∈ gtbl := List.mem_filter.mpr ⟨List.mem_append_right _ (List.mem_of_getElem? (i := 1288) (by decide +kernel)), by decide +kernel⟩
theorem tk_1289 : Cond.code yX9_latest cX9_latest 2 (some .int) ∈ gtbl := List.mem_filter.mpr ⟨List.mem_append_right _ (List.mem_of_getElem? (i := 1289) (by decide +kernel)), by decide +kernel⟩
theorem tk_1290 : Cond.methodLink RL 190 yX9_bestVictims ∈ gtbl := List.mem_filter.mpr ⟨List.mem_append_right _ (List.mem_of_getElem? (i := 1290) (by decide +kernel)), by decide +kernel⟩
theorem tk_1291 : Cond.instanceMethod yX9_bestVictims ∈ gtbl := List.mem_filter.mpr ⟨List.mem_append_right _ (List.mem_of_getElem? (i := 1291) (by decide +kernel)), by decide +kernel⟩
theorem tk_1292 : Cond.selects RX9 yX9_bestVictims yX9_bestVictims ∈ gtbl := List.mem_filter.mpr ⟨List.mem_append_right _ (List.mem_of_getElem? (i := 1292) (by decide +kernel)), by decide +kernel⟩
theorem tk_1293 : Cond.code yX9_bestVictims cX9_bestVictims 6 (some .int) ∈ gtbl := List.mem_filter.mpr ⟨List.mem_append_right _ (List.mem_of_getElem? (i := 1293) (by decide +kernel)), by decide +kernel⟩
theorem tk_1294 : Cond.methodLink RX9 214 yX9_costOf ∈ gtbl := List.mem_filter.mpr ⟨List.mem_append_right _ (List.mem_of_getElem? (i := 1294) (by decide +kernel)), by decide +kernel⟩
theorem tk_1296 : Cond.instanceMethod yX9_costOf ∈ gtbl := List.mem_filter.mpr ⟨List.mem_append_right _ (List.mem_of_getElem? (i := 1296) (by decide +kernel)), by decide +kernel⟩
theorem tk_1297 : Cond.code yX9_costOf cX9_costOf 4 (some .int) ∈ gtbl := List.mem_filter.mpr ⟨List.mem_append_right _ (List.mem_of_getElem? (i := 1297) (by decide +kernel)), by decide +kernel⟩
theorem tk_1298 : Cond.methodLink RL 194 yX9_wouldEnd ∈ gtbl := List.mem_filter.mpr ⟨List.mem_append_right _ (List.mem_of_getElem? (i := 1298) (by decide +kernel)), by decide +kernel⟩
theorem tk_1299 : Cond.instanceMethod yX9_wouldEnd ∈ gtbl := List.mem_filter.mpr ⟨List.mem_append_right _ (List.mem_of_getElem? (i := 1299) (by decide +kernel)), by decide +kernel⟩
theorem tk_1300 : Cond.selects RX9 yX9_wouldEnd yX9_wouldEnd ∈ gtbl := List.mem_filter.mpr ⟨List.mem_append_right _ (List.mem_of_getElem? (i := 1300) (by decide +kernel)), by decide +kernel⟩
theorem tk_1301 : Cond.code yX9_wouldEnd cX9_wouldEnd 5 (some .int) ∈ gtbl := List.mem_filter.mpr ⟨List.mem_append_right _ (List.mem_of_getElem? (i := 1301) (by decide +kernel)), by decide +kernel⟩
theorem tk_1302 : Cond.methodLink RL 197 yX9_type ∈ gtbl := List.mem_filter.mpr ⟨List.mem_append_right _ (List.mem_of_getElem? (i := 1302) (by decide +kernel)), by decide +kernel⟩
theorem tk_1303 : Cond.instanceMethod yX9_type ∈ gtbl := List.mem_filter.mpr ⟨List.mem_append_right _ (List.mem_of_getElem? (i := 1303) (by decide +kernel)), by decide +kernel⟩
theorem tk_1304 : Cond.selects RX9 yX9_type yX9_type ∈ gtbl := List.mem_filter.mpr ⟨List.mem_append_right _ (List.mem_of_getElem? (i := 1304) (by decide +kernel)), by decide +kernel⟩
theorem tk_1305 : Cond.code yX9_type cX9_type 2 (some .int) ∈ gtbl := List.mem_filter.mpr ⟨List.mem_append_right _ (List.mem_of_getElem? (i := 1305) (by decide +kernel)), by decide +kernel⟩
theorem tk_1306 : Cond.methodLink RL 201 yX9_clearText ∈ gtbl := List.mem_filter.mpr ⟨List.mem_append_right _ (List.mem_of_getElem? (i := 1306) (by decide +kernel)), by decide +kernel⟩
theorem tk_1307 : Cond.instanceMethod yX9_clearText ∈ gtbl := List.mem_filter.mpr ⟨List.mem_append_right _ (List.mem_of_getElem? (i := 1307) (by decide +kernel)), by decide +kernel⟩
theorem tk_1308 : Cond.selects RX9 yX9_clearText yX9_clearText ∈ gtbl := List.mem_filter.mpr ⟨List.mem_append_right _ (List.mem_of_getElem? (i := 1308) (by decide +kernel)), by decide +kernel⟩
theorem tk_1309 : Cond.code yX9_clearText cX9_clearText 2 (some .int) ∈ gtbl := List.mem_filter.mpr ⟨List.mem_append_right _ (List.mem_of_getElem? (i := 1309) (by decide +kernel)), by decide +kernel⟩
theorem tk_1310 : Cond.methodLink RL 205 yX9_fault ∈ gtbl := List.mem_filter.mpr ⟨List.mem_append_right _ (List.mem_of_getElem? (i := 1310) (by decide +kernel)), by decide +kernel⟩
theorem tk_1311 : Cond.instanceMethod yX9_fault ∈ gtbl := List.mem_filter.mpr ⟨List.mem_append_right _ (List.mem_of_getElem? (i := 1311) (by decide +kernel)), by decide +kernel⟩
theorem tk_1312 : Cond.selects RX9 yX9_fault yX9_fault ∈ gtbl := List.mem_filter.mpr ⟨List.mem_append_right _ (List.mem_of_getElem? (i := 1312) (by decide +kernel)), by decide +kernel⟩
theorem tk_1313 : Cond.code yX9_fault cX9_fault 1 (some .int) ∈ gtbl := List.mem_filter.mpr ⟨List.mem_append_right _ (List.mem_of_getElem? (i := 1313) (by decide +kernel)), by decide +kernel⟩
theorem tk_1314 : Cond.methodLink RX9 242 yX9_faultOf ∈ gtbl := List.mem_filter.mpr ⟨List.mem_append_right _ (List.mem_of_getElem? (i := 1314) (by decide +kernel)), by decide +kernel⟩
theorem tk_1316 : Cond.instanceMethod yX9_faultOf ∈ gtbl := List.mem_filter.mpr ⟨List.mem_append_right _ (List.mem_of_getElem? (i := 1316) (by decide +kernel)), by decide +kernel⟩
theorem tk_1317 : Cond.code yX9_faultOf cX9_faultOf 2 (some .int) ∈ gtbl := List.mem_filter.mpr ⟨List.mem_append_right _ (List.mem_of_getElem? (i := 1317) (by decide +kernel)), by decide +kernel⟩
theorem tk_1318 : Cond.methodLink RX9 226 yX9_here ∈ gtbl := List.mem_filter.mpr ⟨List.mem_append_right _ (List.mem_of_getElem? (i := 1318) (by decide +kernel)), by decide +kernel⟩
theorem tk_1320 : Cond.instanceMethod yX9_here ∈ gtbl := List.mem_filter.mpr ⟨List.mem_append_right _ (List.mem_of_getElem? (i := 1320) (by decide +kernel)), by decide +kernel⟩
theorem tk_1321 : Cond.code yX9_here cX9_here 2 (some .int) ∈ gtbl := List.mem_filter.mpr ⟨List.mem_append_right _ (List.mem_of_getElem? (i := 1321) (by decide +kernel)), by decide +kernel⟩
theorem tk_1322 : Cond.methodLink RX9 233 yX9_arguments ∈ gtbl := List.mem_filter.mpr ⟨List.mem_append_right _ (List.mem_of_getElem? (i := 1322) (by decide +kernel)), by decide +kernel⟩
theorem tk_1323 : Cond.static yX9_arguments ∈ gtbl := List.mem_filter.mpr ⟨List.mem_append_right _ (List.mem_of_getElem? (i := 1323) (by decide +kernel)), by decide +kernel⟩
theorem tk_1324 : Cond.code yX9_arguments cX9_arguments 1 (some .int) ∈ gtbl := List.mem_filter.mpr ⟨List.mem_append_right _ (List.mem_of_getElem? (i := 1324) (by decide +kernel)), by decide +kernel⟩
theorem tk_1325 : Cond.methodLink RX9 239 yX9_readsCommand ∈ gtbl := List.mem_filter.mpr ⟨List.mem_append_right _ (List.mem_of_getElem? (i := 1325) (by decide +kernel)), by decide +kernel⟩
theorem tk_1327 : Cond.instanceMethod yX9_readsCommand ∈ gtbl := List.mem_filter.mpr ⟨List.mem_append_right _ (List.mem_of_getElem? (i := 1327) (by decide +kernel)), by decide +kernel⟩
theorem tk_1328 : Cond.code yX9_readsCommand cX9_readsCommand 3 (some .boolean) ∈ gtbl := List.mem_filter.mpr ⟨List.mem_append_right _ (List.mem_of_getElem? (i := 1328) (by decide +kernel)), by decide +kernel⟩
theorem tk_1329 : Cond.methodLink RX9 229 yX9_readsNumber ∈ gtbl := List.mem_filter.mpr ⟨List.mem_append_right _ (List.mem_of_getElem? (i := 1329) (by decide +kernel)), by decide +kernel⟩
theorem tk_1331 : Cond.instanceMethod yX9_readsNumber ∈ gtbl := List.mem_filter.mpr ⟨List.mem_append_right _ (List.mem_of_getElem? (i := 1331) (by decide +kernel)), by decide +kernel⟩
theorem tk_1332 : Cond.code yX9_readsNumber cX9_readsNumber 2 (some .boolean) ∈ gtbl := List.mem_filter.mpr ⟨List.mem_append_right _ (List.mem_of_getElem? (i := 1332) (by decide +kernel)), by decide +kernel⟩
theorem tk_1333 : Cond.methodLink RL 209 yX9_run ∈ gtbl := List.mem_filter.mpr ⟨List.mem_append_right _ (List.mem_of_getElem? (i := 1333) (by decide +kernel)), by decide +kernel⟩
theorem tk_1334 : Cond.instanceMethod yX9_run ∈ gtbl := List.mem_filter.mpr ⟨List.mem_append_right _ (List.mem_of_getElem? (i := 1334) (by decide +kernel)), by decide +kernel⟩
theorem tk_1335 : Cond.selects RX9 yX9_run yX9_run ∈ gtbl := List.mem_filter.mpr ⟨List.mem_append_right _ (List.mem_of_getElem? (i := 1335) (by decide +kernel)), by decide +kernel⟩
theorem tk_1336 : Cond.code yX9_run cX9_run 4 (some .int) ∈ gtbl := List.mem_filter.mpr ⟨List.mem_append_right _ (List.mem_of_getElem? (i := 1336) (by decide +kernel)), by decide +kernel⟩
theorem tk_1337 : Cond.methodLink RX9 245 yX9_does ∈ gtbl := List.mem_filter.mpr ⟨List.mem_append_right _ (List.mem_of_getElem? (i := 1337) (by decide +kernel)), by decide +kernel⟩
theorem tk_1339 : Cond.instanceMethod yX9_does ∈ gtbl := List.mem_filter.mpr ⟨List.mem_append_right _ (List.mem_of_getElem? (i := 1339) (by decide +kernel)), by decide +kernel⟩
theorem tk_1340 : Cond.code yX9_does cX9_does 7 (some .boolean) ∈ gtbl := List.mem_filter.mpr ⟨List.mem_append_right _ (List.mem_of_getElem? (i := 1340) (by decide +kernel)), by decide +kernel⟩
theorem tk_1341 : Cond.methodLink RL 217 yX9_checksum ∈ gtbl := List.mem_filter.mpr ⟨List.mem_append_right _ (List.mem_of_getElem? (i := 1341) (by decide +kernel)), by decide +kernel⟩
theorem tk_1342 : Cond.instanceMethod yX9_checksum ∈ gtbl := List.mem_filter.mpr ⟨List.mem_append_right _ (List.mem_of_getElem? (i := 1342) (by decide +kernel)), by decide +kernel⟩
theorem tk_1343 : Cond.selects RX9 yX9_checksum yX9_checksum ∈ gtbl := List.mem_filter.mpr ⟨List.mem_append_right _ (List.mem_of_getElem? (i := 1343) (by decide +kernel)), by decide +kernel⟩
theorem tk_1344 : Cond.code yX9_checksum cX9_checksum 3 (some .long) ∈ gtbl := List.mem_filter.mpr ⟨List.mem_append_right _ (List.mem_of_getElem? (i := 1344) (by decide +kernel)), by decide +kernel⟩
theorem tk_1345 : Cond.constantLong RX9 254 18547 ∈ gtbl := List.mem_filter.mpr ⟨List.mem_append_right _ (List.mem_of_getElem? (i := 1345) (by decide +kernel)), by decide +kernel⟩
theorem tk_1346 : Cond.methodLink RX9 256 yX9_mixes ∈ gtbl := List.mem_filter.mpr ⟨List.mem_append_right _ (List.mem_of_getElem? (i := 1346) (by decide +kernel)), by decide +kernel⟩
theorem tk_1348 : Cond.instanceMethod yX9_mixes ∈ gtbl := List.mem_filter.mpr ⟨List.mem_append_right _ (List.mem_of_getElem? (i := 1348) (by decide +kernel)), by decide +kernel⟩
theorem tk_1349 : Cond.code yX9_mixes cX9_mixes 2 none ∈ gtbl := List.mem_filter.mpr ⟨List.mem_append_right _ (List.mem_of_getElem? (i := 1349) (by decide +kernel)), by decide +kernel⟩
theorem tk_1350 : Cond.constantLong RX9 248 31 ∈ gtbl := List.mem_filter.mpr ⟨List.mem_append_right _ (List.mem_of_getElem? (i := 1350) (by decide +kernel)), by decide +kernel⟩
theorem tl_29 : Cond.methodLinkNest RX8 9 yX0_init RX8 ∈ lw_tbl := List.mem_append_right _ (List.mem_of_getElem? (i := 29) (by decide +kernel))
theorem tl_35 : Cond.methodLinkNest RX0 11 yX2_init RX8 ∈ lw_tbl := List.mem_append_right _ (List.mem_of_getElem? (i := 35) (by decide +kernel))
theorem tl_61 : Cond.methodLinkNest RX0 20 yX4_init RX8 ∈ lw_tbl := List.mem_append_right _ (List.mem_of_getElem? (i := 61) (by decide +kernel))
theorem tl_157 : Cond.methodLinkNest RX8 21 yX6_init RX8 ∈ lw_tbl := List.mem_append_right _ (List.mem_of_getElem? (i := 157) (by decide +kernel))
theorem tl_180 : Cond.methodLinkNest RX8 28 yX7_init RX8 ∈ lw_tbl := List.mem_append_right _ (List.mem_of_getElem? (i := 180) (by decide +kernel))
theorem tl_217 : Cond.methodLinkNest RX8 44 yX3_init RX8 ∈ lw_tbl := List.mem_append_right _ (List.mem_of_getElem? (i := 217) (by decide +kernel))
theorem tl_233 : Cond.methodLinkNest RX8 51 yX5_init RX8 ∈ lw_tbl := List.mem_append_right _ (List.mem_of_getElem? (i := 233) (by decide +kernel))
theorem tl_308 : Cond.methodLinkNest RX7 24 yX8_inSet RX8 ∈ lw_tbl := List.mem_append_right _ (List.mem_of_getElem? (i := 308) (by decide +kernel))
theorem tl_417 : Cond.methodLinkNest RX5 23 yX8_isDigit RX8 ∈ lw_tbl := List.mem_append_right _ (List.mem_of_getElem? (i := 417) (by decide +kernel))
theorem tl_439 : Cond.castable "java/lang/IndexOutOfBoundsException" "java/lang/IndexOutOfBoundsException" ∈ lw_tbl := List.mem_append_right _ (List.mem_of_getElem? (i := 439) (by decide +kernel))
theorem tl_478 : Cond.stringRef RX8 287 "there is no such task or resource" ∈ lw_tbl := List.mem_append_right _ (List.mem_of_getElem? (i := 478) (by decide +kernel))
theorem tl_510 : Cond.castable "java/lang/IllegalArgumentException" "java/lang/IllegalArgumentException" ∈ lw_tbl := List.mem_append_right _ (List.mem_of_getElem? (i := 510) (by decide +kernel))
theorem tl_517 : Cond.stringRef RX8 294 "the argument is out of range, or the text has a fault" ∈ lw_tbl := List.mem_append_right _ (List.mem_of_getElem? (i := 517) (by decide +kernel))
theorem tl_558 : Cond.castable "java/lang/IllegalStateException" "java/lang/IllegalStateException" ∈ lw_tbl := List.mem_append_right _ (List.mem_of_getElem? (i := 558) (by decide +kernel))
theorem tl_565 : Cond.stringRef RX8 299 "the state does not allow this call" ∈ lw_tbl := List.mem_append_right _ (List.mem_of_getElem? (i := 565) (by decide +kernel))
theorem tl_580 : Cond.methodLinkNest RX3 24 yX0_init RX8 ∈ lw_tbl := List.mem_append_right _ (List.mem_of_getElem? (i := 580) (by decide +kernel))
theorem tl_587 : Cond.methodLinkNest RX2 29 yX8_inSet RX8 ∈ lw_tbl := List.mem_append_right _ (List.mem_of_getElem? (i := 587) (by decide +kernel))
theorem tl_625 : Cond.methodLinkNest RX0 59 yX8_inSet RX8 ∈ lw_tbl := List.mem_append_right _ (List.mem_of_getElem? (i := 625) (by decide +kernel))
theorem tl_657 : Cond.methodLinkNest RX1 81 yX8_inSet RX8 ∈ lw_tbl := List.mem_append_right _ (List.mem_of_getElem? (i := 657) (by decide +kernel))
abbrev rmJ6_bitCount_0f7a4 : Room := { frames := 1, cells := 0, slots := 0, locals := 20 }
abbrev MJ6_bitCount_0f7a4 : JM := (RJ6, cJ6_bitCount_0f7a4, 1, (some .int), rmJ6_bitCount_0f7a4, "bitCount", none)
abbrev rmX0_has : Room := { frames := 1, cells := 0, slots := 0, locals := 20 }
abbrev MX0_has : JM := (RX0, cX0_has, 2, (some .boolean), rmX0_has, "has", none)
abbrev rmX8_needThingR : Room := { frames := 6, cells := 0, slots := 0, locals := 90 }
abbrev MX8_needThingR : JM := (RX8, cX8_needThing, 1, none, rmX8_needThingR, "needThing", some [])
abbrev rmX8_needThingT : Room := { frames := 6, cells := 1, slots := 6, locals := 90 }
abbrev MX8_needThingT : JM := (RX8, cX8_needThing, 1, none, rmX8_needThingT, "needThing", some [])
abbrev rmX0_isIn : Room := { frames := 1, cells := 0, slots := 0, locals := 20 }
abbrev MX0_isIn : JM := (RX0, cX0_isIn, 3, (some .boolean), rmX0_isIn, "isIn", none)
abbrev rmX8_needStateR : Room := { frames := 6, cells := 0, slots := 0, locals := 90 }
abbrev MX8_needStateR : JM := (RX8, cX8_needState, 1, none, rmX8_needStateR, "needState", some [])
abbrev rmX8_needStateT : Room := { frames := 6, cells := 1, slots := 6, locals := 90 }
abbrev MX8_needStateT : JM := (RX8, cX8_needState, 1, none, rmX8_needStateT, "needState", some [])
abbrev rmX3_dropOldest : Room := { frames := 1, cells := 0, slots := 0, locals := 20 }
abbrev MX3_dropOldest : JM := (RX3, cX3_dropOldest, 3, none, rmX3_dropOldest, "dropOldest", none)
abbrev rmX2_init : Room := { frames := 1, cells := 3, slots := 48, locals := 20 }
abbrev MX2_init : JM := (RX2, cX2_init, 1, none, rmX2_init, "<init>", none)
abbrev rmX4_init : Room := { frames := 1, cells := 4, slots := 160, locals := 20 }
abbrev MX4_init : JM := (RX4, cX4_init, 1, none, rmX4_init, "<init>", none)
abbrev rmX0_init : Room := { frames := 2, cells := 15, slots := 278, locals := 40 }
abbrev MX0_init : JM := (RX0, cX0_init, 1, none, rmX0_init, "<init>", none)
abbrev rmX2_copyFrom : Room := { frames := 1, cells := 0, slots := 0, locals := 60 }
abbrev MX2_copyFrom : JM := (RX2, cX2_copyFrom, 2, none, rmX2_copyFrom, "copyFrom", none)
abbrev rmX4_copyFrom : Room := { frames := 1, cells := 0, slots := 0, locals := 60 }
abbrev MX4_copyFrom : JM := (RX4, cX4_copyFrom, 2, none, rmX4_copyFrom, "copyFrom", none)
abbrev rmX0_copyFrom : Room := { frames := 2, cells := 0, slots := 0, locals := 81 }
abbrev MX0_copyFrom : JM := (RX0, cX0_copyFrom, 2, none, rmX0_copyFrom, "copyFrom", none)
abbrev rmX3_keep : Room := { frames := 3, cells := 16, slots := 292, locals := 102 }
abbrev MX3_keep : JM := (RX3, cX3_keep, 3, none, rmX3_keep, "keep", none)
abbrev rmX0_heldBy : Room := { frames := 2, cells := 0, slots := 0, locals := 41 }
abbrev MX0_heldBy : JM := (RX0, cX0_heldBy, 2, (some .int), rmX0_heldBy, "heldBy", none)
abbrev rmX8_inSet : Room := { frames := 1, cells := 0, slots := 0, locals := 20 }
abbrev MX8_inSet : JM := (RX8, cX8_inSet, 2, (some .boolean), rmX8_inSet, "inSet", none)
abbrev rmX0_leaveOrder : Room := { frames := 1, cells := 0, slots := 0, locals := 20 }
abbrev MX0_leaveOrder : JM := (RX0, cX0_leaveOrder, 4, none, rmX0_leaveOrder, "leaveOrder", none)
abbrev rmX0_strike : Room := { frames := 2, cells := 0, slots := 0, locals := 43 }
abbrev MX0_strike : JM := (RX0, cX0_strike, 2, none, rmX0_strike, "strike", none)
abbrev rmX6_add : Room := { frames := 1, cells := 0, slots := 0, locals := 20 }
abbrev MX6_add : JM := (RX6, cX6_add, 3, none, rmX6_add, "add", none)
abbrev rmX1_strikeAll : Room := { frames := 3, cells := 0, slots := 0, locals := 64 }
abbrev MX1_strikeAll : JM := (RX1, cX1_strikeAll, 3, none, rmX1_strikeAll, "strikeAll", none)
abbrev rmX0_holdersInWay : Room := { frames := 1, cells := 0, slots := 0, locals := 20 }
abbrev MX0_holdersInWay : JM := (RX0, cX0_holdersInWay, 6, (some .int), rmX0_holdersInWay, "holdersInWay", none)
abbrev rmX2_has : Room := { frames := 1, cells := 0, slots := 0, locals := 20 }
abbrev MX2_has : JM := (RX2, cX2_has, 2, (some .boolean), rmX2_has, "has", none)
abbrev rmX0_grant : Room := { frames := 2, cells := 0, slots := 0, locals := 41 }
abbrev MX0_grant : JM := (RX0, cX0_grant, 3, none, rmX0_grant, "grant", none)
abbrev rmX0_settle : Room := { frames := 3, cells := 0, slots := 0, locals := 63 }
abbrev MX0_settle : JM := (RX0, cX0_settle, 6, (some .int), rmX0_settle, "settle", none)
abbrev rmX1_kill : Room := { frames := 4, cells := 0, slots := 0, locals := 88 }
abbrev MX1_kill : JM := (RX1, cX1_kill, 3, (some .int), rmX1_kill, "kill", none)
abbrev rmX8_abortR : Room := { frames := 7, cells := 16, slots := 292, locals := 124 }
abbrev MX8_abortR : JM := (RX8, cX8_abort, 2, (some .int), rmX8_abortR, "abort", some [])
abbrev rmX8_abortT : Room := { frames := 7, cells := 16, slots := 292, locals := 124 }
abbrev MX8_abortT : JM := (RX8, cX8_abort, 2, (some .int), rmX8_abortT, "abort", some [])
abbrev rmL_abort : Room := { frames := 8, cells := 16, slots := 292, locals := 145 }
abbrev ML_abort : JM := (RL, cL_abort, 4, (some .int), rmL_abort, "abort", some [(⟨0, 9, 12, 13⟩ : ExceptionTableEntry), (⟨0, 9, 15, 15⟩ : ExceptionTableEntry)])
abbrev rmX2_grow : Room := { frames := 2, cells := 0, slots := 0, locals := 41 }
abbrev MX2_grow : JM := (RX2, cX2_grow, 4, (some .int), rmX2_grow, "grow", none)
abbrev rmX8_addResourceR : Room := { frames := 7, cells := 16, slots := 292, locals := 124 }
abbrev MX8_addResourceR : JM := (RX8, cX8_addResource, 2, (some .int), rmX8_addResourceR, "addResource", some [])
abbrev rmX8_addResourceT : Room := { frames := 7, cells := 16, slots := 292, locals := 124 }
abbrev MX8_addResourceT : JM := (RX8, cX8_addResource, 2, (some .int), rmX8_addResourceT, "addResource", some [])
abbrev rmL_addResource : Room := { frames := 8, cells := 16, slots := 292, locals := 145 }
abbrev ML_addResource : JM := (RL, cL_addResource, 4, (some .int), rmL_addResource, "addResource", some [(⟨0, 9, 12, 13⟩ : ExceptionTableEntry), (⟨0, 9, 15, 15⟩ : ExceptionTableEntry)])
abbrev rmX8_isWithin : Room := { frames := 1, cells := 0, slots := 0, locals := 20 }
abbrev MX8_isWithin : JM := (RX8, cX8_isWithin, 3, (some .boolean), rmX8_isWithin, "isWithin", none)
abbrev rmX8_needValueR : Room := { frames := 6, cells := 0, slots := 0, locals := 90 }
abbrev MX8_needValueR : JM := (RX8, cX8_needValue, 1, none, rmX8_needValueR, "needValue", some [])
abbrev rmX8_needValueT : Room := { frames := 6, cells := 1, slots := 6, locals := 90 }
abbrev MX8_needValueT : JM := (RX8, cX8_needValue, 1, none, rmX8_needValueT, "needValue", some [])
abbrev rmX0_freeNumber : Room := { frames := 2, cells := 0, slots := 0, locals := 41 }
abbrev MX0_freeNumber : JM := (RX0, cX0_freeNumber, 2, (some .int), rmX0_freeNumber, "freeNumber", none)
abbrev rmX0_enroll : Room := { frames := 3, cells := 0, slots := 0, locals := 62 }
abbrev MX0_enroll : JM := (RX0, cX0_enroll, 3, (some .int), rmX0_enroll, "enroll", none)
abbrev rmX8_createR : Room := { frames := 7, cells := 16, slots := 292, locals := 124 }
abbrev MX8_createR : JM := (RX8, cX8_create, 2, (some .int), rmX8_createR, "create", some [])
abbrev rmX8_createT : Room := { frames := 7, cells := 16, slots := 292, locals := 124 }
abbrev MX8_createT : JM := (RX8, cX8_create, 2, (some .int), rmX8_createT, "create", some [])
abbrev rmL_create : Room := { frames := 8, cells := 16, slots := 292, locals := 145 }
abbrev ML_create : JM := (RL, cL_create, 4, (some .int), rmL_create, "create", some [(⟨0, 9, 12, 21⟩ : ExceptionTableEntry), (⟨0, 9, 15, 15⟩ : ExceptionTableEntry)])
abbrev rmX0_waitsFor : Room := { frames := 2, cells := 0, slots := 0, locals := 45 }
abbrev MX0_waitsFor : JM := (RX0, cX0_waitsFor, 2, (some .int), rmX0_waitsFor, "waitsFor", none)
abbrev rmX7_read : Room := { frames := 3, cells := 0, slots := 0, locals := 66 }
abbrev MX7_read : JM := (RX7, cX7_read, 4, none, rmX7_read, "read", none)
abbrev rmX4_rowOf : Room := { frames := 1, cells := 0, slots := 0, locals := 20 }
abbrev MX4_rowOf : JM := (RX4, cX4_rowOf, 2, (some .int), rmX4_rowOf, "rowOf", none)
abbrev rmX4_dropFirst : Room := { frames := 2, cells := 0, slots := 0, locals := 41 }
abbrev MX4_dropFirst : JM := (RX4, cX4_dropFirst, 1, none, rmX4_dropFirst, "dropFirst", none)
abbrev rmX4_taskAt : Room := { frames := 1, cells := 0, slots := 0, locals := 20 }
abbrev MX4_taskAt : JM := (RX4, cX4_taskAt, 3, (some .int), rmX4_taskAt, "taskAt", none)
abbrev rmX4_members : Room := { frames := 2, cells := 0, slots := 0, locals := 42 }
abbrev MX4_members : JM := (RX4, cX4_members, 5, (some .int), rmX4_members, "members", none)
abbrev rmX7_of : Room := { frames := 1, cells := 0, slots := 0, locals := 20 }
abbrev MX7_of : JM := (RX7, cX7_of, 2, (some .int), rmX7_of, "of", none)
abbrev rmX7_follow : Room := { frames := 2, cells := 0, slots := 0, locals := 42 }
abbrev MX7_follow : JM := (RX7, cX7_follow, 7, (some .boolean), rmX7_follow, "follow", none)
abbrev rmX1_isRatherVictim : Room := { frames := 2, cells := 0, slots := 0, locals := 41 }
abbrev MX1_isRatherVictim : JM := (RX1, cX1_isRatherVictim, 4, (some .boolean), rmX1_isRatherVictim, "isRatherVictim", none)
abbrev rmX1_victimOf : Room := { frames := 3, cells := 0, slots := 0, locals := 64 }
abbrev MX1_victimOf : JM := (RX1, cX1_victimOf, 4, (some .int), rmX1_victimOf, "victimOf", none)
abbrev rmX6_noteDeadlock : Room := { frames := 2, cells := 0, slots := 0, locals := 42 }
abbrev MX6_noteDeadlock : JM := (RX6, cX6_noteDeadlock, 4, none, rmX6_noteDeadlock, "noteDeadlock", none)
abbrev rmX1_breakDeadlock : Room := { frames := 4, cells := 0, slots := 0, locals := 89 }
abbrev MX1_breakDeadlock : JM := (RX1, cX1_breakDeadlock, 4, none, rmX1_breakDeadlock, "breakDeadlock", none)
abbrev rmX4_extended : Room := { frames := 1, cells := 0, slots := 0, locals := 20 }
abbrev MX4_extended : JM := (RX4, cX4_extended, 4, (some .long), rmX4_extended, "extended", none)
abbrev rmX4_send : Room := { frames := 2, cells := 0, slots := 0, locals := 41 }
abbrev MX4_send : JM := (RX4, cX4_send, 7, (some .boolean), rmX4_send, "send", none)
abbrev rmX1_sendToAll : Room := { frames := 3, cells := 0, slots := 0, locals := 67 }
abbrev MX1_sendToAll : JM := (RX1, cX1_sendToAll, 7, none, rmX1_sendToAll, "sendToAll", none)
abbrev rmX1_deliverFirst : Room := { frames := 5, cells := 0, slots := 0, locals := 112 }
abbrev MX1_deliverFirst : JM := (RX1, cX1_deliverFirst, 9, none, rmX1_deliverFirst, "deliverFirst", none)
abbrev rmX1_deliverUpTo : Room := { frames := 6, cells := 0, slots := 0, locals := 140 }
abbrev MX1_deliverUpTo : JM := (RX1, cX1_deliverUpTo, 3, (some .int), rmX1_deliverUpTo, "deliverUpTo", none)
abbrev rmX8_deliverR : Room := { frames := 7, cells := 16, slots := 292, locals := 162 }
abbrev MX8_deliverR : JM := (RX8, cX8_deliver, 2, (some .int), rmX8_deliverR, "deliver", some [])
abbrev rmX8_deliverT : Room := { frames := 7, cells := 16, slots := 292, locals := 162 }
abbrev MX8_deliverT : JM := (RX8, cX8_deliver, 2, (some .int), rmX8_deliverT, "deliver", some [])
abbrev rmL_deliver : Room := { frames := 8, cells := 16, slots := 292, locals := 183 }
abbrev ML_deliver : JM := (RL, cL_deliver, 4, (some .int), rmL_deliver, "deliver", some [(⟨0, 9, 12, 21⟩ : ExceptionTableEntry)])
abbrev rmX0_dismiss : Room := { frames := 2, cells := 0, slots := 0, locals := 41 }
abbrev MX0_dismiss : JM := (RX0, cX0_dismiss, 2, none, rmX0_dismiss, "dismiss", none)
abbrev rmX1_end : Room := { frames := 4, cells := 0, slots := 0, locals := 88 }
abbrev MX1_end : JM := (RX1, cX1_end, 3, (some .int), rmX1_end, "end", none)
abbrev rmX8_finishR : Room := { frames := 7, cells := 16, slots := 292, locals := 124 }
abbrev MX8_finishR : JM := (RX8, cX8_finish, 2, (some .int), rmX8_finishR, "finish", some [])
abbrev rmX8_finishT : Room := { frames := 7, cells := 16, slots := 292, locals := 124 }
abbrev MX8_finishT : JM := (RX8, cX8_finish, 2, (some .int), rmX8_finishT, "finish", some [])
abbrev rmL_finish : Room := { frames := 8, cells := 16, slots := 292, locals := 145 }
abbrev ML_finish : JM := (RL, cL_finish, 4, (some .int), rmL_finish, "finish", some [(⟨0, 9, 12, 13⟩ : ExceptionTableEntry), (⟨0, 9, 15, 15⟩ : ExceptionTableEntry)])
abbrev rmX8_latestR : Room := { frames := 7, cells := 0, slots := 0, locals := 110 }
abbrev MX8_latestR : JM := (RX8, cX8_latest, 2, (some .int), rmX8_latestR, "latest", some [])
abbrev rmX8_latestT : Room := { frames := 7, cells := 1, slots := 6, locals := 110 }
abbrev MX8_latestT : JM := (RX8, cX8_latest, 2, (some .int), rmX8_latestT, "latest", some [])
abbrev rmL_latest : Room := { frames := 8, cells := 1, slots := 6, locals := 131 }
abbrev ML_latest : JM := (RL, cL_latest, 4, (some .int), rmL_latest, "latest", some [(⟨0, 9, 12, 21⟩ : ExceptionTableEntry)])
abbrev rmX6_init : Room := { frames := 1, cells := 1, slots := 8, locals := 20 }
abbrev MX6_init : JM := (RX6, cX6_init, 1, none, rmX6_init, "<init>", none)
abbrev rmX7_init : Room := { frames := 1, cells := 2, slots := 20, locals := 20 }
abbrev MX7_init : JM := (RX7, cX7_init, 1, none, rmX7_init, "<init>", none)
abbrev rmX1_init : Room := { frames := 1, cells := 0, slots := 0, locals := 20 }
abbrev MX1_init : JM := (RX1, cX1_init, 4, none, rmX1_init, "<init>", none)
abbrev rmX3_init : Room := { frames := 1, cells := 1, slots := 5, locals := 20 }
abbrev MX3_init : JM := (RX3, cX3_init, 1, none, rmX3_init, "<init>", none)
abbrev rmX5_init : Room := { frames := 1, cells := 1, slots := 120, locals := 20 }
abbrev MX5_init : JM := (RX5, cX5_init, 1, none, rmX5_init, "<init>", none)
abbrev rmX8_init : Room := { frames := 3, cells := 42, slots := 752, locals := 60 }
abbrev MX8_init : JM := (RX8, cX8_init, 1, none, rmX8_init, "<init>", none)
abbrev rmX9_init : Room := { frames := 1, cells := 9, slots := 14689, locals := 20 }
abbrev MX9_init : JM := (RX9, cX9_init, 1, none, rmX9_init, "<init>", none)
abbrev rmX9_in : Room := { frames := 1, cells := 0, slots := 0, locals := 20 }
abbrev MX9_in : JM := (RX9, cX9_in, 3, (some .boolean), rmX9_in, "in", none)
abbrev rmX9_isResource : Room := { frames := 2, cells := 0, slots := 0, locals := 42 }
abbrev MX9_isResource : JM := (RX9, cX9_isResource, 2, (some .boolean), rmX9_isResource, "isResource", none)
abbrev rmX9_begins : Room := { frames := 1, cells := 0, slots := 0, locals := 20 }
abbrev MX9_begins : JM := (RX9, cX9_begins, 2, none, rmX9_begins, "begins", none)
abbrev rmX9_records : Room := { frames := 1, cells := 0, slots := 0, locals := 20 }
abbrev MX9_records : JM := (RX9, cX9_records, 2, none, rmX9_records, "records", none)
abbrev rmX9_addResource : Room := { frames := 3, cells := 0, slots := 0, locals := 63 }
abbrev MX9_addResource : JM := (RX9, cX9_addResource, 2, (some .int), rmX9_addResource, "addResource", none)
abbrev rmX9_thrown : Room := { frames := 1, cells := 0, slots := 0, locals := 20 }
abbrev MX9_thrown : JM := (RX9, cX9_thrown, 1, (some .int), rmX9_thrown, "thrown", none)
abbrev rmX8_resources : Room := { frames := 1, cells := 0, slots := 0, locals := 20 }
abbrev MX8_resources : JM := (RX8, cX8_resources, 1, (some .int), rmX8_resources, "resources", none)
abbrev rmX9_resources : Room := { frames := 1, cells := 0, slots := 0, locals := 20 }
abbrev MX9_resources : JM := (RX9, cX9_resources, 1, (some .int), rmX9_resources, "resources", none)
abbrev rmX0_covers : Room := { frames := 2, cells := 0, slots := 0, locals := 41 }
abbrev MX0_covers : JM := (RX0, cX0_covers, 3, (some .boolean), rmX0_covers, "covers", none)
abbrev rmX0_ownerOf : Room := { frames := 3, cells := 0, slots := 0, locals := 63 }
abbrev MX0_ownerOf : JM := (RX0, cX0_ownerOf, 3, (some .int), rmX0_ownerOf, "ownerOf", none)
abbrev rmX8_resourceR : Room := { frames := 7, cells := 0, slots := 0, locals := 110 }
abbrev MX8_resourceR : JM := (RX8, cX8_resource, 3, (some .int), rmX8_resourceR, "resource", some [])
abbrev rmX8_resourceT : Room := { frames := 7, cells := 1, slots := 6, locals := 110 }
abbrev MX8_resourceT : JM := (RX8, cX8_resource, 3, (some .int), rmX8_resourceT, "resource", some [])
abbrev rmL_resource : Room := { frames := 8, cells := 1, slots := 6, locals := 132 }
abbrev ML_resource : JM := (RL, cL_resource, 5, (some .int), rmL_resource, "resource", some [(⟨0, 10, 13, 13⟩ : ExceptionTableEntry), (⟨0, 10, 17, 21⟩ : ExceptionTableEntry)])
abbrev rmX9_isBelow : Room := { frames := 1, cells := 0, slots := 0, locals := 20 }
abbrev MX9_isBelow : JM := (RX9, cX9_isBelow, 4, (some .boolean), rmX9_isBelow, "isBelow", none)
abbrev rmX9_of : Room := { frames := 1, cells := 0, slots := 0, locals := 20 }
abbrev MX9_of : JM := (RX9, cX9_of, 3, (some .int), rmX9_of, "of", none)
abbrev rmX9_isTask : Room := { frames := 2, cells := 0, slots := 0, locals := 42 }
abbrev MX9_isTask : JM := (RX9, cX9_isTask, 2, (some .boolean), rmX9_isTask, "isTask", none)
abbrev rmX9_overlaps : Room := { frames := 2, cells := 0, slots := 0, locals := 43 }
abbrev MX9_overlaps : JM := (RX9, cX9_overlaps, 3, (some .boolean), rmX9_overlaps, "overlaps", none)
abbrev rmX9_resource : Room := { frames := 3, cells := 0, slots := 0, locals := 65 }
abbrev MX9_resource : JM := (RX9, cX9_resource, 10, (some .int), rmX9_resource, "resource", none)
abbrev rmX8_overlapR : Room := { frames := 7, cells := 0, slots := 0, locals := 110 }
abbrev MX8_overlapR : JM := (RX8, cX8_overlap, 3, (some .boolean), rmX8_overlapR, "overlap", some [])
abbrev rmX8_overlapT : Room := { frames := 7, cells := 1, slots := 6, locals := 110 }
abbrev MX8_overlapT : JM := (RX8, cX8_overlap, 3, (some .boolean), rmX8_overlapT, "overlap", some [])
abbrev rmL_overlap : Room := { frames := 8, cells := 1, slots := 6, locals := 132 }
abbrev ML_overlap : JM := (RL, cL_overlap, 5, (some .int), rmL_overlap, "overlap", some [(⟨0, 17, 20, 13⟩ : ExceptionTableEntry)])
abbrev rmX9_overlap : Room := { frames := 3, cells := 0, slots := 0, locals := 65 }
abbrev MX9_overlap : JM := (RX9, cX9_overlap, 3, (some .boolean), rmX9_overlap, "overlap", none)
abbrev rmX9_puts : Room := { frames := 1, cells := 0, slots := 0, locals := 20 }
abbrev MX9_puts : JM := (RX9, cX9_puts, 4, none, rmX9_puts, "puts", none)
abbrev rmX9_create : Room := { frames := 3, cells := 0, slots := 0, locals := 63 }
abbrev MX9_create : JM := (RX9, cX9_create, 3, (some .int), rmX9_create, "create", none)
abbrev rmX0_youngerThan : Room := { frames := 2, cells := 0, slots := 0, locals := 41 }
abbrev MX0_youngerThan : JM := (RX0, cX0_youngerThan, 5, (some .int), rmX0_youngerThan, "youngerThan", none)
abbrev rmX1_outcomeOf : Room := { frames := 3, cells := 0, slots := 0, locals := 65 }
abbrev MX1_outcomeOf : JM := (RX1, cX1_outcomeOf, 5, (some .int), rmX1_outcomeOf, "outcomeOf", none)
abbrev rmX0_queueUp : Room := { frames := 2, cells := 0, slots := 0, locals := 41 }
abbrev MX0_queueUp : JM := (RX0, cX0_queueUp, 3, none, rmX0_queueUp, "queueUp", none)
abbrev rmX1_ask : Room := { frames := 4, cells := 0, slots := 0, locals := 89 }
abbrev MX1_ask : JM := (RX1, cX1_ask, 4, (some .int), rmX1_ask, "ask", none)
abbrev rmX8_requestR : Room := { frames := 7, cells := 16, slots := 292, locals := 124 }
abbrev MX8_requestR : JM := (RX8, cX8_request, 3, (some .int), rmX8_requestR, "request", some [])
abbrev rmX8_requestT : Room := { frames := 7, cells := 16, slots := 292, locals := 124 }
abbrev MX8_requestT : JM := (RX8, cX8_request, 3, (some .int), rmX8_requestT, "request", some [])
abbrev rmL_request : Room := { frames := 8, cells := 16, slots := 292, locals := 146 }
abbrev ML_request : JM := (RL, cL_request, 5, (some .int), rmL_request, "request", some [(⟨0, 10, 13, 13⟩ : ExceptionTableEntry), (⟨0, 10, 17, 15⟩ : ExceptionTableEntry)])
abbrev rmX9_isRunning : Room := { frames := 3, cells := 0, slots := 0, locals := 63 }
abbrev MX9_isRunning : JM := (RX9, cX9_isRunning, 2, (some .boolean), rmX9_isRunning, "isRunning", none)
abbrev rmX9_requestFault : Room := { frames := 4, cells := 0, slots := 0, locals := 84 }
abbrev MX9_requestFault : JM := (RX9, cX9_requestFault, 3, (some .int), rmX9_requestFault, "requestFault", none)
abbrev rmX9_isOver : Room := { frames := 2, cells := 0, slots := 0, locals := 43 }
abbrev MX9_isOver : JM := (RX9, cX9_isOver, 5, (some .boolean), rmX9_isOver, "isOver", none)
abbrev rmX9_inTheWay : Room := { frames := 3, cells := 0, slots := 0, locals := 65 }
abbrev MX9_inTheWay : JM := (RX9, cX9_inTheWay, 6, (some .int), rmX9_inTheWay, "inTheWay", none)
abbrev rmX9_younger : Room := { frames := 2, cells := 0, slots := 0, locals := 42 }
abbrev MX9_younger : JM := (RX9, cX9_younger, 5, (some .int), rmX9_younger, "younger", none)
abbrev rmX9_happens : Room := { frames := 4, cells := 0, slots := 0, locals := 90 }
abbrev MX9_happens : JM := (RX9, cX9_happens, 5, (some .int), rmX9_happens, "happens", none)
abbrev rmX9_placeOf : Room := { frames := 1, cells := 0, slots := 0, locals := 20 }
abbrev MX9_placeOf : JM := (RX9, cX9_placeOf, 4, (some .int), rmX9_placeOf, "placeOf", none)
abbrev rmX9_leaves : Room := { frames := 2, cells := 0, slots := 0, locals := 43 }
abbrev MX9_leaves : JM := (RX9, cX9_leaves, 4, none, rmX9_leaves, "leaves", none)
abbrev rmX9_ends : Room := { frames := 3, cells := 0, slots := 0, locals := 66 }
abbrev MX9_ends : JM := (RX9, cX9_ends, 2, none, rmX9_ends, "ends", none)
abbrev rmX9_waits : Room := { frames := 2, cells := 0, slots := 0, locals := 43 }
abbrev MX9_waits : JM := (RX9, cX9_waits, 3, none, rmX9_waits, "waits", none)
abbrev rmX9_grants : Room := { frames := 2, cells := 0, slots := 0, locals := 43 }
abbrev MX9_grants : JM := (RX9, cX9_grants, 3, none, rmX9_grants, "grants", none)
abbrev rmX9_isWaiting : Room := { frames := 3, cells := 0, slots := 0, locals := 63 }
abbrev MX9_isWaiting : JM := (RX9, cX9_isWaiting, 2, (some .boolean), rmX9_isWaiting, "isWaiting", none)
abbrev rmX9_waitsFor : Room := { frames := 4, cells := 0, slots := 0, locals := 90 }
abbrev MX9_waitsFor : JM := (RX9, cX9_waitsFor, 2, (some .int), rmX9_waitsFor, "waitsFor", none)
abbrev rmX9_settles : Room := { frames := 5, cells := 0, slots := 0, locals := 111 }
abbrev MX9_settles : JM := (RX9, cX9_settles, 4, none, rmX9_settles, "settles", none)
abbrev rmX9_asks : Room := { frames := 6, cells := 0, slots := 0, locals := 134 }
abbrev MX9_asks : JM := (RX9, cX9_asks, 7, none, rmX9_asks, "asks", none)
abbrev rmX9_request : Room := { frames := 7, cells := 0, slots := 0, locals := 160 }
abbrev MX9_request : JM := (RX9, cX9_request, 3, (some .int), rmX9_request, "request", none)
abbrev rmX0_holds : Room := { frames := 2, cells := 0, slots := 0, locals := 41 }
abbrev MX0_holds : JM := (RX0, cX0_holds, 3, (some .boolean), rmX0_holds, "holds", none)
abbrev rmX0_letGo : Room := { frames := 3, cells := 0, slots := 0, locals := 63 }
abbrev MX0_letGo : JM := (RX0, cX0_letGo, 3, none, rmX0_letGo, "letGo", none)
abbrev rmX1_giveBack : Room := { frames := 4, cells := 0, slots := 0, locals := 88 }
abbrev MX1_giveBack : JM := (RX1, cX1_giveBack, 3, (some .int), rmX1_giveBack, "giveBack", none)
abbrev rmX8_releaseR : Room := { frames := 7, cells := 16, slots := 292, locals := 124 }
abbrev MX8_releaseR : JM := (RX8, cX8_release, 3, (some .int), rmX8_releaseR, "release", some [])
abbrev rmX8_releaseT : Room := { frames := 7, cells := 16, slots := 292, locals := 124 }
abbrev MX8_releaseT : JM := (RX8, cX8_release, 3, (some .int), rmX8_releaseT, "release", some [])
abbrev rmL_release : Room := { frames := 8, cells := 16, slots := 292, locals := 146 }
abbrev ML_release : JM := (RL, cL_release, 5, (some .int), rmL_release, "release", some [(⟨0, 10, 13, 13⟩ : ExceptionTableEntry), (⟨0, 10, 17, 15⟩ : ExceptionTableEntry)])
abbrev rmX9_releaseFault : Room := { frames := 3, cells := 0, slots := 0, locals := 63 }
abbrev MX9_releaseFault : JM := (RX9, cX9_releaseFault, 3, (some .int), rmX9_releaseFault, "releaseFault", none)
abbrev rmX9_lets : Room := { frames := 6, cells := 0, slots := 0, locals := 134 }
abbrev MX9_lets : JM := (RX9, cX9_lets, 3, none, rmX9_lets, "lets", none)
abbrev rmX9_bits : Room := { frames := 1, cells := 0, slots := 0, locals := 20 }
abbrev MX9_bits : JM := (RX9, cX9_bits, 3, (some .int), rmX9_bits, "bits", none)
abbrev rmX9_release : Room := { frames := 7, cells := 0, slots := 0, locals := 156 }
abbrev MX9_release : JM := (RX9, cX9_release, 3, (some .int), rmX9_release, "release", none)
abbrev rmX9_finishFault : Room := { frames := 4, cells := 0, slots := 0, locals := 84 }
abbrev MX9_finishFault : JM := (RX9, cX9_finishFault, 2, (some .int), rmX9_finishFault, "finishFault", none)
abbrev rmX9_finishes : Room := { frames := 6, cells := 0, slots := 0, locals := 134 }
abbrev MX9_finishes : JM := (RX9, cX9_finishes, 2, none, rmX9_finishes, "finishes", none)
abbrev rmX9_finish : Room := { frames := 7, cells := 0, slots := 0, locals := 155 }
abbrev MX9_finish : JM := (RX9, cX9_finish, 3, (some .int), rmX9_finish, "finish", none)
abbrev rmX9_abortFault : Room := { frames := 3, cells := 0, slots := 0, locals := 63 }
abbrev MX9_abortFault : JM := (RX9, cX9_abortFault, 2, (some .int), rmX9_abortFault, "abortFault", none)
abbrev rmX9_aborts : Room := { frames := 6, cells := 0, slots := 0, locals := 134 }
abbrev MX9_aborts : JM := (RX9, cX9_aborts, 2, none, rmX9_aborts, "aborts", none)
abbrev rmX9_abort : Room := { frames := 7, cells := 0, slots := 0, locals := 155 }
abbrev MX9_abort : JM := (RX9, cX9_abort, 3, (some .int), rmX9_abort, "abort", none)
abbrev rmX0_revive : Room := { frames := 2, cells := 0, slots := 0, locals := 41 }
abbrev MX0_revive : JM := (RX0, cX0_revive, 2, (some .int), rmX0_revive, "revive", none)
abbrev rmX8_restartR : Room := { frames := 7, cells := 16, slots := 292, locals := 124 }
abbrev MX8_restartR : JM := (RX8, cX8_restart, 2, (some .int), rmX8_restartR, "restart", some [])
abbrev rmX8_restartT : Room := { frames := 7, cells := 16, slots := 292, locals := 124 }
abbrev MX8_restartT : JM := (RX8, cX8_restart, 2, (some .int), rmX8_restartT, "restart", some [])
abbrev rmL_restart : Room := { frames := 8, cells := 16, slots := 292, locals := 145 }
abbrev ML_restart : JM := (RL, cL_restart, 4, (some .int), rmL_restart, "restart", some [(⟨0, 9, 12, 13⟩ : ExceptionTableEntry), (⟨0, 9, 15, 15⟩ : ExceptionTableEntry)])
abbrev rmX9_restartFault : Room := { frames := 3, cells := 0, slots := 0, locals := 63 }
abbrev MX9_restartFault : JM := (RX9, cX9_restartFault, 2, (some .int), rmX9_restartFault, "restartFault", none)
abbrev rmX9_restart : Room := { frames := 4, cells := 0, slots := 0, locals := 84 }
abbrev MX9_restart : JM := (RX9, cX9_restart, 2, (some .int), rmX9_restart, "restart", none)
abbrev rmX8_tasks : Room := { frames := 1, cells := 0, slots := 0, locals := 20 }
abbrev MX8_tasks : JM := (RX8, cX8_tasks, 1, (some .int), rmX8_tasks, "tasks", none)
abbrev rmX9_all : Room := { frames := 3, cells := 0, slots := 0, locals := 63 }
abbrev MX9_all : JM := (RX9, cX9_all, 3, (some .int), rmX9_all, "all", none)
abbrev rmX9_tasks : Room := { frames := 4, cells := 0, slots := 0, locals := 85 }
abbrev MX9_tasks : JM := (RX9, cX9_tasks, 1, (some .int), rmX9_tasks, "tasks", none)
abbrev rmX0_positionOf : Room := { frames := 1, cells := 0, slots := 0, locals := 20 }
abbrev MX0_positionOf : JM := (RX0, cX0_positionOf, 3, (some .int), rmX0_positionOf, "positionOf", none)
abbrev rmX8_taskR : Room := { frames := 7, cells := 0, slots := 0, locals := 110 }
abbrev MX8_taskR : JM := (RX8, cX8_task, 3, (some .int), rmX8_taskR, "task", some [])
abbrev rmX8_taskT : Room := { frames := 7, cells := 1, slots := 6, locals := 110 }
abbrev MX8_taskT : JM := (RX8, cX8_task, 3, (some .int), rmX8_taskT, "task", some [])
abbrev rmL_task : Room := { frames := 8, cells := 1, slots := 6, locals := 132 }
abbrev ML_task : JM := (RL, cL_task, 5, (some .int), rmL_task, "task", some [(⟨0, 10, 13, 13⟩ : ExceptionTableEntry), (⟨0, 10, 17, 21⟩ : ExceptionTableEntry)])
abbrev rmX9_part : Room := { frames := 5, cells := 0, slots := 0, locals := 111 }
abbrev MX9_part : JM := (RX9, cX9_part, 3, (some .int), rmX9_part, "part", none)
abbrev rmX9_task : Room := { frames := 6, cells := 0, slots := 0, locals := 133 }
abbrev MX9_task : JM := (RX9, cX9_task, 3, (some .int), rmX9_task, "task", none)
abbrev rmX8_waiting : Room := { frames := 2, cells := 0, slots := 0, locals := 42 }
abbrev MX8_waiting : JM := (RX8, cX8_waiting, 2, (some .int), rmX8_waiting, "waiting", none)
abbrev rmX9_waiting : Room := { frames := 2, cells := 0, slots := 0, locals := 42 }
abbrev MX9_waiting : JM := (RX9, cX9_waiting, 2, (some .int), rmX9_waiting, "waiting", none)
abbrev rmX8_wouldHappenR : Room := { frames := 7, cells := 0, slots := 0, locals := 110 }
abbrev MX8_wouldHappenR : JM := (RX8, cX8_wouldHappen, 3, (some .int), rmX8_wouldHappenR, "wouldHappen", some [])
abbrev rmX8_wouldHappenT : Room := { frames := 7, cells := 1, slots := 6, locals := 110 }
abbrev MX8_wouldHappenT : JM := (RX8, cX8_wouldHappen, 3, (some .int), rmX8_wouldHappenT, "wouldHappen", some [])
abbrev rmL_wouldHappen : Room := { frames := 8, cells := 1, slots := 6, locals := 132 }
abbrev ML_wouldHappen : JM := (RL, cL_wouldHappen, 5, (some .int), rmL_wouldHappen, "wouldHappen", some [(⟨0, 10, 13, 13⟩ : ExceptionTableEntry), (⟨0, 10, 17, 15⟩ : ExceptionTableEntry)])
abbrev rmX9_wouldHappen : Room := { frames := 5, cells := 0, slots := 0, locals := 114 }
abbrev MX9_wouldHappen : JM := (RX9, cX9_wouldHappen, 3, (some .int), rmX9_wouldHappen, "wouldHappen", none)
abbrev rmX8_setPolicyR : Room := { frames := 7, cells := 16, slots := 292, locals := 124 }
abbrev MX8_setPolicyR : JM := (RX8, cX8_setPolicy, 3, (some .int), rmX8_setPolicyR, "setPolicy", some [])
abbrev rmX8_setPolicyT : Room := { frames := 7, cells := 16, slots := 292, locals := 124 }
abbrev MX8_setPolicyT : JM := (RX8, cX8_setPolicy, 3, (some .int), rmX8_setPolicyT, "setPolicy", some [])
abbrev rmL_setPolicy : Room := { frames := 8, cells := 16, slots := 292, locals := 146 }
abbrev ML_setPolicy : JM := (RL, cL_setPolicy, 4, (some .int), rmL_setPolicy, "setPolicy", some [(⟨0, 9, 12, 21⟩ : ExceptionTableEntry)])
abbrev rmX9_sets : Room := { frames := 2, cells := 0, slots := 0, locals := 41 }
abbrev MX9_sets : JM := (RX9, cX9_sets, 5, (some .int), rmX9_sets, "sets", none)
abbrev rmX9_setPolicy : Room := { frames := 3, cells := 0, slots := 0, locals := 65 }
abbrev MX9_setPolicy : JM := (RX9, cX9_setPolicy, 2, (some .int), rmX9_setPolicy, "setPolicy", none)
abbrev rmX8_setRuleR : Room := { frames := 7, cells := 16, slots := 292, locals := 124 }
abbrev MX8_setRuleR : JM := (RX8, cX8_setRule, 3, (some .int), rmX8_setRuleR, "setRule", some [])
abbrev rmX8_setRuleT : Room := { frames := 7, cells := 16, slots := 292, locals := 124 }
abbrev MX8_setRuleT : JM := (RX8, cX8_setRule, 3, (some .int), rmX8_setRuleT, "setRule", some [])
abbrev rmL_setRule : Room := { frames := 8, cells := 16, slots := 292, locals := 146 }
abbrev ML_setRule : JM := (RL, cL_setRule, 4, (some .int), rmL_setRule, "setRule", some [(⟨0, 9, 12, 21⟩ : ExceptionTableEntry)])
abbrev rmX9_setRule : Room := { frames := 3, cells := 0, slots := 0, locals := 65 }
abbrev MX9_setRule : JM := (RX9, cX9_setRule, 2, (some .int), rmX9_setRule, "setRule", none)
abbrev rmX8_setBudgetR : Room := { frames := 7, cells := 16, slots := 292, locals := 124 }
abbrev MX8_setBudgetR : JM := (RX8, cX8_setBudget, 3, (some .int), rmX8_setBudgetR, "setBudget", some [])
abbrev rmX8_setBudgetT : Room := { frames := 7, cells := 16, slots := 292, locals := 124 }
abbrev MX8_setBudgetT : JM := (RX8, cX8_setBudget, 3, (some .int), rmX8_setBudgetT, "setBudget", some [])
abbrev rmL_setBudget : Room := { frames := 8, cells := 16, slots := 292, locals := 146 }
abbrev ML_setBudget : JM := (RL, cL_setBudget, 4, (some .int), rmL_setBudget, "setBudget", some [(⟨0, 9, 12, 21⟩ : ExceptionTableEntry)])
abbrev rmX9_setBudget : Room := { frames := 3, cells := 0, slots := 0, locals := 65 }
abbrev MX9_setBudget : JM := (RX9, cX9_setBudget, 2, (some .int), rmX9_setBudget, "setBudget", none)
abbrev rmX1_startProbe : Room := { frames := 4, cells := 0, slots := 0, locals := 93 }
abbrev MX1_startProbe : JM := (RX1, cX1_startProbe, 2, (some .int), rmX1_startProbe, "startProbe", none)
abbrev rmX8_probeR : Room := { frames := 7, cells := 16, slots := 292, locals := 124 }
abbrev MX8_probeR : JM := (RX8, cX8_probe, 2, (some .int), rmX8_probeR, "probe", some [])
abbrev rmX8_probeT : Room := { frames := 7, cells := 16, slots := 292, locals := 124 }
abbrev MX8_probeT : JM := (RX8, cX8_probe, 2, (some .int), rmX8_probeT, "probe", some [])
abbrev rmL_probe : Room := { frames := 8, cells := 16, slots := 292, locals := 145 }
abbrev ML_probe : JM := (RL, cL_probe, 4, (some .int), rmL_probe, "probe", some [(⟨0, 9, 12, 13⟩ : ExceptionTableEntry), (⟨0, 9, 15, 15⟩ : ExceptionTableEntry)])
abbrev rmX9_probeFault : Room := { frames := 4, cells := 0, slots := 0, locals := 84 }
abbrev MX9_probeFault : JM := (RX9, cX9_probeFault, 2, (some .int), rmX9_probeFault, "probeFault", none)
abbrev rmX9_sends : Room := { frames := 1, cells := 0, slots := 0, locals := 20 }
abbrev MX9_sends : JM := (RX9, cX9_sends, 5, none, rmX9_sends, "sends", none)
abbrev rmX9_sendsAll : Room := { frames := 5, cells := 0, slots := 0, locals := 111 }
abbrev MX9_sendsAll : JM := (RX9, cX9_sendsAll, 5, none, rmX9_sendsAll, "sendsAll", none)
abbrev rmX9_starts : Room := { frames := 6, cells := 0, slots := 0, locals := 135 }
abbrev MX9_starts : JM := (RX9, cX9_starts, 2, none, rmX9_starts, "starts", none)
abbrev rmX9_probe : Room := { frames := 7, cells := 0, slots := 0, locals := 156 }
abbrev MX9_probe : JM := (RX9, cX9_probe, 2, (some .int), rmX9_probe, "probe", none)
abbrev rmX9_isStale : Room := { frames := 5, cells := 0, slots := 0, locals := 111 }
abbrev MX9_isStale : JM := (RX9, cX9_isStale, 5, (some .boolean), rmX9_isStale, "isStale", none)
abbrev rmX9_isBefore : Room := { frames := 2, cells := 0, slots := 0, locals := 42 }
abbrev MX9_isBefore : JM := (RX9, cX9_isBefore, 5, (some .boolean), rmX9_isBefore, "isBefore", none)
abbrev rmX9_finds : Room := { frames := 7, cells := 0, slots := 0, locals := 155 }
abbrev MX9_finds : JM := (RX9, cX9_finds, 2, none, rmX9_finds, "finds", none)
abbrev rmX9_isOnPath : Room := { frames := 1, cells := 0, slots := 0, locals := 20 }
abbrev MX9_isOnPath : JM := (RX9, cX9_isOnPath, 4, (some .boolean), rmX9_isOnPath, "isOnPath", none)
abbrev rmX9_lays : Room := { frames := 5, cells := 0, slots := 0, locals := 111 }
abbrev MX9_lays : JM := (RX9, cX9_lays, 4, none, rmX9_lays, "lays", none)
abbrev rmX9_cyclic : Room := { frames := 6, cells := 0, slots := 0, locals := 134 }
abbrev MX9_cyclic : JM := (RX9, cX9_cyclic, 4, (some .int), rmX9_cyclic, "cyclic", none)
abbrev rmX9_delivers : Room := { frames := 8, cells := 0, slots := 0, locals := 176 }
abbrev MX9_delivers : JM := (RX9, cX9_delivers, 4, none, rmX9_delivers, "delivers", none)
abbrev rmX9_deliversUpTo : Room := { frames := 9, cells := 0, slots := 0, locals := 199 }
abbrev MX9_deliversUpTo : JM := (RX9, cX9_deliversUpTo, 3, (some .int), rmX9_deliversUpTo, "deliversUpTo", none)
abbrev rmX9_deliver : Room := { frames := 10, cells := 0, slots := 0, locals := 221 }
abbrev MX9_deliver : JM := (RX9, cX9_deliver, 3, (some .int), rmX9_deliver, "deliver", none)
abbrev rmX8_messages : Room := { frames := 1, cells := 0, slots := 0, locals := 20 }
abbrev MX8_messages : JM := (RX8, cX8_messages, 1, (some .int), rmX8_messages, "messages", none)
abbrev rmX9_messages : Room := { frames := 1, cells := 0, slots := 0, locals := 20 }
abbrev MX9_messages : JM := (RX9, cX9_messages, 1, (some .int), rmX9_messages, "messages", none)
abbrev rmX4_property : Room := { frames := 3, cells := 0, slots := 0, locals := 66 }
abbrev MX4_property : JM := (RX4, cX4_property, 4, (some .int), rmX4_property, "property", none)
abbrev rmX8_messageR : Room := { frames := 7, cells := 0, slots := 0, locals := 110 }
abbrev MX8_messageR : JM := (RX8, cX8_message, 3, (some .int), rmX8_messageR, "message", some [])
abbrev rmX8_messageT : Room := { frames := 7, cells := 1, slots := 6, locals := 110 }
abbrev MX8_messageT : JM := (RX8, cX8_message, 3, (some .int), rmX8_messageT, "message", some [])
abbrev rmL_message : Room := { frames := 8, cells := 1, slots := 6, locals := 132 }
abbrev ML_message : JM := (RL, cL_message, 5, (some .int), rmL_message, "message", some [(⟨0, 10, 13, 21⟩ : ExceptionTableEntry)])
abbrev rmX9_mail : Room := { frames := 1, cells := 0, slots := 0, locals := 20 }
abbrev MX9_mail : JM := (RX9, cX9_mail, 6, (some .int), rmX9_mail, "mail", none)
abbrev rmX9_message : Room := { frames := 2, cells := 0, slots := 0, locals := 45 }
abbrev MX9_message : JM := (RX9, cX9_message, 3, (some .int), rmX9_message, "message", none)
abbrev rmX8_toldR : Room := { frames := 7, cells := 0, slots := 0, locals := 110 }
abbrev MX8_toldR : JM := (RX8, cX8_told, 2, (some .int), rmX8_toldR, "told", some [])
abbrev rmX8_toldT : Room := { frames := 7, cells := 1, slots := 6, locals := 110 }
abbrev MX8_toldT : JM := (RX8, cX8_told, 2, (some .int), rmX8_toldT, "told", some [])
abbrev rmL_told : Room := { frames := 8, cells := 1, slots := 6, locals := 131 }
abbrev ML_told : JM := (RL, cL_told, 4, (some .int), rmL_told, "told", some [(⟨0, 9, 12, 21⟩ : ExceptionTableEntry)])
abbrev rmX9_told : Room := { frames := 2, cells := 0, slots := 0, locals := 42 }
abbrev MX9_told : JM := (RX9, cX9_told, 2, (some .int), rmX9_told, "told", none)
abbrev rmX8_onCycles : Room := { frames := 4, cells := 0, slots := 0, locals := 89 }
abbrev MX8_onCycles : JM := (RX8, cX8_onCycles, 1, (some .int), rmX8_onCycles, "onCycles", none)
abbrev rmX9_onCycles : Room := { frames := 7, cells := 0, slots := 0, locals := 157 }
abbrev MX9_onCycles : JM := (RX9, cX9_onCycles, 1, (some .int), rmX9_onCycles, "onCycles", none)
abbrev rmX7_leadingToRings : Room := { frames := 1, cells := 0, slots := 0, locals := 20 }
abbrev MX7_leadingToRings : JM := (RX7, cX7_leadingToRings, 3, (some .int), rmX7_leadingToRings, "leadingToRings", none)
abbrev rmX8_stuck : Room := { frames := 4, cells := 0, slots := 0, locals := 89 }
abbrev MX8_stuck : JM := (RX8, cX8_stuck, 1, (some .int), rmX8_stuck, "stuck", none)
abbrev rmX9_stuckTasks : Room := { frames := 7, cells := 0, slots := 0, locals := 157 }
abbrev MX9_stuckTasks : JM := (RX9, cX9_stuckTasks, 4, (some .int), rmX9_stuckTasks, "stuckTasks", none)
abbrev rmX9_stuck : Room := { frames := 8, cells := 0, slots := 0, locals := 180 }
abbrev MX9_stuck : JM := (RX9, cX9_stuck, 1, (some .int), rmX9_stuck, "stuck", none)
abbrev rmX7_shortestRing : Room := { frames := 2, cells := 0, slots := 0, locals := 41 }
abbrev MX7_shortestRing : JM := (RX7, cX7_shortestRing, 6, (some .int), rmX7_shortestRing, "shortestRing", none)
abbrev rmX8_shortestCycleR : Room := { frames := 7, cells := 0, slots := 0, locals := 110 }
abbrev MX8_shortestCycleR : JM := (RX8, cX8_shortestCycle, 2, (some .int), rmX8_shortestCycleR, "shortestCycle", some [])
abbrev rmX8_shortestCycleT : Room := { frames := 7, cells := 1, slots := 6, locals := 110 }
abbrev MX8_shortestCycleT : JM := (RX8, cX8_shortestCycle, 2, (some .int), rmX8_shortestCycleT, "shortestCycle", some [])
abbrev rmL_shortestCycle : Room := { frames := 8, cells := 1, slots := 6, locals := 131 }
abbrev ML_shortestCycle : JM := (RL, cL_shortestCycle, 4, (some .int), rmL_shortestCycle, "shortestCycle", some [(⟨0, 9, 12, 13⟩ : ExceptionTableEntry)])
abbrev rmX9_shortestCycle : Room := { frames := 6, cells := 0, slots := 0, locals := 134 }
abbrev MX9_shortestCycle : JM := (RX9, cX9_shortestCycle, 6, (some .int), rmX9_shortestCycle, "shortestCycle", none)
abbrev rmX7_extend : Room := { frames := 2, cells := 0, slots := 0, locals := 41 }
abbrev MX7_extend : JM := (RX7, cX7_extend, 6, none, rmX7_extend, "extend", none)
abbrev rmX7_ringsFrom : Room := { frames := 3, cells := 0, slots := 0, locals := 66 }
abbrev MX7_ringsFrom : JM := (RX7, cX7_ringsFrom, 10, (some .int), rmX7_ringsFrom, "ringsFrom", none)
abbrev rmX7_countRings : Room := { frames := 4, cells := 1, slots := 4608, locals := 95 }
abbrev MX7_countRings : JM := (RX7, cX7_countRings, 4, (some .int), rmX7_countRings, "countRings", none)
abbrev rmX8_cycles : Room := { frames := 5, cells := 1, slots := 4608, locals := 118 }
abbrev MX8_cycles : JM := (RX8, cX8_cycles, 1, (some .int), rmX8_cycles, "cycles", none)
abbrev rmX9_cycles : Room := { frames := 6, cells := 0, slots := 0, locals := 134 }
abbrev MX9_cycles : JM := (RX9, cX9_cycles, 9, (some .int), rmX9_cycles, "cycles", none)
abbrev rmX9_latest : Room := { frames := 2, cells := 0, slots := 0, locals := 42 }
abbrev MX9_latest : JM := (RX9, cX9_latest, 2, (some .int), rmX9_latest, "latest", none)
abbrev rmX7_costOf : Room := { frames := 2, cells := 0, slots := 0, locals := 41 }
abbrev MX7_costOf : JM := (RX7, cX7_costOf, 5, (some .int), rmX7_costOf, "costOf", none)
abbrev rmX7_isRingFree : Room := { frames := 2, cells := 0, slots := 0, locals := 41 }
abbrev MX7_isRingFree : JM := (RX7, cX7_isRingFree, 6, (some .boolean), rmX7_isRingFree, "isRingFree", none)
abbrev rmX7_leastVictims : Room := { frames := 3, cells := 0, slots := 0, locals := 66 }
abbrev MX7_leastVictims : JM := (RX7, cX7_leastVictims, 7, (some .int), rmX7_leastVictims, "leastVictims", none)
abbrev rmX8_bestVictims : Room := { frames := 4, cells := 0, slots := 0, locals := 92 }
abbrev MX8_bestVictims : JM := (RX8, cX8_bestVictims, 1, (some .int), rmX8_bestVictims, "bestVictims", none)
abbrev rmX9_costOf : Room := { frames := 2, cells := 0, slots := 0, locals := 42 }
abbrev MX9_costOf : JM := (RX9, cX9_costOf, 4, (some .int), rmX9_costOf, "costOf", none)
abbrev rmX9_bestVictims : Room := { frames := 7, cells := 0, slots := 0, locals := 157 }
abbrev MX9_bestVictims : JM := (RX9, cX9_bestVictims, 6, (some .int), rmX9_bestVictims, "bestVictims", none)
abbrev rmX0_lowestRunning : Room := { frames := 2, cells := 0, slots := 0, locals := 42 }
abbrev MX0_lowestRunning : JM := (RX0, cX0_lowestRunning, 2, (some .int), rmX0_lowestRunning, "lowestRunning", none)
abbrev rmX8_wouldEnd : Room := { frames := 4, cells := 0, slots := 0, locals := 102 }
abbrev MX8_wouldEnd : JM := (RX8, cX8_wouldEnd, 4, (some .int), rmX8_wouldEnd, "wouldEnd", none)
abbrev rmX9_wouldEnd : Room := { frames := 7, cells := 0, slots := 0, locals := 155 }
abbrev MX9_wouldEnd : JM := (RX9, cX9_wouldEnd, 5, (some .int), rmX9_wouldEnd, "wouldEnd", none)
abbrev rmX5_append : Room := { frames := 1, cells := 0, slots := 0, locals := 20 }
abbrev MX5_append : JM := (RX5, cX5_append, 2, (some .int), rmX5_append, "append", none)
abbrev rmX8_typeR : Room := { frames := 7, cells := 0, slots := 0, locals := 110 }
abbrev MX8_typeR : JM := (RX8, cX8_type, 2, (some .int), rmX8_typeR, "type", some [])
abbrev rmX8_typeT : Room := { frames := 7, cells := 1, slots := 6, locals := 110 }
abbrev MX8_typeT : JM := (RX8, cX8_type, 2, (some .int), rmX8_typeT, "type", some [])
abbrev rmL_type : Room := { frames := 8, cells := 1, slots := 6, locals := 131 }
abbrev ML_type : JM := (RL, cL_type, 4, (some .int), rmL_type, "type", some [(⟨0, 9, 12, 21⟩ : ExceptionTableEntry), (⟨0, 9, 15, 15⟩ : ExceptionTableEntry)])
abbrev rmX9_type : Room := { frames := 2, cells := 0, slots := 0, locals := 42 }
abbrev MX9_type : JM := (RX9, cX9_type, 2, (some .int), rmX9_type, "type", none)
abbrev rmX8_clearText : Room := { frames := 1, cells := 0, slots := 0, locals := 20 }
abbrev MX8_clearText : JM := (RX8, cX8_clearText, 2, (some .int), rmX8_clearText, "clearText", none)
abbrev rmX9_clearText : Room := { frames := 1, cells := 0, slots := 0, locals := 20 }
abbrev MX9_clearText : JM := (RX9, cX9_clearText, 2, (some .int), rmX9_clearText, "clearText", none)
abbrev rmX5_numbersAfter : Room := { frames := 1, cells := 0, slots := 0, locals := 20 }
abbrev MX5_numbersAfter : JM := (RX5, cX5_numbersAfter, 1, (some .int), rmX5_numbersAfter, "numbersAfter", none)
abbrev rmX8_isDigit : Room := { frames := 2, cells := 0, slots := 0, locals := 42 }
abbrev MX8_isDigit : JM := (RX8, cX8_isDigit, 1, (some .boolean), rmX8_isDigit, "isDigit", none)
abbrev rmX5_firstFault : Room := { frames := 3, cells := 0, slots := 0, locals := 62 }
abbrev MX5_firstFault : JM := (RX5, cX5_firstFault, 5, (some .int), rmX5_firstFault, "firstFault", none)
abbrev rmX8_fault : Room := { frames := 4, cells := 0, slots := 0, locals := 86 }
abbrev MX8_fault : JM := (RX8, cX8_fault, 1, (some .int), rmX8_fault, "fault", none)
abbrev rmX9_here : Room := { frames := 1, cells := 0, slots := 0, locals := 20 }
abbrev MX9_here : JM := (RX9, cX9_here, 2, (some .int), rmX9_here, "here", none)
abbrev rmX9_arguments : Room := { frames := 1, cells := 0, slots := 0, locals := 20 }
abbrev MX9_arguments : JM := (RX9, cX9_arguments, 1, (some .int), rmX9_arguments, "arguments", none)
abbrev rmX9_readsNumber : Room := { frames := 2, cells := 0, slots := 0, locals := 42 }
abbrev MX9_readsNumber : JM := (RX9, cX9_readsNumber, 2, (some .boolean), rmX9_readsNumber, "readsNumber", none)
abbrev rmX9_readsCommand : Room := { frames := 3, cells := 0, slots := 0, locals := 63 }
abbrev MX9_readsCommand : JM := (RX9, cX9_readsCommand, 3, (some .boolean), rmX9_readsCommand, "readsCommand", none)
abbrev rmX9_faultOf : Room := { frames := 4, cells := 0, slots := 0, locals := 85 }
abbrev MX9_faultOf : JM := (RX9, cX9_faultOf, 2, (some .int), rmX9_faultOf, "faultOf", none)
abbrev rmX9_fault : Room := { frames := 5, cells := 0, slots := 0, locals := 106 }
abbrev MX9_fault : JM := (RX9, cX9_fault, 1, (some .int), rmX9_fault, "fault", none)
abbrev rmX8_isAllowed : Room := { frames := 3, cells := 0, slots := 0, locals := 63 }
abbrev MX8_isAllowed : JM := (RX8, cX8_isAllowed, 4, (some .boolean), rmX8_isAllowed, "isAllowed", none)
abbrev rmX8_carryOut : Room := { frames := 7, cells := 0, slots := 0, locals := 162 }
abbrev MX8_carryOut : JM := (RX8, cX8_carryOut, 4, none, rmX8_carryOut, "carryOut", none)
abbrev rmX8_runR : Room := { frames := 8, cells := 16, slots := 292, locals := 185 }
abbrev MX8_runR : JM := (RX8, cX8_run, 7, (some .int), rmX8_runR, "run", some [])
abbrev rmX8_runT : Room := { frames := 8, cells := 16, slots := 292, locals := 185 }
abbrev MX8_runT : JM := (RX8, cX8_run, 7, (some .int), rmX8_runT, "run", some [])
abbrev rmL_run : Room := { frames := 9, cells := 16, slots := 292, locals := 211 }
abbrev ML_run : JM := (RL, cL_run, 3, (some .int), rmL_run, "run", some [(⟨0, 8, 11, 21⟩ : ExceptionTableEntry)])
abbrev rmX9_does : Room := { frames := 10, cells := 0, slots := 0, locals := 221 }
abbrev MX9_does : JM := (RX9, cX9_does, 7, (some .boolean), rmX9_does, "does", none)
abbrev rmX9_run : Room := { frames := 11, cells := 0, slots := 0, locals := 247 }
abbrev MX9_run : JM := (RX9, cX9_run, 4, (some .int), rmX9_run, "run", none)
abbrev rmX3_bringBack : Room := { frames := 3, cells := 0, slots := 0, locals := 102 }
abbrev MX3_bringBack : JM := (RX3, cX3_bringBack, 3, none, rmX3_bringBack, "bringBack", none)
abbrev rmX8_undoR : Room := { frames := 7, cells := 0, slots := 0, locals := 124 }
abbrev MX8_undoR : JM := (RX8, cX8_undo, 1, (some .int), rmX8_undoR, "undo", some [])
abbrev rmX8_undoT : Room := { frames := 7, cells := 1, slots := 6, locals := 124 }
abbrev MX8_undoT : JM := (RX8, cX8_undo, 1, (some .int), rmX8_undoT, "undo", some [])
abbrev rmL_undo : Room := { frames := 8, cells := 1, slots := 6, locals := 144 }
abbrev ML_undo : JM := (RL, cL_undo, 3, (some .int), rmL_undo, "undo", some [(⟨0, 8, 11, 15⟩ : ExceptionTableEntry)])
abbrev rmX9_undo : Room := { frames := 1, cells := 0, slots := 0, locals := 20 }
abbrev MX9_undo : JM := (RX9, cX9_undo, 2, (some .int), rmX9_undo, "undo", none)
abbrev rmX8_mix : Room := { frames := 1, cells := 0, slots := 0, locals := 20 }
abbrev MX8_mix : JM := (RX8, cX8_mix, 4, (some .long), rmX8_mix, "mix", none)
abbrev rmX8_checksumR : Room := { frames := 8, cells := 0, slots := 0, locals := 132 }
abbrev MX8_checksumR : JM := (RX8, cX8_checksum, 5, (some .long), rmX8_checksumR, "checksum", some [])
abbrev rmX8_checksumT : Room := { frames := 8, cells := 1, slots := 6, locals := 132 }
abbrev MX8_checksumT : JM := (RX8, cX8_checksum, 5, (some .long), rmX8_checksumT, "checksum", some [])
abbrev rmX9_mixes : Room := { frames := 1, cells := 0, slots := 0, locals := 20 }
abbrev MX9_mixes : JM := (RX9, cX9_mixes, 2, none, rmX9_mixes, "mixes", none)
abbrev rmX9_checksum : Room := { frames := 8, cells := 0, slots := 0, locals := 180 }
abbrev MX9_checksum : JM := (RX9, cX9_checksum, 3, (some .long), rmX9_checksum, "checksum", none)
theorem iJ6_bitCount_0f7a4 : jS0 yJ6_bitCount_0f7a4 cJ6_bitCount_0f7a4 1 (some .int) 1 := ⟨tk_348, tk_18, tk_349, by decide, by decide, by decide +kernel⟩
theorem iX0_has : jV0 yX0_has cX0_has 2 (some .boolean) 1 := ⟨tk_387, tk_388, tk_2, tk_389, by decide, by decide, by decide +kernel⟩
theorem iX8_needThing : jS0 yX8_needThing cX8_needThing 1 none 1 := ⟨tk_435, tk_1, tk_436, by decide, by decide, by decide +kernel⟩
theorem iX0_isIn : jV0 yX0_isIn cX0_isIn 3 (some .boolean) 2 := ⟨tk_301, tk_302, tk_2, tk_303, by decide, by decide, by decide +kernel⟩
theorem iX8_needState : jS0 yX8_needState cX8_needState 1 none 1 := ⟨tk_554, tk_1, tk_555, by decide, by decide, by decide +kernel⟩
theorem iX3_dropOldest : jV0 yX3_dropOldest cX3_dropOldest 3 none 0 := ⟨tk_577, tk_578, tk_8, tk_579, by decide, by decide, by decide +kernel⟩
theorem iX2_init : jI0 yX2_init cX2_init 1 0 := ⟨rfl, tk_36, tk_3, tk_37, by decide, by decide, by decide +kernel⟩
theorem iX4_init : jI0 yX4_init cX4_init 1 0 := ⟨rfl, tk_62, tk_4, tk_63, by decide, by decide, by decide +kernel⟩
theorem iX0_init : jI0 yX0_init cX0_init 1 0 := ⟨rfl, tk_30, tk_2, tk_31, by decide, by decide, by decide +kernel⟩
theorem iX2_copyFrom : jV0 yX2_copyFrom cX2_copyFrom 2 none 1 := ⟨tk_366, tk_367, tk_3, tk_368, by decide, by decide, by decide +kernel⟩
theorem iX4_copyFrom : jV0 yX4_copyFrom cX4_copyFrom 2 none 1 := ⟨tk_373, tk_374, tk_4, tk_375, by decide, by decide, by decide +kernel⟩
theorem iX0_copyFrom : jV0 yX0_copyFrom cX0_copyFrom 2 none 1 := ⟨tk_362, tk_363, tk_2, tk_364, by decide, by decide, by decide +kernel⟩
theorem iX3_keep : jV0 yX3_keep cX3_keep 3 none 1 := ⟨tk_573, tk_574, tk_8, tk_575, by decide, by decide, by decide +kernel⟩
theorem iX0_heldBy : jV0 yX0_heldBy cX0_heldBy 2 (some .int) 1 := ⟨tk_698, tk_699, tk_2, tk_700, by decide, by decide, by decide +kernel⟩
theorem iX8_inSet : jS0 yX8_inSet cX8_inSet 2 (some .boolean) 2 := ⟨tk_309, tk_1, tk_310, by decide, by decide, by decide +kernel⟩
theorem iX0_leaveOrder : jV0 yX0_leaveOrder cX0_leaveOrder 4 none 1 := ⟨tk_663, tk_664, tk_2, tk_665, by decide, by decide, by decide +kernel⟩
theorem iX0_strike : jV0 yX0_strike cX0_strike 2 none 1 := ⟨tk_659, tk_660, tk_2, tk_661, by decide, by decide, by decide +kernel⟩
theorem iX6_add : jV0 yX6_add cX6_add 3 none 2 := ⟨tk_667, tk_668, tk_5, tk_669, by decide, by decide, by decide +kernel⟩
theorem iX1_strikeAll : jV0 yX1_strikeAll cX1_strikeAll 3 none 1 := ⟨tk_654, tk_655, tk_7, tk_656, by decide, by decide, by decide +kernel⟩
theorem iX0_holdersInWay : jV0 yX0_holdersInWay cX0_holdersInWay 6 (some .int) 2 := ⟨tk_305, tk_306, tk_2, tk_307, by decide, by decide, by decide +kernel⟩
theorem iX2_has : jV0 yX2_has cX2_has 2 (some .boolean) 1 := ⟨tk_399, tk_400, tk_3, tk_401, by decide, by decide, by decide +kernel⟩
theorem iX0_grant : jV0 yX0_grant cX0_grant 3 none 2 := ⟨tk_395, tk_396, tk_2, tk_397, by decide, by decide, by decide +kernel⟩
theorem iX0_settle : jV0 yX0_settle cX0_settle 6 (some .int) 0 := ⟨tk_391, tk_392, tk_2, tk_393, by decide, by decide, by decide +kernel⟩
theorem iX1_kill : jV0 yX1_kill cX1_kill 3 (some .int) 1 := ⟨tk_722, tk_723, tk_7, tk_724, by decide, by decide, by decide +kernel⟩
theorem iX8_abort : jV0 yX8_abort cX8_abort 2 (some .int) 1 := ⟨tk_718, tk_719, tk_1, tk_720, by decide, by decide, by decide +kernel⟩
theorem iL_abort : jH0 yL_abort cL_abort 4 (some .int) [(0, 9, 12, 13), (0, 9, 15, 15)] 3 := ⟨tk_715, tk_0, tk_716, by decide, by decide, by decide +kernel⟩
theorem iX2_grow : jV0 yX2_grow cX2_grow 4 (some .int) 1 := ⟨tk_583, tk_584, tk_3, tk_585, by decide, by decide, by decide +kernel⟩
theorem iX8_addResource : jV0 yX8_addResource cX8_addResource 2 (some .int) 1 := ⟨tk_549, tk_550, tk_1, tk_551, by decide, by decide, by decide +kernel⟩
theorem iL_addResource : jH0 yL_addResource cL_addResource 4 (some .int) [(0, 9, 12, 13), (0, 9, 15, 15)] 3 := ⟨tk_544, tk_0, tk_545, by decide, by decide, by decide +kernel⟩
theorem iX8_isWithin : jS0 yX8_isWithin cX8_isWithin 3 (some .boolean) 3 := ⟨tk_282, tk_1, tk_283, by decide, by decide, by decide +kernel⟩
theorem iX8_needValue : jS0 yX8_needValue cX8_needValue 1 none 1 := ⟨tk_506, tk_1, tk_507, by decide, by decide, by decide +kernel⟩
theorem iX0_freeNumber : jV0 yX0_freeNumber cX0_freeNumber 2 (some .int) 0 := ⟨tk_622, tk_623, tk_2, tk_624, by decide, by decide, by decide +kernel⟩
theorem iX0_enroll : jV0 yX0_enroll cX0_enroll 3 (some .int) 1 := ⟨tk_627, tk_628, tk_2, tk_629, by decide, by decide, by decide +kernel⟩
theorem iX8_create : jV0 yX8_create cX8_create 2 (some .int) 1 := ⟨tk_618, tk_619, tk_1, tk_620, by decide, by decide, by decide +kernel⟩
theorem iL_create : jH0 yL_create cL_create 4 (some .int) [(0, 9, 12, 21), (0, 9, 15, 15)] 3 := ⟨tk_615, tk_0, tk_616, by decide, by decide, by decide +kernel⟩
theorem iX0_waitsFor : jV0 yX0_waitsFor cX0_waitsFor 2 (some .int) 1 := ⟨tk_297, tk_298, tk_2, tk_299, by decide, by decide, by decide +kernel⟩
theorem iX7_read : jV0 yX7_read cX7_read 4 none 1 := ⟨tk_293, tk_294, tk_6, tk_295, by decide, by decide, by decide +kernel⟩
theorem iX4_rowOf : jV0 yX4_rowOf cX4_rowOf 2 (some .int) 1 := ⟨tk_534, tk_535, tk_4, tk_536, by decide, by decide, by decide +kernel⟩
theorem iX4_dropFirst : jV0 yX4_dropFirst cX4_dropFirst 1 none 0 := ⟨tk_810, tk_811, tk_4, tk_812, by decide, by decide, by decide +kernel⟩
theorem iX4_taskAt : jS0 yX4_taskAt cX4_taskAt 3 (some .int) 2 := ⟨tk_538, tk_4, tk_539, by decide, by decide, by decide +kernel⟩
theorem iX4_members : jS0 yX4_members cX4_members 5 (some .int) 2 := ⟨tk_541, tk_4, tk_542, by decide, by decide, by decide +kernel⟩
theorem iX7_of : jV0 yX7_of cX7_of 2 (some .int) 1 := ⟨tk_782, tk_783, tk_6, tk_784, by decide, by decide, by decide +kernel⟩
theorem iX7_follow : jV0 yX7_follow cX7_follow 7 (some .boolean) 3 := ⟨tk_816, tk_817, tk_6, tk_818, by decide, by decide, by decide +kernel⟩
theorem iX1_isRatherVictim : jV0 yX1_isRatherVictim cX1_isRatherVictim 4 (some .boolean) 2 := ⟨tk_830, tk_831, tk_7, tk_832, by decide, by decide, by decide +kernel⟩
theorem iX1_victimOf : jV0 yX1_victimOf cX1_victimOf 4 (some .int) 1 := ⟨tk_826, tk_827, tk_7, tk_828, by decide, by decide, by decide +kernel⟩
theorem iX6_noteDeadlock : jV0 yX6_noteDeadlock cX6_noteDeadlock 4 none 3 := ⟨tk_835, tk_836, tk_5, tk_837, by decide, by decide, by decide +kernel⟩
theorem iX1_breakDeadlock : jV0 yX1_breakDeadlock cX1_breakDeadlock 4 none 2 := ⟨tk_822, tk_823, tk_7, tk_824, by decide, by decide, by decide +kernel⟩
theorem iX4_extended : jS0 yX4_extended cX4_extended 4 (some .long) 3 := ⟨tk_841, tk_4, tk_842, by decide, by decide, by decide +kernel⟩
theorem iX4_send : jV0 yX4_send cX4_send 7 (some .boolean) 4 := ⟨tk_790, tk_791, tk_4, tk_792, by decide, by decide, by decide +kernel⟩
theorem iX1_sendToAll : jV0 yX1_sendToAll cX1_sendToAll 7 none 4 := ⟨tk_786, tk_787, tk_7, tk_788, by decide, by decide, by decide +kernel⟩
theorem iX1_deliverFirst : jV0 yX1_deliverFirst cX1_deliverFirst 9 none 0 := ⟨tk_805, tk_806, tk_7, tk_807, by decide, by decide, by decide +kernel⟩
theorem iX1_deliverUpTo : jV0 yX1_deliverUpTo cX1_deliverUpTo 3 (some .int) 1 := ⟨tk_801, tk_802, tk_7, tk_803, by decide, by decide, by decide +kernel⟩
theorem iX8_deliver : jV0 yX8_deliver cX8_deliver 2 (some .int) 1 := ⟨tk_797, tk_798, tk_1, tk_799, by decide, by decide, by decide +kernel⟩
theorem iL_deliver : jH0 yL_deliver cL_deliver 4 (some .int) [(0, 9, 12, 21)] 3 := ⟨tk_794, tk_0, tk_795, by decide, by decide, by decide +kernel⟩
theorem iX0_dismiss : jV0 yX0_dismiss cX0_dismiss 2 none 1 := ⟨tk_383, tk_384, tk_2, tk_385, by decide, by decide, by decide +kernel⟩
theorem iX1_end : jV0 yX1_end cX1_end 3 (some .int) 1 := ⟨tk_710, tk_711, tk_7, tk_712, by decide, by decide, by decide +kernel⟩
theorem iX8_finish : jV0 yX8_finish cX8_finish 2 (some .int) 1 := ⟨tk_706, tk_707, tk_1, tk_708, by decide, by decide, by decide +kernel⟩
theorem iL_finish : jH0 yL_finish cL_finish 4 (some .int) [(0, 9, 12, 13), (0, 9, 15, 15)] 3 := ⟨tk_703, tk_0, tk_704, by decide, by decide, by decide +kernel⟩
theorem iX8_latest : jV0 yX8_latest cX8_latest 2 (some .int) 1 := ⟨tk_872, tk_873, tk_1, tk_874, by decide, by decide, by decide +kernel⟩
theorem iL_latest : jH0 yL_latest cL_latest 4 (some .int) [(0, 9, 12, 21)] 3 := ⟨tk_869, tk_0, tk_870, by decide, by decide, by decide +kernel⟩
theorem iX6_init : jI0 yX6_init cX6_init 1 0 := ⟨rfl, tk_158, tk_5, tk_159, by decide, by decide, by decide +kernel⟩
theorem iX7_init : jI0 yX7_init cX7_init 1 0 := ⟨rfl, tk_181, tk_6, tk_182, by decide, by decide, by decide +kernel⟩
theorem iX1_init : jI0 yX1_init cX1_init 4 3 := ⟨rfl, tk_202, tk_7, tk_203, by decide, by decide, by decide +kernel⟩
theorem iX3_init : jI0 yX3_init cX3_init 1 0 := ⟨rfl, tk_218, tk_8, tk_219, by decide, by decide, by decide +kernel⟩
theorem iX5_init : jI0 yX5_init cX5_init 1 0 := ⟨rfl, tk_234, tk_9, tk_235, by decide, by decide, by decide +kernel⟩
theorem iX8_init : jI0 yX8_init cX8_init 1 0 := ⟨rfl, tk_22, tk_1, tk_23, by decide, by decide, by decide +kernel⟩
theorem iX9_init : jI0 yX9_init cX9_init 1 0 := ⟨rfl, tk_916, tk_10, tk_917, by decide, by decide, by decide +kernel⟩
theorem iX9_in : jS0 yX9_in cX9_in 3 (some .boolean) 3 := ⟨tk_997, tk_10, tk_998, by decide, by decide, by decide +kernel⟩
theorem iX9_isResource : jV0 yX9_isResource cX9_isResource 2 (some .boolean) 1 := ⟨tk_994, tk_p3, tk_10, tk_995, by decide, by decide, by decide +kernel⟩
theorem iX9_begins : jV0 yX9_begins cX9_begins 2 none 0 := ⟨tk_1001, tk_p4, tk_10, tk_1002, by decide, by decide, by decide +kernel⟩
theorem iX9_records : jV0 yX9_records cX9_records 2 none 0 := ⟨tk_1005, tk_p5, tk_10, tk_1006, by decide, by decide, by decide +kernel⟩
theorem iX9_addResource : jV0 yX9_addResource cX9_addResource 2 (some .int) 1 := ⟨tk_989, tk_990, tk_10, tk_991, by decide, by decide, by decide +kernel⟩
theorem iX9_thrown : jV0 yX9_thrown cX9_thrown 1 (some .int) 0 := ⟨tk_981, tk_982, tk_10, tk_983, by decide, by decide, by decide +kernel⟩
theorem iX8_resources : jV0 yX8_resources cX8_resources 1 (some .int) 0 := ⟨tk_270, tk_271, tk_1, tk_272, by decide, by decide, by decide +kernel⟩
theorem iX9_resources : jV0 yX9_resources cX9_resources 1 (some .int) 0 := ⟨tk_1008, tk_1009, tk_10, tk_1010, by decide, by decide, by decide +kernel⟩
theorem iX0_covers : jV0 yX0_covers cX0_covers 3 (some .boolean) 2 := ⟨tk_602, tk_603, tk_2, tk_604, by decide, by decide, by decide +kernel⟩
theorem iX0_ownerOf : jV0 yX0_ownerOf cX0_ownerOf 3 (some .int) 1 := ⟨tk_598, tk_599, tk_2, tk_600, by decide, by decide, by decide +kernel⟩
theorem iX8_resource : jV0 yX8_resource cX8_resource 3 (some .int) 2 := ⟨tk_593, tk_594, tk_1, tk_595, by decide, by decide, by decide +kernel⟩
theorem iL_resource : jH0 yL_resource cL_resource 5 (some .int) [(0, 10, 13, 13), (0, 10, 17, 21)] 4 := ⟨tk_589, tk_0, tk_590, by decide, by decide, by decide +kernel⟩
theorem iX9_isBelow : jV0 yX9_isBelow cX9_isBelow 4 (some .boolean) 2 := ⟨tk_1017, tk_p6, tk_10, tk_1018, by decide, by decide, by decide +kernel⟩
theorem iX9_of : jV0 yX9_of cX9_of 3 (some .int) 2 := ⟨tk_1025, tk_p8, tk_10, tk_1026, by decide, by decide, by decide +kernel⟩
theorem iX9_isTask : jV0 yX9_isTask cX9_isTask 2 (some .boolean) 1 := ⟨tk_1021, tk_p7, tk_10, tk_1022, by decide, by decide, by decide +kernel⟩
theorem iX9_overlaps : jV0 yX9_overlaps cX9_overlaps 3 (some .boolean) 2 := ⟨tk_1029, tk_p9, tk_10, tk_1030, by decide, by decide, by decide +kernel⟩
theorem iX9_resource : jV0 yX9_resource cX9_resource 10 (some .int) 2 := ⟨tk_1012, tk_1013, tk_10, tk_1014, by decide, by decide, by decide +kernel⟩
theorem iX8_overlap : jV0 yX8_overlap cX8_overlap 3 (some .boolean) 2 := ⟨tk_610, tk_611, tk_1, tk_612, by decide, by decide, by decide +kernel⟩
theorem iL_overlap : jH0 yL_overlap cL_overlap 5 (some .int) [(0, 17, 20, 13)] 4 := ⟨tk_607, tk_0, tk_608, by decide, by decide, by decide +kernel⟩
theorem iX9_overlap : jV0 yX9_overlap cX9_overlap 3 (some .boolean) 2 := ⟨tk_1032, tk_1033, tk_10, tk_1034, by decide, by decide, by decide +kernel⟩
theorem iX9_puts : jV0 yX9_puts cX9_puts 4 none 3 := ⟨tk_1041, tk_p10, tk_10, tk_1042, by decide, by decide, by decide +kernel⟩
theorem iX9_create : jV0 yX9_create cX9_create 3 (some .int) 1 := ⟨tk_1036, tk_1037, tk_10, tk_1038, by decide, by decide, by decide +kernel⟩
theorem iX0_youngerThan : jV0 yX0_youngerThan cX0_youngerThan 5 (some .int) 2 := ⟨tk_650, tk_651, tk_2, tk_652, by decide, by decide, by decide +kernel⟩
theorem iX1_outcomeOf : jV0 yX1_outcomeOf cX1_outcomeOf 5 (some .int) 2 := ⟨tk_645, tk_646, tk_7, tk_647, by decide, by decide, by decide +kernel⟩
theorem iX0_queueUp : jV0 yX0_queueUp cX0_queueUp 3 none 2 := ⟨tk_672, tk_673, tk_2, tk_674, by decide, by decide, by decide +kernel⟩
theorem iX1_ask : jV0 yX1_ask cX1_ask 4 (some .int) 2 := ⟨tk_640, tk_641, tk_7, tk_642, by decide, by decide, by decide +kernel⟩
theorem iX8_request : jV0 yX8_request cX8_request 3 (some .int) 2 := ⟨tk_635, tk_636, tk_1, tk_637, by decide, by decide, by decide +kernel⟩
theorem iL_request : jH0 yL_request cL_request 5 (some .int) [(0, 10, 13, 13), (0, 10, 17, 15)] 4 := ⟨tk_632, tk_0, tk_633, by decide, by decide, by decide +kernel⟩
theorem iX9_isRunning : jV0 yX9_isRunning cX9_isRunning 2 (some .boolean) 1 := ⟨tk_1053, tk_p12, tk_10, tk_1054, by decide, by decide, by decide +kernel⟩
theorem iX9_requestFault : jV0 yX9_requestFault cX9_requestFault 3 (some .int) 2 := ⟨tk_1049, tk_p11, tk_10, tk_1050, by decide, by decide, by decide +kernel⟩
theorem iX9_isOver : jV0 yX9_isOver cX9_isOver 5 (some .boolean) 2 := ⟨tk_1065, tk_p15, tk_10, tk_1066, by decide, by decide, by decide +kernel⟩
theorem iX9_inTheWay : jV0 yX9_inTheWay cX9_inTheWay 6 (some .int) 2 := ⟨tk_1069, tk_p16, tk_10, tk_1070, by decide, by decide, by decide +kernel⟩
theorem iX9_younger : jV0 yX9_younger cX9_younger 5 (some .int) 2 := ⟨tk_1073, tk_p17, tk_10, tk_1074, by decide, by decide, by decide +kernel⟩
theorem iX9_happens : jV0 yX9_happens cX9_happens 5 (some .int) 2 := ⟨tk_1061, tk_p14, tk_10, tk_1062, by decide, by decide, by decide +kernel⟩
theorem iX9_placeOf : jV0 yX9_placeOf cX9_placeOf 4 (some .int) 1 := ⟨tk_1085, tk_p20, tk_10, tk_1086, by decide, by decide, by decide +kernel⟩
theorem iX9_leaves : jV0 yX9_leaves cX9_leaves 4 none 1 := ⟨tk_1081, tk_p19, tk_10, tk_1082, by decide, by decide, by decide +kernel⟩
theorem iX9_ends : jV0 yX9_ends cX9_ends 2 none 1 := ⟨tk_1077, tk_p18, tk_10, tk_1078, by decide, by decide, by decide +kernel⟩
theorem iX9_waits : jV0 yX9_waits cX9_waits 3 none 2 := ⟨tk_1089, tk_p21, tk_10, tk_1090, by decide, by decide, by decide +kernel⟩
theorem iX9_grants : jV0 yX9_grants cX9_grants 3 none 2 := ⟨tk_1093, tk_p22, tk_10, tk_1094, by decide, by decide, by decide +kernel⟩
theorem iX9_isWaiting : jV0 yX9_isWaiting cX9_isWaiting 2 (some .boolean) 1 := ⟨tk_1105, tk_p25, tk_10, tk_1106, by decide, by decide, by decide +kernel⟩
theorem iX9_waitsFor : jV0 yX9_waitsFor cX9_waitsFor 2 (some .int) 1 := ⟨tk_1101, tk_p24, tk_10, tk_1102, by decide, by decide, by decide +kernel⟩
theorem iX9_settles : jV0 yX9_settles cX9_settles 4 none 0 := ⟨tk_1097, tk_p23, tk_10, tk_1098, by decide, by decide, by decide +kernel⟩
theorem iX9_asks : jV0 yX9_asks cX9_asks 7 none 2 := ⟨tk_1057, tk_p13, tk_10, tk_1058, by decide, by decide, by decide +kernel⟩
theorem iX9_request : jV0 yX9_request cX9_request 3 (some .int) 2 := ⟨tk_1044, tk_1045, tk_10, tk_1046, by decide, by decide, by decide +kernel⟩
theorem iX0_holds : jV0 yX0_holds cX0_holds 3 (some .boolean) 2 := ⟨tk_685, tk_686, tk_2, tk_687, by decide, by decide, by decide +kernel⟩
theorem iX0_letGo : jV0 yX0_letGo cX0_letGo 3 none 2 := ⟨tk_693, tk_694, tk_2, tk_695, by decide, by decide, by decide +kernel⟩
theorem iX1_giveBack : jV0 yX1_giveBack cX1_giveBack 3 (some .int) 2 := ⟨tk_689, tk_690, tk_7, tk_691, by decide, by decide, by decide +kernel⟩
theorem iX8_release : jV0 yX8_release cX8_release 3 (some .int) 2 := ⟨tk_681, tk_682, tk_1, tk_683, by decide, by decide, by decide +kernel⟩
theorem iL_release : jH0 yL_release cL_release 5 (some .int) [(0, 10, 13, 13), (0, 10, 17, 15)] 4 := ⟨tk_678, tk_0, tk_679, by decide, by decide, by decide +kernel⟩
theorem iX9_releaseFault : jV0 yX9_releaseFault cX9_releaseFault 3 (some .int) 2 := ⟨tk_1117, tk_p26, tk_10, tk_1118, by decide, by decide, by decide +kernel⟩
theorem iX9_lets : jV0 yX9_lets cX9_lets 3 none 2 := ⟨tk_1121, tk_p27, tk_10, tk_1122, by decide, by decide, by decide +kernel⟩
theorem iX9_bits : jS0 yX9_bits cX9_bits 3 (some .int) 1 := ⟨tk_1124, tk_10, tk_1125, by decide, by decide, by decide +kernel⟩
theorem iX9_release : jV0 yX9_release cX9_release 3 (some .int) 2 := ⟨tk_1112, tk_1113, tk_10, tk_1114, by decide, by decide, by decide +kernel⟩
theorem iX9_finishFault : jV0 yX9_finishFault cX9_finishFault 2 (some .int) 1 := ⟨tk_1132, tk_p28, tk_10, tk_1133, by decide, by decide, by decide +kernel⟩
theorem iX9_finishes : jV0 yX9_finishes cX9_finishes 2 none 1 := ⟨tk_1136, tk_p29, tk_10, tk_1137, by decide, by decide, by decide +kernel⟩
theorem iX9_finish : jV0 yX9_finish cX9_finish 3 (some .int) 1 := ⟨tk_1127, tk_1128, tk_10, tk_1129, by decide, by decide, by decide +kernel⟩
theorem iX9_abortFault : jV0 yX9_abortFault cX9_abortFault 2 (some .int) 1 := ⟨tk_1144, tk_p30, tk_10, tk_1145, by decide, by decide, by decide +kernel⟩
theorem iX9_aborts : jV0 yX9_aborts cX9_aborts 2 none 1 := ⟨tk_1148, tk_p31, tk_10, tk_1149, by decide, by decide, by decide +kernel⟩
theorem iX9_abort : jV0 yX9_abort cX9_abort 3 (some .int) 1 := ⟨tk_1139, tk_1140, tk_10, tk_1141, by decide, by decide, by decide +kernel⟩
theorem iX0_revive : jV0 yX0_revive cX0_revive 2 (some .int) 1 := ⟨tk_733, tk_734, tk_2, tk_735, by decide, by decide, by decide +kernel⟩
theorem iX8_restart : jV0 yX8_restart cX8_restart 2 (some .int) 1 := ⟨tk_729, tk_730, tk_1, tk_731, by decide, by decide, by decide +kernel⟩
theorem iL_restart : jH0 yL_restart cL_restart 4 (some .int) [(0, 9, 12, 13), (0, 9, 15, 15)] 3 := ⟨tk_726, tk_0, tk_727, by decide, by decide, by decide +kernel⟩
theorem iX9_restartFault : jV0 yX9_restartFault cX9_restartFault 2 (some .int) 1 := ⟨tk_1156, tk_p32, tk_10, tk_1157, by decide, by decide, by decide +kernel⟩
theorem iX9_restart : jV0 yX9_restart cX9_restart 2 (some .int) 1 := ⟨tk_1151, tk_1152, tk_10, tk_1153, by decide, by decide, by decide +kernel⟩
theorem iX8_tasks : jV0 yX8_tasks cX8_tasks 1 (some .int) 0 := ⟨tk_274, tk_275, tk_1, tk_276, by decide, by decide, by decide +kernel⟩
theorem iX9_all : jV0 yX9_all cX9_all 3 (some .int) 0 := ⟨tk_1164, tk_p33, tk_10, tk_1165, by decide, by decide, by decide +kernel⟩
theorem iX9_tasks : jV0 yX9_tasks cX9_tasks 1 (some .int) 0 := ⟨tk_1159, tk_1160, tk_10, tk_1161, by decide, by decide, by decide +kernel⟩
theorem iX0_positionOf : jV0 yX0_positionOf cX0_positionOf 3 (some .int) 1 := ⟨tk_526, tk_527, tk_2, tk_528, by decide, by decide, by decide +kernel⟩
theorem iX8_task : jV0 yX8_task cX8_task 3 (some .int) 2 := ⟨tk_431, tk_432, tk_1, tk_433, by decide, by decide, by decide +kernel⟩
theorem iL_task : jH0 yL_task cL_task 5 (some .int) [(0, 10, 13, 13), (0, 10, 17, 21)] 4 := ⟨tk_737, tk_0, tk_738, by decide, by decide, by decide +kernel⟩
theorem iX9_part : jV0 yX9_part cX9_part 3 (some .int) 2 := ⟨tk_1172, tk_p34, tk_10, tk_1173, by decide, by decide, by decide +kernel⟩
theorem iX9_task : jV0 yX9_task cX9_task 3 (some .int) 2 := ⟨tk_1167, tk_1168, tk_10, tk_1169, by decide, by decide, by decide +kernel⟩
theorem iX8_waiting : jV0 yX8_waiting cX8_waiting 2 (some .int) 1 := ⟨tk_278, tk_279, tk_1, tk_280, by decide, by decide, by decide +kernel⟩
theorem iX9_waiting : jV0 yX9_waiting cX9_waiting 2 (some .int) 1 := ⟨tk_1175, tk_1176, tk_10, tk_1177, by decide, by decide, by decide +kernel⟩
theorem iX8_wouldHappen : jV0 yX8_wouldHappen cX8_wouldHappen 3 (some .int) 2 := ⟨tk_744, tk_745, tk_1, tk_746, by decide, by decide, by decide +kernel⟩
theorem iL_wouldHappen : jH0 yL_wouldHappen cL_wouldHappen 5 (some .int) [(0, 10, 13, 13), (0, 10, 17, 15)] 4 := ⟨tk_741, tk_0, tk_742, by decide, by decide, by decide +kernel⟩
theorem iX9_wouldHappen : jV0 yX9_wouldHappen cX9_wouldHappen 3 (some .int) 2 := ⟨tk_1108, tk_1109, tk_10, tk_1110, by decide, by decide, by decide +kernel⟩
theorem iX8_setPolicy : jV0 yX8_setPolicy cX8_setPolicy 3 (some .int) 1 := ⟨tk_752, tk_753, tk_1, tk_754, by decide, by decide, by decide +kernel⟩
theorem iL_setPolicy : jH0 yL_setPolicy cL_setPolicy 4 (some .int) [(0, 9, 12, 21)] 3 := ⟨tk_749, tk_0, tk_750, by decide, by decide, by decide +kernel⟩
theorem iX9_sets : jV0 yX9_sets cX9_sets 5 (some .int) 3 := ⟨tk_1184, tk_p35, tk_10, tk_1185, by decide, by decide, by decide +kernel⟩
theorem iX9_setPolicy : jV0 yX9_setPolicy cX9_setPolicy 2 (some .int) 1 := ⟨tk_1179, tk_1180, tk_10, tk_1181, by decide, by decide, by decide +kernel⟩
theorem iX8_setRule : jV0 yX8_setRule cX8_setRule 3 (some .int) 1 := ⟨tk_759, tk_760, tk_1, tk_761, by decide, by decide, by decide +kernel⟩
theorem iL_setRule : jH0 yL_setRule cL_setRule 4 (some .int) [(0, 9, 12, 21)] 3 := ⟨tk_756, tk_0, tk_757, by decide, by decide, by decide +kernel⟩
theorem iX9_setRule : jV0 yX9_setRule cX9_setRule 2 (some .int) 1 := ⟨tk_1187, tk_1188, tk_10, tk_1189, by decide, by decide, by decide +kernel⟩
theorem iX8_setBudget : jV0 yX8_setBudget cX8_setBudget 3 (some .int) 1 := ⟨tk_766, tk_767, tk_1, tk_768, by decide, by decide, by decide +kernel⟩
theorem iL_setBudget : jH0 yL_setBudget cL_setBudget 4 (some .int) [(0, 9, 12, 21)] 3 := ⟨tk_763, tk_0, tk_764, by decide, by decide, by decide +kernel⟩
theorem iX9_setBudget : jV0 yX9_setBudget cX9_setBudget 2 (some .int) 1 := ⟨tk_1191, tk_1192, tk_10, tk_1193, by decide, by decide, by decide +kernel⟩
theorem iX1_startProbe : jV0 yX1_startProbe cX1_startProbe 2 (some .int) 1 := ⟨tk_777, tk_778, tk_7, tk_779, by decide, by decide, by decide +kernel⟩
theorem iX8_probe : jV0 yX8_probe cX8_probe 2 (some .int) 1 := ⟨tk_773, tk_774, tk_1, tk_775, by decide, by decide, by decide +kernel⟩
theorem iL_probe : jH0 yL_probe cL_probe 4 (some .int) [(0, 9, 12, 13), (0, 9, 15, 15)] 3 := ⟨tk_770, tk_0, tk_771, by decide, by decide, by decide +kernel⟩
theorem iX9_probeFault : jV0 yX9_probeFault cX9_probeFault 2 (some .int) 1 := ⟨tk_1200, tk_p36, tk_10, tk_1201, by decide, by decide, by decide +kernel⟩
theorem iX9_sends : jV0 yX9_sends cX9_sends 5 none 2 := ⟨tk_1212, tk_p39, tk_10, tk_1213, by decide, by decide, by decide +kernel⟩
theorem iX9_sendsAll : jV0 yX9_sendsAll cX9_sendsAll 5 none 2 := ⟨tk_1208, tk_p38, tk_10, tk_1209, by decide, by decide, by decide +kernel⟩
theorem iX9_starts : jV0 yX9_starts cX9_starts 2 none 1 := ⟨tk_1204, tk_p37, tk_10, tk_1205, by decide, by decide, by decide +kernel⟩
theorem iX9_probe : jV0 yX9_probe cX9_probe 2 (some .int) 1 := ⟨tk_1195, tk_1196, tk_10, tk_1197, by decide, by decide, by decide +kernel⟩
theorem iX9_isStale : jV0 yX9_isStale cX9_isStale 5 (some .boolean) 1 := ⟨tk_1228, tk_p42, tk_10, tk_1229, by decide, by decide, by decide +kernel⟩
theorem iX9_isBefore : jV0 yX9_isBefore cX9_isBefore 5 (some .boolean) 2 := ⟨tk_1236, tk_p44, tk_10, tk_1237, by decide, by decide, by decide +kernel⟩
theorem iX9_finds : jV0 yX9_finds cX9_finds 2 none 0 := ⟨tk_1232, tk_p43, tk_10, tk_1233, by decide, by decide, by decide +kernel⟩
theorem iX9_isOnPath : jV0 yX9_isOnPath cX9_isOnPath 4 (some .boolean) 1 := ⟨tk_1240, tk_p45, tk_10, tk_1241, by decide, by decide, by decide +kernel⟩
theorem iX9_lays : jV0 yX9_lays cX9_lays 4 none 1 := ⟨tk_1248, tk_p47, tk_10, tk_1249, by decide, by decide, by decide +kernel⟩
theorem iX9_cyclic : jV0 yX9_cyclic cX9_cyclic 4 (some .int) 1 := ⟨tk_1244, tk_p46, tk_10, tk_1245, by decide, by decide, by decide +kernel⟩
theorem iX9_delivers : jV0 yX9_delivers cX9_delivers 4 none 0 := ⟨tk_1224, tk_p41, tk_10, tk_1225, by decide, by decide, by decide +kernel⟩
theorem iX9_deliversUpTo : jV0 yX9_deliversUpTo cX9_deliversUpTo 3 (some .int) 1 := ⟨tk_1220, tk_p40, tk_10, tk_1221, by decide, by decide, by decide +kernel⟩
theorem iX9_deliver : jV0 yX9_deliver cX9_deliver 3 (some .int) 1 := ⟨tk_1215, tk_1216, tk_10, tk_1217, by decide, by decide, by decide +kernel⟩
theorem iX8_messages : jV0 yX8_messages cX8_messages 1 (some .int) 0 := ⟨tk_285, tk_286, tk_1, tk_287, by decide, by decide, by decide +kernel⟩
theorem iX9_messages : jV0 yX9_messages cX9_messages 1 (some .int) 0 := ⟨tk_1251, tk_1252, tk_10, tk_1253, by decide, by decide, by decide +kernel⟩
theorem iX4_property : jV0 yX4_property cX4_property 4 (some .int) 2 := ⟨tk_530, tk_531, tk_4, tk_532, by decide, by decide, by decide +kernel⟩
theorem iX8_message : jV0 yX8_message cX8_message 3 (some .int) 2 := ⟨tk_847, tk_848, tk_1, tk_849, by decide, by decide, by decide +kernel⟩
theorem iL_message : jH0 yL_message cL_message 5 (some .int) [(0, 10, 13, 21)] 4 := ⟨tk_844, tk_0, tk_845, by decide, by decide, by decide +kernel⟩
theorem iX9_mail : jV0 yX9_mail cX9_mail 6 (some .int) 2 := ⟨tk_1260, tk_p48, tk_10, tk_1261, by decide, by decide, by decide +kernel⟩
theorem iX9_message : jV0 yX9_message cX9_message 3 (some .int) 2 := ⟨tk_1255, tk_1256, tk_10, tk_1257, by decide, by decide, by decide +kernel⟩
theorem iX8_told : jV0 yX8_told cX8_told 2 (some .int) 1 := ⟨tk_854, tk_855, tk_1, tk_856, by decide, by decide, by decide +kernel⟩
theorem iL_told : jH0 yL_told cL_told 4 (some .int) [(0, 9, 12, 21)] 3 := ⟨tk_851, tk_0, tk_852, by decide, by decide, by decide +kernel⟩
theorem iX9_told : jV0 yX9_told cX9_told 2 (some .int) 1 := ⟨tk_1263, tk_1264, tk_10, tk_1265, by decide, by decide, by decide +kernel⟩
theorem iX8_onCycles : jV0 yX8_onCycles cX8_onCycles 1 (some .int) 0 := ⟨tk_289, tk_290, tk_1, tk_291, by decide, by decide, by decide +kernel⟩
theorem iX9_onCycles : jV0 yX9_onCycles cX9_onCycles 1 (some .int) 0 := ⟨tk_1267, tk_1268, tk_10, tk_1269, by decide, by decide, by decide +kernel⟩
theorem iX7_leadingToRings : jV0 yX7_leadingToRings cX7_leadingToRings 3 (some .int) 0 := ⟨tk_316, tk_317, tk_6, tk_318, by decide, by decide, by decide +kernel⟩
theorem iX8_stuck : jV0 yX8_stuck cX8_stuck 1 (some .int) 0 := ⟨tk_312, tk_313, tk_1, tk_314, by decide, by decide, by decide +kernel⟩
theorem iX9_stuckTasks : jV0 yX9_stuckTasks cX9_stuckTasks 4 (some .int) 0 := ⟨tk_1276, tk_p49, tk_10, tk_1277, by decide, by decide, by decide +kernel⟩
theorem iX9_stuck : jV0 yX9_stuck cX9_stuck 1 (some .int) 0 := ⟨tk_1271, tk_1272, tk_10, tk_1273, by decide, by decide, by decide +kernel⟩
theorem iX7_shortestRing : jV0 yX7_shortestRing cX7_shortestRing 6 (some .int) 1 := ⟨tk_865, tk_866, tk_6, tk_867, by decide, by decide, by decide +kernel⟩
theorem iX8_shortestCycle : jV0 yX8_shortestCycle cX8_shortestCycle 2 (some .int) 1 := ⟨tk_861, tk_862, tk_1, tk_863, by decide, by decide, by decide +kernel⟩
theorem iL_shortestCycle : jH0 yL_shortestCycle cL_shortestCycle 4 (some .int) [(0, 9, 12, 13)] 3 := ⟨tk_858, tk_0, tk_859, by decide, by decide, by decide +kernel⟩
theorem iX9_shortestCycle : jV0 yX9_shortestCycle cX9_shortestCycle 6 (some .int) 1 := ⟨tk_1279, tk_1280, tk_10, tk_1281, by decide, by decide, by decide +kernel⟩
theorem iX7_extend : jV0 yX7_extend cX7_extend 6 none 4 := ⟨tk_332, tk_333, tk_6, tk_334, by decide, by decide, by decide +kernel⟩
theorem iX7_ringsFrom : jV0 yX7_ringsFrom cX7_ringsFrom 10 (some .int) 2 := ⟨tk_328, tk_329, tk_6, tk_330, by decide, by decide, by decide +kernel⟩
theorem iX7_countRings : jV0 yX7_countRings cX7_countRings 4 (some .int) 0 := ⟨tk_324, tk_325, tk_6, tk_326, by decide, by decide, by decide +kernel⟩
theorem iX8_cycles : jV0 yX8_cycles cX8_cycles 1 (some .int) 0 := ⟨tk_320, tk_321, tk_1, tk_322, by decide, by decide, by decide +kernel⟩
theorem iX9_cycles : jV0 yX9_cycles cX9_cycles 9 (some .int) 0 := ⟨tk_1283, tk_1284, tk_10, tk_1285, by decide, by decide, by decide +kernel⟩
theorem iX9_latest : jV0 yX9_latest cX9_latest 2 (some .int) 1 := ⟨tk_1287, tk_1288, tk_10, tk_1289, by decide, by decide, by decide +kernel⟩
theorem iX7_costOf : jV0 yX7_costOf cX7_costOf 5 (some .int) 2 := ⟨tk_344, tk_345, tk_6, tk_346, by decide, by decide, by decide +kernel⟩
theorem iX7_isRingFree : jV0 yX7_isRingFree cX7_isRingFree 6 (some .boolean) 1 := ⟨tk_354, tk_355, tk_6, tk_356, by decide, by decide, by decide +kernel⟩
theorem iX7_leastVictims : jV0 yX7_leastVictims cX7_leastVictims 7 (some .int) 1 := ⟨tk_340, tk_341, tk_6, tk_342, by decide, by decide, by decide +kernel⟩
theorem iX8_bestVictims : jV0 yX8_bestVictims cX8_bestVictims 1 (some .int) 0 := ⟨tk_336, tk_337, tk_1, tk_338, by decide, by decide, by decide +kernel⟩
theorem iX9_costOf : jV0 yX9_costOf cX9_costOf 4 (some .int) 1 := ⟨tk_1296, tk_p50, tk_10, tk_1297, by decide, by decide, by decide +kernel⟩
theorem iX9_bestVictims : jV0 yX9_bestVictims cX9_bestVictims 6 (some .int) 0 := ⟨tk_1291, tk_1292, tk_10, tk_1293, by decide, by decide, by decide +kernel⟩
theorem iX0_lowestRunning : jV0 yX0_lowestRunning cX0_lowestRunning 2 (some .int) 0 := ⟨tk_379, tk_380, tk_2, tk_381, by decide, by decide, by decide +kernel⟩
theorem iX8_wouldEnd : jV0 yX8_wouldEnd cX8_wouldEnd 4 (some .int) 0 := ⟨tk_358, tk_359, tk_1, tk_360, by decide, by decide, by decide +kernel⟩
theorem iX9_wouldEnd : jV0 yX9_wouldEnd cX9_wouldEnd 5 (some .int) 0 := ⟨tk_1299, tk_1300, tk_10, tk_1301, by decide, by decide, by decide +kernel⟩
theorem iX5_append : jV0 yX5_append cX5_append 2 (some .int) 1 := ⟨tk_883, tk_884, tk_9, tk_885, by decide, by decide, by decide +kernel⟩
theorem iX8_type : jV0 yX8_type cX8_type 2 (some .int) 1 := ⟨tk_879, tk_880, tk_1, tk_881, by decide, by decide, by decide +kernel⟩
theorem iL_type : jH0 yL_type cL_type 4 (some .int) [(0, 9, 12, 21), (0, 9, 15, 15)] 3 := ⟨tk_876, tk_0, tk_877, by decide, by decide, by decide +kernel⟩
theorem iX9_type : jV0 yX9_type cX9_type 2 (some .int) 1 := ⟨tk_1303, tk_1304, tk_10, tk_1305, by decide, by decide, by decide +kernel⟩
theorem iX8_clearText : jV0 yX8_clearText cX8_clearText 2 (some .int) 0 := ⟨tk_403, tk_404, tk_1, tk_405, by decide, by decide, by decide +kernel⟩
theorem iX9_clearText : jV0 yX9_clearText cX9_clearText 2 (some .int) 0 := ⟨tk_1307, tk_1308, tk_10, tk_1309, by decide, by decide, by decide +kernel⟩
theorem iX5_numbersAfter : jS0 yX5_numbersAfter cX5_numbersAfter 1 (some .int) 1 := ⟨tk_415, tk_9, tk_416, by decide, by decide, by decide +kernel⟩
theorem iX8_isDigit : jS0 yX8_isDigit cX8_isDigit 1 (some .boolean) 1 := ⟨tk_418, tk_1, tk_419, by decide, by decide, by decide +kernel⟩
theorem iX5_firstFault : jV0 yX5_firstFault cX5_firstFault 5 (some .int) 0 := ⟨tk_411, tk_412, tk_9, tk_413, by decide, by decide, by decide +kernel⟩
theorem iX8_fault : jV0 yX8_fault cX8_fault 1 (some .int) 0 := ⟨tk_407, tk_408, tk_1, tk_409, by decide, by decide, by decide +kernel⟩
theorem iX9_here : jV0 yX9_here cX9_here 2 (some .int) 1 := ⟨tk_1320, tk_p52, tk_10, tk_1321, by decide, by decide, by decide +kernel⟩
theorem iX9_arguments : jS0 yX9_arguments cX9_arguments 1 (some .int) 1 := ⟨tk_1323, tk_10, tk_1324, by decide, by decide, by decide +kernel⟩
theorem iX9_readsNumber : jV0 yX9_readsNumber cX9_readsNumber 2 (some .boolean) 0 := ⟨tk_1331, tk_p54, tk_10, tk_1332, by decide, by decide, by decide +kernel⟩
theorem iX9_readsCommand : jV0 yX9_readsCommand cX9_readsCommand 3 (some .boolean) 1 := ⟨tk_1327, tk_p53, tk_10, tk_1328, by decide, by decide, by decide +kernel⟩
theorem iX9_faultOf : jV0 yX9_faultOf cX9_faultOf 2 (some .int) 0 := ⟨tk_1316, tk_p51, tk_10, tk_1317, by decide, by decide, by decide +kernel⟩
theorem iX9_fault : jV0 yX9_fault cX9_fault 1 (some .int) 0 := ⟨tk_1311, tk_1312, tk_10, tk_1313, by decide, by decide, by decide +kernel⟩
theorem iX8_isAllowed : jV0 yX8_isAllowed cX8_isAllowed 4 (some .boolean) 3 := ⟨tk_895, tk_p1, tk_1, tk_896, by decide, by decide, by decide +kernel⟩
theorem iX8_carryOut : jV0 yX8_carryOut cX8_carryOut 4 none 3 := ⟨tk_899, tk_p2, tk_1, tk_900, by decide, by decide, by decide +kernel⟩
theorem iX8_run : jV0 yX8_run cX8_run 7 (some .int) 0 := ⟨tk_890, tk_891, tk_1, tk_892, by decide, by decide, by decide +kernel⟩
theorem iL_run : jH0 yL_run cL_run 3 (some .int) [(0, 8, 11, 21)] 2 := ⟨tk_887, tk_0, tk_888, by decide, by decide, by decide +kernel⟩
theorem iX9_does : jV0 yX9_does cX9_does 7 (some .boolean) 3 := ⟨tk_1339, tk_p55, tk_10, tk_1340, by decide, by decide, by decide +kernel⟩
theorem iX9_run : jV0 yX9_run cX9_run 4 (some .int) 0 := ⟨tk_1334, tk_1335, tk_10, tk_1336, by decide, by decide, by decide +kernel⟩
theorem iX3_bringBack : jV0 yX3_bringBack cX3_bringBack 3 none 1 := ⟨tk_910, tk_911, tk_8, tk_912, by decide, by decide, by decide +kernel⟩
theorem iX8_undo : jV0 yX8_undo cX8_undo 1 (some .int) 0 := ⟨tk_906, tk_907, tk_1, tk_908, by decide, by decide, by decide +kernel⟩
theorem iL_undo : jH0 yL_undo cL_undo 3 (some .int) [(0, 8, 11, 15)] 2 := ⟨tk_903, tk_0, tk_904, by decide, by decide, by decide +kernel⟩
theorem iX9_undo : jV0 yX9_undo cX9_undo 2 (some .int) 0 := ⟨tk_985, tk_986, tk_10, tk_987, by decide, by decide, by decide +kernel⟩
theorem iX8_mix : jS0 yX8_mix cX8_mix 4 (some .long) 2 := ⟨tk_426, tk_1, tk_427, by decide, by decide, by decide +kernel⟩
theorem iX8_checksum : jV0 yX8_checksum cX8_checksum 5 (some .long) 0 := ⟨tk_421, tk_422, tk_1, tk_423, by decide, by decide, by decide +kernel⟩
theorem iX9_mixes : jV0 yX9_mixes cX9_mixes 2 none 1 := ⟨tk_1348, tk_p56, tk_10, tk_1349, by decide, by decide, by decide +kernel⟩
theorem iX9_checksum : jV0 yX9_checksum cX9_checksum 3 (some .long) 0 := ⟨tk_1342, tk_1343, tk_10, tk_1344, by decide, by decide, by decide +kernel⟩
